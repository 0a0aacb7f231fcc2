theorem dX12_goThrough_0 : decode cX12_goThrough 0 = .ok (.aload_n 0, 1) := by decide +kernel
theorem dX12_goThrough_1 : decode cX12_goThrough 1 = .ok (.invokevirtual 462, 3) := by decide +kernel
theorem dX12_goThrough_4 : decode cX12_goThrough 4 = .ok (.aload_n 0, 1) := by decide +kernel
theorem dX12_goThrough_5 : decode cX12_goThrough 5 = .ok (.iload_n 1, 1) := by decide +kernel
theorem dX12_goThrough_6 : decode cX12_goThrough 6 = .ok (.invokevirtual 465, 3) := by decide +kernel
theorem dX12_goThrough_9 : decode cX12_goThrough 9 = .ok (.aload_n 0, 1) := by decide +kernel
theorem dX12_goThrough_10 : decode cX12_goThrough 10 = .ok (.iconst 0, 1) := by decide +kernel
theorem dX12_goThrough_11 : decode cX12_goThrough 11 = .ok (.putfield 436, 3) := by decide +kernel
theorem dX12_goThrough_14 : decode cX12_goThrough 14 = .ok (.aload_n 0, 1) := by decide +kernel
theorem dX12_goThrough_15 : decode cX12_goThrough 15 = .ok (.iload_n 2, 1) := by decide +kernel
theorem dX12_goThrough_16 : decode cX12_goThrough 16 = .ok (.putfield 442, 3) := by decide +kernel
theorem dX12_goThrough_19 : decode cX12_goThrough 19 = .ok (.aload_n 0, 1) := by decide +kernel
theorem dX12_goThrough_20 : decode cX12_goThrough 20 = .ok (.iload_n 3, 1) := by decide +kernel
theorem dX12_goThrough_21 : decode cX12_goThrough 21 = .ok (.putfield 439, 3) := by decide +kernel
theorem dX12_goThrough_24 : decode cX12_goThrough 24 = .ok (.iconst 0, 1) := by decide +kernel
theorem dX12_goThrough_25 : decode cX12_goThrough 25 = .ok (.istore 4, 2) := by decide +kernel
theorem dX12_goThrough_27 : decode cX12_goThrough 27 = .ok (.iload 4, 2) := by decide +kernel
theorem dX12_goThrough_29 : decode cX12_goThrough 29 = .ok (.aload_n 0, 1) := by decide +kernel
theorem dX12_goThrough_30 : decode cX12_goThrough 30 = .ok (.getfield 21, 3) := by decide +kernel
theorem dX12_goThrough_33 : decode cX12_goThrough 33 = .ok (.iconst 0, 1) := by decide +kernel
theorem dX12_goThrough_34 : decode cX12_goThrough 34 = .ok (.iaload, 1) := by decide +kernel
theorem dX12_goThrough_35 : decode cX12_goThrough 35 = .ok (.if_icmp .ge 83, 3) := by decide +kernel
theorem dX12_goThrough_38 : decode cX12_goThrough 38 = .ok (.aload_n 0, 1) := by decide +kernel
theorem dX12_goThrough_39 : decode cX12_goThrough 39 = .ok (.iload 4, 2) := by decide +kernel
theorem dX12_goThrough_41 : decode cX12_goThrough 41 = .ok (.iload_n 1, 1) := by decide +kernel
theorem dX12_goThrough_42 : decode cX12_goThrough 42 = .ok (.invokevirtual 420, 3) := by decide +kernel
theorem dX12_goThrough_45 : decode cX12_goThrough 45 = .ok (.ifCond .ne 6, 3) := by decide +kernel
theorem dX12_goThrough_48 : decode cX12_goThrough 48 = .ok (.goto 64, 3) := by decide +kernel
theorem dX12_goThrough_51 : decode cX12_goThrough 51 = .ok (.aload_n 0, 1) := by decide +kernel
theorem dX12_goThrough_52 : decode cX12_goThrough 52 = .ok (.getfield 130, 3) := by decide +kernel
theorem dX12_goThrough_55 : decode cX12_goThrough 55 = .ok (.iconst 0, 1) := by decide +kernel
theorem dX12_goThrough_56 : decode cX12_goThrough 56 = .ok (.iload 4, 2) := by decide +kernel
theorem dX12_goThrough_58 : decode cX12_goThrough 58 = .ok (.iastore, 1) := by decide +kernel
theorem dX12_goThrough_59 : decode cX12_goThrough 59 = .ok (.aload_n 0, 1) := by decide +kernel
theorem dX12_goThrough_60 : decode cX12_goThrough 60 = .ok (.iconst 1, 1) := by decide +kernel
theorem dX12_goThrough_61 : decode cX12_goThrough 61 = .ok (.iload_n 1, 1) := by decide +kernel
theorem dX12_goThrough_62 : decode cX12_goThrough 62 = .ok (.invokevirtual 451, 3) := by decide +kernel
theorem dX12_goThrough_65 : decode cX12_goThrough 65 = .ok (.iconst 0, 1) := by decide +kernel
theorem dX12_goThrough_66 : decode cX12_goThrough 66 = .ok (.istore 5, 2) := by decide +kernel
theorem dX12_goThrough_68 : decode cX12_goThrough 68 = .ok (.iload 5, 2) := by decide +kernel
theorem dX12_goThrough_70 : decode cX12_goThrough 70 = .ok (.aload_n 0, 1) := by decide +kernel
theorem dX12_goThrough_71 : decode cX12_goThrough 71 = .ok (.getfield 21, 3) := by decide +kernel
theorem dX12_goThrough_74 : decode cX12_goThrough 74 = .ok (.iconst 0, 1) := by decide +kernel
theorem dX12_goThrough_75 : decode cX12_goThrough 75 = .ok (.iaload, 1) := by decide +kernel
theorem dX12_goThrough_76 : decode cX12_goThrough 76 = .ok (.if_icmp .ge 36, 3) := by decide +kernel
theorem dX12_goThrough_79 : decode cX12_goThrough 79 = .ok (.aload_n 0, 1) := by decide +kernel
theorem dX12_goThrough_80 : decode cX12_goThrough 80 = .ok (.iload 5, 2) := by decide +kernel
theorem dX12_goThrough_82 : decode cX12_goThrough 82 = .ok (.iload_n 1, 1) := by decide +kernel
theorem dX12_goThrough_83 : decode cX12_goThrough 83 = .ok (.invokevirtual 423, 3) := by decide +kernel
theorem dX12_goThrough_86 : decode cX12_goThrough 86 = .ok (.ifCond .ne 6, 3) := by decide +kernel
theorem dX12_goThrough_89 : decode cX12_goThrough 89 = .ok (.goto 17, 3) := by decide +kernel
theorem dX12_goThrough_92 : decode cX12_goThrough 92 = .ok (.aload_n 0, 1) := by decide +kernel
theorem dX12_goThrough_93 : decode cX12_goThrough 93 = .ok (.getfield 130, 3) := by decide +kernel
theorem dX12_goThrough_96 : decode cX12_goThrough 96 = .ok (.iconst 1, 1) := by decide +kernel
theorem dX12_goThrough_97 : decode cX12_goThrough 97 = .ok (.iload 5, 2) := by decide +kernel
theorem dX12_goThrough_99 : decode cX12_goThrough 99 = .ok (.iastore, 1) := by decide +kernel
theorem dX12_goThrough_100 : decode cX12_goThrough 100 = .ok (.aload_n 0, 1) := by decide +kernel
theorem dX12_goThrough_101 : decode cX12_goThrough 101 = .ok (.iconst 2, 1) := by decide +kernel
theorem dX12_goThrough_102 : decode cX12_goThrough 102 = .ok (.iload_n 1, 1) := by decide +kernel
theorem dX12_goThrough_103 : decode cX12_goThrough 103 = .ok (.invokevirtual 451, 3) := by decide +kernel
theorem dX12_goThrough_106 : decode cX12_goThrough 106 = .ok (.iinc 5 1, 3) := by decide +kernel
theorem dX12_goThrough_109 : decode cX12_goThrough 109 = .ok (.goto (-41), 3) := by decide +kernel
theorem dX12_goThrough_112 : decode cX12_goThrough 112 = .ok (.iinc 4 1, 3) := by decide +kernel
theorem dX12_goThrough_115 : decode cX12_goThrough 115 = .ok (.goto (-88), 3) := by decide +kernel
theorem dX12_goThrough_118 : decode cX12_goThrough 118 = .ok (.aload_n 0, 1) := by decide +kernel
theorem dX12_goThrough_119 : decode cX12_goThrough 119 = .ok (.invokevirtual 426, 3) := by decide +kernel
theorem dX12_goThrough_122 : decode cX12_goThrough 122 = .ok (.aload_n 0, 1) := by decide +kernel
theorem dX12_goThrough_123 : decode cX12_goThrough 123 = .ok (.iconst 0, 1) := by decide +kernel
theorem dX12_goThrough_124 : decode cX12_goThrough 124 = .ok (.aload_n 0, 1) := by decide +kernel
theorem dX12_goThrough_125 : decode cX12_goThrough 125 = .ok (.getfield 112, 3) := by decide +kernel
theorem dX12_goThrough_128 : decode cX12_goThrough 128 = .ok (.iload_n 1, 1) := by decide +kernel
theorem dX12_goThrough_129 : decode cX12_goThrough 129 = .ok (.laload, 1) := by decide +kernel
theorem dX12_goThrough_130 : decode cX12_goThrough 130 = .ok (.lconst 0, 1) := by decide +kernel
theorem dX12_goThrough_131 : decode cX12_goThrough 131 = .ok (.lcmp, 1) := by decide +kernel
theorem dX12_goThrough_132 : decode cX12_goThrough 132 = .ok (.ifCond .eq 8, 3) := by decide +kernel
theorem dX12_goThrough_135 : decode cX12_goThrough 135 = .ok (.bipush 11, 2) := by decide +kernel
theorem dX12_goThrough_137 : decode cX12_goThrough 137 = .ok (.goto 5, 3) := by decide +kernel
theorem dX12_goThrough_140 : decode cX12_goThrough 140 = .ok (.bipush 12, 2) := by decide +kernel
theorem dX12_goThrough_142 : decode cX12_goThrough 142 = .ok (.iload_n 1, 1) := by decide +kernel
theorem dX12_goThrough_143 : decode cX12_goThrough 143 = .ok (.invokevirtual 458, 3) := by decide +kernel
theorem dX12_goThrough_146 : decode cX12_goThrough 146 = .ok (.aload_n 0, 1) := by decide +kernel
theorem dX12_goThrough_147 : decode cX12_goThrough 147 = .ok (.getfield 436, 3) := by decide +kernel
theorem dX12_goThrough_150 : decode cX12_goThrough 150 = .ok (.iload_n 2, 1) := by decide +kernel
theorem dX12_goThrough_151 : decode cX12_goThrough 151 = .ok (.if_icmp .le 8, 3) := by decide +kernel
theorem dX12_goThrough_154 : decode cX12_goThrough 154 = .ok (.bipush (-3), 2) := by decide +kernel
theorem dX12_goThrough_156 : decode cX12_goThrough 156 = .ok (.goto 7, 3) := by decide +kernel
theorem dX12_goThrough_159 : decode cX12_goThrough 159 = .ok (.aload_n 0, 1) := by decide +kernel
theorem dX12_goThrough_160 : decode cX12_goThrough 160 = .ok (.getfield 436, 3) := by decide +kernel
theorem dX12_goThrough_163 : decode cX12_goThrough 163 = .ok (.ireturn, 1) := by decide +kernel
abbrev rm_X12_goThrough : Room := { frames := 29, cells := 0, slots := 0, locals := 733 }
def f_X12_goThrough_68 (N : Nat) (k27 : Int32 → Int32 → Int32 → St → Option (Int32 × St)) : Nat → Int32 → Int32 → Int32 → Int32 → St → Option (Int32 × St)
  | 0, _, _, _, _, _ => none
  | n + 1, x1, x2, x4, x5, σ => grd (ib 0 2) ((if (σ.1 3 0) ≤ x5 then k27 x1 x2 (x4 + 1) σ else bo (f_X12_isTail N x5 x1 σ) (fun r15_ => (if r15_ = 0 then f_X12_goThrough_68 N k27 n x1 x2 x4 (x5 + 1) σ else grd (ib 1 12) (bo (f_X12_bodyComes N 2 x1 (si σ 39 1 x5)) (fun σ18 => f_X12_goThrough_68 N k27 n x1 x2 x4 (x5 + 1) σ18))))))
def f_X12_goThrough_142 (N : Nat) (x1 : Int32) (x2 : Int32) (t1 : Int32) (t2 : Int32) (σ : St) : Option (Int32 × St) := bo (f_X12_coversFrom N 20 t1 t2 x1 σ) (fun σ19 => (if (σ19.1 1061 0) ≤ x2 then some (σ19.1 1061 0, σ19) else some ((-3), σ19)))
def f_X12_goThrough_27 (N : Nat) : Nat → Int32 → Int32 → Int32 → St → Option (Int32 × St)
  | 0, _, _, _, _ => none
  | n + 1, x1, x2, x4, σ => grd (ib 0 2) ((if (σ.1 3 0) ≤ x4 then bo (f_X12_beginCover N σ) (fun σ6 => grd (ib x1 40) ((if (lg_cmp (σ6.2 33 x1.toNatClampNeg) 0) = 0 then f_X12_goThrough_142 N x1 x2 0 12 σ6 else f_X12_goThrough_142 N x1 x2 0 11 σ6))) else bo (f_X12_isIdea x4 x1 σ) (fun r9_ => (if r9_ = 0 then f_X12_goThrough_27 N n x1 x2 (x4 + 1) σ else grd (ib 0 12) (bo (f_X12_bodyComes N 1 x1 (si σ 39 0 x4)) (fun σ12 => f_X12_goThrough_68 N (f_X12_goThrough_27 N n) N x1 x2 x4 0 σ12))))))
def f_X12_goThrough (N : Nat) (x1 : Int32) (x2 : Int32) (x3 : Int32) (σ : St) : Option (Int32 × St) := bo (f_X12_asListed N σ) (fun σ1 => bo (f_X12_makeLeft N x1 σ1) (fun σ2 => grd (zbb x3) (f_X12_goThrough_27 N N x1 x2 0 (si (si (si σ2 1061 0 0) 1062 0 x2) 1063 0 x3))))
section
variable {p : Program} {l : Launch} {e : Env} {s : State} {m : MethodId} {args : Array Value} {below : List Frame} {meth : Method} {c : Code} {g : XG}
set_option maxRecDepth 4000 in
theorem w_X12_goThrough_68 (N : Nat) (k27 : Int32 → Int32 → Int32 → St → Option (Int32 × St)) {r : Int32} {σ' : St} (C : xC KM g RX12 cX12_goThrough 6 (some .int) p s m args meth c) (hk27 : ∀ (x1 : Int32) (x2 : Int32) (x4 : Int32) (σ : St) (H : Heap) (locs : List Loc) (ls : Array Slot), xW KM g s σ H locs → lv_has ls 6 [(0, .ref (g.q 0)), (1, .int x1), (2, .int x2), (4, .int x4)] → k27 x1 x2 x4 σ = some (r, σ') → W p l e rm_X12_goThrough s m args below meth c H locs 0 0 (MQ below (xPost KM g (some (.int r)) σ') args s 0 0 (xA KM g.q)) (F0 m 27 ls [])) : ∀ (n : Nat), ∀ (x1 : Int32) (x2 : Int32) (x4 : Int32) (x5 : Int32) (σ : St) (H : Heap) (locs : List Loc) (ls : Array Slot), xW KM g s σ H locs → lv_has ls 6 [(0, .ref (g.q 0)), (1, .int x1), (2, .int x2), (4, .int x4), (5, .int x5)] → f_X12_goThrough_68 N k27 n x1 x2 x4 x5 σ = some (r, σ') → W p l e rm_X12_goThrough s m args below meth c H locs 0 0 (MQ below (xPost KM g (some (.int r)) σ') args s 0 0 (xA KM g.q)) (F0 m 68 ls []) := by
  have hx := C.1
  have hb := C.2.1
  intro n
  induction n with
  | zero => intro x1 x2 x4 x5 σ H locs ls hW hl h; rw [f_X12_goThrough_68] at h; cases h
  | succ n ih =>
    intro x1 x2 x4 x5 σ H locs ls hW hl h
    rw [f_X12_goThrough_68] at h
    refine lv_iload hx hb dX12_goThrough_68 (lv_at hl 4 rfl) ?_
    refine lv_aload_n hx hb dX12_goThrough_70 rfl (lv_at hl 0 rfl) ?_
    refine xg_r C hW fg_12_21 KM_0 rfl dX12_goThrough_71 ?_
    refine lv_iconst (v := 0) hx hb dX12_goThrough_74 rfl ?_
    obtain ⟨g13, h⟩ := xgd h
    refine xa_i C hW KM_3 g13 (x := σ.1 3 0) rfl dX12_goThrough_75 ?_
    refine lv_icmp_ge (tgt := 112) hx hb dX12_goThrough_76 (by decide) (fun c14 => ?_) (fun c14 => ?_)
    · have h := xit c14 h
      refine lv_iinc (v := x4 + 1) (lv' := [(4, .int (x4 + 1)), (0, .ref (g.q 0)), (1, .int x1), (2, .int x2), (5, .int x5)]) hx hb dX12_goThrough_112 hl (k := 3) rfl rfl (Nat.le_of_ble_eq_true rfl) rfl (fun ls hl => ?_)
      refine lv_goto (tgt := 27) hx hb dX12_goThrough_115 (by decide) ?_
      exact hk27 x1 x2 (x4 + 1) _ _ _ _ hW (lv_sub hl [1, 2, 3, 0] rfl) h
    · have h := xif c14 h
      refine lv_aload_n hx hb dX12_goThrough_79 rfl (lv_at hl 0 rfl) ?_
      refine lv_iload hx hb dX12_goThrough_80 (lv_at hl 4 rfl) ?_
      refine lv_iload_n hx hb dX12_goThrough_82 rfl (lv_at hl 1 rfl) ?_
      obtain ⟨r15_, e15, h⟩ := xbo h
      refine xc_V (As := [.int x5, .int x1]) (rest := []) C hW (m_X12_isTail N x5 x1 _ e15) mf_X12_isTail mv_X12_isTail ml_X12_423 ⟨rfl, rfl⟩ ⟨Nat.le_of_ble_eq_true rfl, Nat.le_of_ble_eq_true rfl⟩ KM_0 rfl hl.1 rfl rfl (Nat.le_of_ble_eq_true rfl) dX12_goThrough_83 (fun H locs hW => W.eq (g2 := F0 m 86 ls [.int r15_]) rfl ?_)
      refine lv_if_ne (tgt := 92) hx hb dX12_goThrough_86 (by decide) (fun c16 => ?_) (fun c16 => ?_)
      · have h := xif c16 h
        refine lv_aload_n hx hb dX12_goThrough_92 rfl (lv_at hl 0 rfl) ?_
        refine xg_r C hW fg_12_130 KM_0 rfl dX12_goThrough_93 ?_
        refine lv_iconst (v := 1) hx hb dX12_goThrough_96 rfl ?_
        refine lv_iload hx hb dX12_goThrough_97 (lv_at hl 4 rfl) ?_
        obtain ⟨g17, h⟩ := xgd h
        refine xs_i C hW KM_39 g17 dX12_goThrough_99 (fun H locs hW => ?_)
        refine lv_aload_n hx hb dX12_goThrough_100 rfl (lv_at hl 0 rfl) ?_
        refine lv_iconst (v := 2) hx hb dX12_goThrough_101 rfl ?_
        refine lv_iload_n hx hb dX12_goThrough_102 rfl (lv_at hl 1 rfl) ?_
        obtain ⟨σ18, e18, h⟩ := xbo h
        refine xc_V (As := [.int 2, .int x1]) (rest := []) C hW (m_X12_bodyComes N 2 x1 _ e18) mf_X12_bodyComes mv_X12_bodyComes ml_X12_451 ⟨rfl, rfl⟩ ⟨Nat.le_of_ble_eq_true rfl, Nat.le_of_ble_eq_true rfl⟩ KM_0 rfl hl.1 rfl rfl (Nat.le_of_ble_eq_true rfl) dX12_goThrough_103 (fun H locs hW => W.eq (g2 := F0 m 106 ls []) rfl ?_)
        refine lv_iinc (v := x5 + 1) (lv' := [(5, .int (x5 + 1)), (0, .ref (g.q 0)), (1, .int x1), (2, .int x2), (4, .int x4)]) hx hb dX12_goThrough_106 hl (k := 4) rfl rfl (Nat.le_of_ble_eq_true rfl) rfl (fun ls hl => ?_)
        refine lv_goto (tgt := 68) hx hb dX12_goThrough_109 (by decide) ?_
        exact ih x1 x2 x4 (x5 + 1) _ _ _ _ hW (lv_sub hl [1, 2, 3, 4, 0] rfl) h
      · have h := xit c16 h
        refine lv_goto (tgt := 106) hx hb dX12_goThrough_89 (by decide) ?_
        refine lv_iinc (v := x5 + 1) (lv' := [(5, .int (x5 + 1)), (0, .ref (g.q 0)), (1, .int x1), (2, .int x2), (4, .int x4)]) hx hb dX12_goThrough_106 hl (k := 4) rfl rfl (Nat.le_of_ble_eq_true rfl) rfl (fun ls hl => ?_)
        refine lv_goto (tgt := 68) hx hb dX12_goThrough_109 (by decide) ?_
        exact ih x1 x2 x4 (x5 + 1) _ _ _ _ hW (lv_sub hl [1, 2, 3, 4, 0] rfl) h
set_option maxRecDepth 4000 in
theorem w_X12_goThrough_142 (N : Nat) {r : Int32} {σ' : St} (C : xC KM g RX12 cX12_goThrough 6 (some .int) p s m args meth c) : ∀ (x1 : Int32) (x2 : Int32) (t1 : Int32) (t2 : Int32) (σ : St) (H : Heap) (locs : List Loc) (ls : Array Slot), xW KM g s σ H locs → lv_has ls 6 [(0, .ref (g.q 0)), (1, .int x1), (2, .int x2)] → f_X12_goThrough_142 N x1 x2 t1 t2 σ = some (r, σ') → W p l e rm_X12_goThrough s m args below meth c H locs 0 0 (MQ below (xPost KM g (some (.int r)) σ') args s 0 0 (xA KM g.q)) (F0 m 142 ls [.int t2, .int t1, .ref (g.q 0)]) := by
  have hx := C.1
  have hb := C.2.1
  intro x1 x2 t1 t2 σ H locs ls hW hl h
  unfold f_X12_goThrough_142 at h
  refine lv_iload_n hx hb dX12_goThrough_142 rfl (lv_at hl 1 rfl) ?_
  obtain ⟨σ19, e19, h⟩ := xbo h
  refine xc_V (As := [.int t1, .int t2, .int x1]) (rest := []) C hW (m_X12_coversFrom N 20 t1 t2 x1 _ e19) mf_X12_coversFrom mv_X12_coversFrom ml_X12_458 ⟨rfl, rfl⟩ ⟨Nat.le_of_ble_eq_true rfl, Nat.le_of_ble_eq_true rfl⟩ KM_0 rfl hl.1 rfl rfl (Nat.le_of_ble_eq_true rfl) dX12_goThrough_143 (fun H locs hW => W.eq (g2 := F0 m 146 ls []) rfl ?_)
  refine lv_aload_n hx hb dX12_goThrough_146 rfl (lv_at hl 0 rfl) ?_
  refine xg_i C hW fg_12_436 KM_0 rfl (v := 1061) rfl (x := σ19.1 1061 0) rfl dX12_goThrough_147 ?_
  refine lv_iload_n hx hb dX12_goThrough_150 rfl (lv_at hl 2 rfl) ?_
  refine lv_icmp_le (tgt := 159) hx hb dX12_goThrough_151 (by decide) (fun c20 => ?_) (fun c20 => ?_)
  · have h := xit c20 h
    refine lv_aload_n hx hb dX12_goThrough_159 rfl (lv_at hl 0 rfl) ?_
    refine xg_i C hW fg_12_436 KM_0 rfl (v := 1061) rfl (x := σ19.1 1061 0) rfl dX12_goThrough_160 ?_
    cases h
    exact xr_i C hW dX12_goThrough_163
  · have h := xif c20 h
    refine lv_bipush (v := (-3)) hx hb dX12_goThrough_154 rfl ?_
    refine lv_goto (tgt := 163) hx hb dX12_goThrough_156 (by decide) ?_
    cases h
    exact xr_i C hW dX12_goThrough_163
set_option maxRecDepth 4000 in
theorem w_X12_goThrough_27 (N : Nat) {r : Int32} {σ' : St} (C : xC KM g RX12 cX12_goThrough 6 (some .int) p s m args meth c) : ∀ (n : Nat), ∀ (x1 : Int32) (x2 : Int32) (x4 : Int32) (σ : St) (H : Heap) (locs : List Loc) (ls : Array Slot), xW KM g s σ H locs → lv_has ls 6 [(0, .ref (g.q 0)), (1, .int x1), (2, .int x2), (4, .int x4)] → f_X12_goThrough_27 N n x1 x2 x4 σ = some (r, σ') → W p l e rm_X12_goThrough s m args below meth c H locs 0 0 (MQ below (xPost KM g (some (.int r)) σ') args s 0 0 (xA KM g.q)) (F0 m 27 ls []) := by
  have hx := C.1
  have hb := C.2.1
  intro n
  induction n with
  | zero => intro x1 x2 x4 σ H locs ls hW hl h; rw [f_X12_goThrough_27] at h; cases h
  | succ n ih =>
    intro x1 x2 x4 σ H locs ls hW hl h
    rw [f_X12_goThrough_27] at h
    refine lv_iload hx hb dX12_goThrough_27 (lv_at hl 3 rfl) ?_
    refine lv_aload_n hx hb dX12_goThrough_29 rfl (lv_at hl 0 rfl) ?_
    refine xg_r C hW fg_12_21 KM_0 rfl dX12_goThrough_30 ?_
    refine lv_iconst (v := 0) hx hb dX12_goThrough_33 rfl ?_
    obtain ⟨g4, h⟩ := xgd h
    refine xa_i C hW KM_3 g4 (x := σ.1 3 0) rfl dX12_goThrough_34 ?_
    refine lv_icmp_ge (tgt := 118) hx hb dX12_goThrough_35 (by decide) (fun c5 => ?_) (fun c5 => ?_)
    · have h := xit c5 h
      refine lv_aload_n hx hb dX12_goThrough_118 rfl (lv_at hl 0 rfl) ?_
      obtain ⟨σ6, e6, h⟩ := xbo h
      refine xc_V (As := []) (rest := []) C hW (m_X12_beginCover N _ e6) mf_X12_beginCover mv_X12_beginCover ml_X12_426 ⟨rfl, rfl⟩ ⟨Nat.le_of_ble_eq_true rfl, Nat.le_of_ble_eq_true rfl⟩ KM_0 rfl hl.1 rfl rfl (Nat.le_of_ble_eq_true rfl) dX12_goThrough_119 (fun H locs hW => W.eq (g2 := F0 m 122 ls []) rfl ?_)
      refine lv_aload_n hx hb dX12_goThrough_122 rfl (lv_at hl 0 rfl) ?_
      refine lv_iconst (v := 0) hx hb dX12_goThrough_123 rfl ?_
      refine lv_aload_n hx hb dX12_goThrough_124 rfl (lv_at hl 0 rfl) ?_
      refine xg_r C hW fg_12_112 KM_0 rfl dX12_goThrough_125 ?_
      refine lv_iload_n hx hb dX12_goThrough_128 rfl (lv_at hl 1 rfl) ?_
      obtain ⟨g7, h⟩ := xgd h
      refine xa_l C hW KM_33 g7 (x := σ6.2 33 x1.toNatClampNeg) rfl dX12_goThrough_129 ?_
      refine lv_lconst (v := 0) hx hb dX12_goThrough_130 rfl ?_
      refine W.lcmp hx hb dX12_goThrough_131 ?_
      refine lv_if_eq (tgt := 140) hx hb dX12_goThrough_132 (by decide) (fun c8 => ?_) (fun c8 => ?_)
      · have h := xit c8 h
        refine lv_bipush (v := 12) hx hb dX12_goThrough_140 rfl ?_
        exact w_X12_goThrough_142 N C x1 x2 0 12 _ _ _ _ hW (lv_sub hl [0, 1, 2] rfl) h
      · have h := xif c8 h
        refine lv_bipush (v := 11) hx hb dX12_goThrough_135 rfl ?_
        refine lv_goto (tgt := 142) hx hb dX12_goThrough_137 (by decide) ?_
        exact w_X12_goThrough_142 N C x1 x2 0 11 _ _ _ _ hW (lv_sub hl [0, 1, 2] rfl) h
    · have h := xif c5 h
      refine lv_aload_n hx hb dX12_goThrough_38 rfl (lv_at hl 0 rfl) ?_
      refine lv_iload hx hb dX12_goThrough_39 (lv_at hl 3 rfl) ?_
      refine lv_iload_n hx hb dX12_goThrough_41 rfl (lv_at hl 1 rfl) ?_
      obtain ⟨r9_, e9, h⟩ := xbo h
      refine xc_V (As := [.int x4, .int x1]) (rest := []) C hW (m_X12_isIdea x4 x1 _ e9) mf_X12_isIdea mv_X12_isIdea ml_X12_420 ⟨rfl, rfl⟩ ⟨Nat.le_of_ble_eq_true rfl, Nat.le_of_ble_eq_true rfl⟩ KM_0 rfl hl.1 rfl rfl (Nat.le_of_ble_eq_true rfl) dX12_goThrough_42 (fun H locs hW => W.eq (g2 := F0 m 45 ls [.int r9_]) rfl ?_)
      refine lv_if_ne (tgt := 51) hx hb dX12_goThrough_45 (by decide) (fun c10 => ?_) (fun c10 => ?_)
      · have h := xif c10 h
        refine lv_aload_n hx hb dX12_goThrough_51 rfl (lv_at hl 0 rfl) ?_
        refine xg_r C hW fg_12_130 KM_0 rfl dX12_goThrough_52 ?_
        refine lv_iconst (v := 0) hx hb dX12_goThrough_55 rfl ?_
        refine lv_iload hx hb dX12_goThrough_56 (lv_at hl 3 rfl) ?_
        obtain ⟨g11, h⟩ := xgd h
        refine xs_i C hW KM_39 g11 dX12_goThrough_58 (fun H locs hW => ?_)
        refine lv_aload_n hx hb dX12_goThrough_59 rfl (lv_at hl 0 rfl) ?_
        refine lv_iconst (v := 1) hx hb dX12_goThrough_60 rfl ?_
        refine lv_iload_n hx hb dX12_goThrough_61 rfl (lv_at hl 1 rfl) ?_
        obtain ⟨σ12, e12, h⟩ := xbo h
        refine xc_V (As := [.int 1, .int x1]) (rest := []) C hW (m_X12_bodyComes N 1 x1 _ e12) mf_X12_bodyComes mv_X12_bodyComes ml_X12_451 ⟨rfl, rfl⟩ ⟨Nat.le_of_ble_eq_true rfl, Nat.le_of_ble_eq_true rfl⟩ KM_0 rfl hl.1 rfl rfl (Nat.le_of_ble_eq_true rfl) dX12_goThrough_62 (fun H locs hW => W.eq (g2 := F0 m 65 ls []) rfl ?_)
        refine lv_iconst (v := 0) hx hb dX12_goThrough_65 rfl ?_
        refine lv_istore (lv' := [(5, .int 0), (0, .ref (g.q 0)), (1, .int x1), (2, .int x2), (4, .int x4)]) hx hb dX12_goThrough_66 hl (Nat.le_of_ble_eq_true rfl) rfl (fun ls hl => ?_)
        exact w_X12_goThrough_68 N (f_X12_goThrough_27 N n) C ih N x1 x2 x4 0 _ _ _ _ hW (lv_sub hl [1, 2, 3, 4, 0] rfl) h
      · have h := xit c10 h
        refine lv_goto (tgt := 112) hx hb dX12_goThrough_48 (by decide) ?_
        refine lv_iinc (v := x4 + 1) (lv' := [(4, .int (x4 + 1)), (0, .ref (g.q 0)), (1, .int x1), (2, .int x2)]) hx hb dX12_goThrough_112 hl (k := 3) rfl rfl (Nat.le_of_ble_eq_true rfl) rfl (fun ls hl => ?_)
        refine lv_goto (tgt := 27) hx hb dX12_goThrough_115 (by decide) ?_
        exact ih x1 x2 (x4 + 1) _ _ _ _ hW (lv_sub hl [1, 2, 3, 0] rfl) h
set_option maxRecDepth 4000 in
theorem m_X12_goThrough (N : Nat) (x1 : Int32) (x2 : Int32) (x3 : Int32) (σ : St) {r : Int32} {σ' : St} (h : f_X12_goThrough N x1 x2 x3 σ = some (r, σ')) : xM l KM g yX12_goThrough cX12_goThrough 6 (some .int) rm_X12_goThrough [.ref (g.q 0), .int x1, .int x2, .int x3] σ (some (.int r)) σ' := by
  refine xmet pn_X12 rfl (Nat.le_of_ble_eq_true rfl) (lv := [(0, .ref (g.q 0)), (1, .int x1), (2, .int x2), (3, .int x3)]) rfl (fun p e s m args below meth c ls C hW hl => ?_)
  have hx := C.1
  have hb := C.2.1
  unfold f_X12_goThrough at h
  refine lv_aload_n hx hb dX12_goThrough_0 rfl (lv_at hl 0 rfl) ?_
  obtain ⟨σ1, e1, h⟩ := xbo h
  refine xc_V (As := []) (rest := []) C hW (m_X12_asListed N _ e1) mf_X12_asListed mv_X12_asListed ml_X12_462 ⟨rfl, rfl⟩ ⟨Nat.le_of_ble_eq_true rfl, Nat.le_of_ble_eq_true rfl⟩ KM_0 rfl hl.1 rfl rfl (Nat.le_of_ble_eq_true rfl) dX12_goThrough_1 (fun H locs hW => W.eq (g2 := F0 m 4 ls []) rfl ?_)
  refine lv_aload_n hx hb dX12_goThrough_4 rfl (lv_at hl 0 rfl) ?_
  refine lv_iload_n hx hb dX12_goThrough_5 rfl (lv_at hl 1 rfl) ?_
  obtain ⟨σ2, e2, h⟩ := xbo h
  refine xc_V (As := [.int x1]) (rest := []) C hW (m_X12_makeLeft N x1 _ e2) mf_X12_makeLeft mv_X12_makeLeft ml_X12_465 ⟨rfl, rfl⟩ ⟨Nat.le_of_ble_eq_true rfl, Nat.le_of_ble_eq_true rfl⟩ KM_0 rfl hl.1 rfl rfl (Nat.le_of_ble_eq_true rfl) dX12_goThrough_6 (fun H locs hW => W.eq (g2 := F0 m 9 ls []) rfl ?_)
  refine lv_aload_n hx hb dX12_goThrough_9 rfl (lv_at hl 0 rfl) ?_
  refine lv_iconst (v := 0) hx hb dX12_goThrough_10 rfl ?_
  refine xp_i C hW fp_12_436 KM_0 rfl (v := 1061) rfl rfl rfl dX12_goThrough_11 (fun H locs hW => ?_)
  refine lv_aload_n hx hb dX12_goThrough_14 rfl (lv_at hl 0 rfl) ?_
  refine lv_iload_n hx hb dX12_goThrough_15 rfl (lv_at hl 2 rfl) ?_
  refine xp_i C hW fp_12_442 KM_0 rfl (v := 1062) rfl rfl rfl dX12_goThrough_16 (fun H locs hW => ?_)
  refine lv_aload_n hx hb dX12_goThrough_19 rfl (lv_at hl 0 rfl) ?_
  refine lv_iload_n hx hb dX12_goThrough_20 rfl (lv_at hl 3 rfl) ?_
  obtain ⟨g3, h⟩ := xgd h
  refine xp_i C hW fp_12_439 KM_0 rfl (v := 1063) rfl (zbb_n g3) (zbb_f g3) dX12_goThrough_21 (fun H locs hW => ?_)
  refine lv_iconst (v := 0) hx hb dX12_goThrough_24 rfl ?_
  refine lv_istore (lv' := [(4, .int 0), (0, .ref (g.q 0)), (1, .int x1), (2, .int x2), (3, .int x3)]) hx hb dX12_goThrough_25 hl (Nat.le_of_ble_eq_true rfl) rfl (fun ls hl => ?_)
  exact w_X12_goThrough_27 N C N x1 x2 0 _ _ _ _ hW (lv_sub hl [1, 2, 3, 0] rfl) h
end
theorem dX12_spellings_0 : decode cX12_spellings 0 = .ok (.aload_n 0, 1) := by decide +kernel
theorem dX12_spellings_1 : decode cX12_spellings 1 = .ok (.iload_n 1, 1) := by decide +kernel
theorem dX12_spellings_2 : decode cX12_spellings 2 = .ok (.invokevirtual 411, 3) := by decide +kernel
theorem dX12_spellings_5 : decode cX12_spellings 5 = .ok (.ifCond .eq 15, 3) := by decide +kernel
theorem dX12_spellings_8 : decode cX12_spellings 8 = .ok (.aload_n 0, 1) := by decide +kernel
theorem dX12_spellings_9 : decode cX12_spellings 9 = .ok (.iload_n 1, 1) := by decide +kernel
theorem dX12_spellings_10 : decode cX12_spellings 10 = .ok (.ldc_w 468, 3) := by decide +kernel
theorem dX12_spellings_13 : decode cX12_spellings 13 = .ok (.iconst 0, 1) := by decide +kernel
theorem dX12_spellings_14 : decode cX12_spellings 14 = .ok (.invokevirtual 469, 3) := by decide +kernel
theorem dX12_spellings_17 : decode cX12_spellings 17 = .ok (.goto 5, 3) := by decide +kernel
theorem dX12_spellings_20 : decode cX12_spellings 20 = .ok (.bipush (-2), 2) := by decide +kernel
theorem dX12_spellings_22 : decode cX12_spellings 22 = .ok (.ireturn, 1) := by decide +kernel
abbrev rm_X12_spellings : Room := { frames := 30, cells := 0, slots := 0, locals := 758 }
def f_X12_spellings (N : Nat) (x1 : Int32) (σ : St) : Option (Int32 × St) := bo (f_X12_isTerm x1 σ) (fun r1_ => (if r1_ = 0 then some ((-2), σ) else bd (f_X12_goThrough N x1 100000 0 σ) (fun r3_ σ3 => some (r3_, σ3))))
section
variable {p : Program} {l : Launch} {e : Env} {s : State} {m : MethodId} {args : Array Value} {below : List Frame} {meth : Method} {c : Code} {g : XG}
set_option maxRecDepth 4000 in
theorem m_X12_spellings (N : Nat) (x1 : Int32) (σ : St) {r : Int32} {σ' : St} (h : f_X12_spellings N x1 σ = some (r, σ')) : xM l KM g yX12_spellings cX12_spellings 2 (some .int) rm_X12_spellings [.ref (g.q 0), .int x1] σ (some (.int r)) σ' := by
  refine xmet pn_X12 rfl (Nat.le_of_ble_eq_true rfl) (lv := [(0, .ref (g.q 0)), (1, .int x1)]) rfl (fun p e s m args below meth c ls C hW hl => ?_)
  have hx := C.1
  have hb := C.2.1
  unfold f_X12_spellings at h
  refine lv_aload_n hx hb dX12_spellings_0 rfl (lv_at hl 0 rfl) ?_
  refine lv_iload_n hx hb dX12_spellings_1 rfl (lv_at hl 1 rfl) ?_
  obtain ⟨r1_, e1, h⟩ := xbo h
  refine xc_V (As := [.int x1]) (rest := []) C hW (m_X12_isTerm x1 _ e1) mf_X12_isTerm mv_X12_isTerm ml_X12_411 ⟨rfl, rfl⟩ ⟨Nat.le_of_ble_eq_true rfl, Nat.le_of_ble_eq_true rfl⟩ KM_0 rfl hl.1 rfl rfl (Nat.le_of_ble_eq_true rfl) dX12_spellings_2 (fun H locs hW => W.eq (g2 := F0 m 5 ls [.int r1_]) rfl ?_)
  refine lv_if_eq (tgt := 20) hx hb dX12_spellings_5 (by decide) (fun c2 => ?_) (fun c2 => ?_)
  · have h := xit c2 h
    refine lv_bipush (v := (-2)) hx hb dX12_spellings_20 rfl ?_
    cases h
    exact xr_i C hW dX12_spellings_22
  · have h := xif c2 h
    refine lv_aload_n hx hb dX12_spellings_8 rfl (lv_at hl 0 rfl) ?_
    refine lv_iload_n hx hb dX12_spellings_9 rfl (lv_at hl 1 rfl) ?_
    refine lv_ldcw (v := 100000) hx hb C.ow (C.hts _ kc_X12_468) dX12_spellings_10 ?_
    refine lv_iconst (v := 0) hx hb dX12_spellings_13 rfl ?_
    obtain ⟨r3_, σ3, e3, h⟩ := xbd h
    refine xc_V (As := [.int x1, .int 100000, .int 0]) (rest := []) C hW (m_X12_goThrough N x1 100000 0 _ e3) mf_X12_goThrough mv_X12_goThrough ml_X12_469 ⟨rfl, rfl⟩ ⟨Nat.le_of_ble_eq_true rfl, Nat.le_of_ble_eq_true rfl⟩ KM_0 rfl hl.1 rfl rfl (Nat.le_of_ble_eq_true rfl) dX12_spellings_14 (fun H locs hW => W.eq (g2 := F0 m 17 ls [.int r3_]) rfl ?_)
    refine lv_goto (tgt := 22) hx hb dX12_spellings_17 (by decide) ?_
    cases h
    exact xr_i C hW dX12_spellings_22
end
