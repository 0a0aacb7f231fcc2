theorem dX12_takeDraft_0 : decode cX12_takeDraft 0 = .ok (.iconst 0, 1) := by decide +kernel
theorem dX12_takeDraft_1 : decode cX12_takeDraft 1 = .ok (.istore_n 1, 1) := by decide +kernel
theorem dX12_takeDraft_2 : decode cX12_takeDraft 2 = .ok (.iload_n 1, 1) := by decide +kernel
theorem dX12_takeDraft_3 : decode cX12_takeDraft 3 = .ok (.iconst 4, 1) := by decide +kernel
theorem dX12_takeDraft_4 : decode cX12_takeDraft 4 = .ok (.if_icmp .ge 23, 3) := by decide +kernel
theorem dX12_takeDraft_7 : decode cX12_takeDraft 7 = .ok (.aload_n 0, 1) := by decide +kernel
theorem dX12_takeDraft_8 : decode cX12_takeDraft 8 = .ok (.getfield 17, 3) := by decide +kernel
theorem dX12_takeDraft_11 : decode cX12_takeDraft 11 = .ok (.iload_n 1, 1) := by decide +kernel
theorem dX12_takeDraft_12 : decode cX12_takeDraft 12 = .ok (.aload_n 0, 1) := by decide +kernel
theorem dX12_takeDraft_13 : decode cX12_takeDraft 13 = .ok (.getfield 17, 3) := by decide +kernel
theorem dX12_takeDraft_16 : decode cX12_takeDraft 16 = .ok (.iconst 4, 1) := by decide +kernel
theorem dX12_takeDraft_17 : decode cX12_takeDraft 17 = .ok (.iload_n 1, 1) := by decide +kernel
theorem dX12_takeDraft_18 : decode cX12_takeDraft 18 = .ok (.iadd, 1) := by decide +kernel
theorem dX12_takeDraft_19 : decode cX12_takeDraft 19 = .ok (.iaload, 1) := by decide +kernel
theorem dX12_takeDraft_20 : decode cX12_takeDraft 20 = .ok (.iastore, 1) := by decide +kernel
theorem dX12_takeDraft_21 : decode cX12_takeDraft 21 = .ok (.iinc 1 1, 3) := by decide +kernel
theorem dX12_takeDraft_24 : decode cX12_takeDraft 24 = .ok (.goto (-22), 3) := by decide +kernel
theorem dX12_takeDraft_27 : decode cX12_takeDraft 27 = .ok (.aload_n 0, 1) := by decide +kernel
theorem dX12_takeDraft_28 : decode cX12_takeDraft 28 = .ok (.getfield 21, 3) := by decide +kernel
theorem dX12_takeDraft_31 : decode cX12_takeDraft 31 = .ok (.iconst 0, 1) := by decide +kernel
theorem dX12_takeDraft_32 : decode cX12_takeDraft 32 = .ok (.aload_n 0, 1) := by decide +kernel
theorem dX12_takeDraft_33 : decode cX12_takeDraft 33 = .ok (.getfield 21, 3) := by decide +kernel
theorem dX12_takeDraft_36 : decode cX12_takeDraft 36 = .ok (.iconst 1, 1) := by decide +kernel
theorem dX12_takeDraft_37 : decode cX12_takeDraft 37 = .ok (.iaload, 1) := by decide +kernel
theorem dX12_takeDraft_38 : decode cX12_takeDraft 38 = .ok (.iastore, 1) := by decide +kernel
theorem dX12_takeDraft_39 : decode cX12_takeDraft 39 = .ok (.iconst 0, 1) := by decide +kernel
theorem dX12_takeDraft_40 : decode cX12_takeDraft 40 = .ok (.istore_n 1, 1) := by decide +kernel
theorem dX12_takeDraft_41 : decode cX12_takeDraft 41 = .ok (.iload_n 1, 1) := by decide +kernel
theorem dX12_takeDraft_42 : decode cX12_takeDraft 42 = .ok (.bipush 40, 2) := by decide +kernel
theorem dX12_takeDraft_44 : decode cX12_takeDraft 44 = .ok (.if_icmp .ge 119, 3) := by decide +kernel
theorem dX12_takeDraft_47 : decode cX12_takeDraft 47 = .ok (.bipush 40, 2) := by decide +kernel
theorem dX12_takeDraft_49 : decode cX12_takeDraft 49 = .ok (.iload_n 1, 1) := by decide +kernel
theorem dX12_takeDraft_50 : decode cX12_takeDraft 50 = .ok (.iadd, 1) := by decide +kernel
theorem dX12_takeDraft_51 : decode cX12_takeDraft 51 = .ok (.istore_n 2, 1) := by decide +kernel
theorem dX12_takeDraft_52 : decode cX12_takeDraft 52 = .ok (.aload_n 0, 1) := by decide +kernel
theorem dX12_takeDraft_53 : decode cX12_takeDraft 53 = .ok (.getfield 24, 3) := by decide +kernel
theorem dX12_takeDraft_56 : decode cX12_takeDraft 56 = .ok (.iload_n 1, 1) := by decide +kernel
theorem dX12_takeDraft_57 : decode cX12_takeDraft 57 = .ok (.aload_n 0, 1) := by decide +kernel
theorem dX12_takeDraft_58 : decode cX12_takeDraft 58 = .ok (.getfield 24, 3) := by decide +kernel
theorem dX12_takeDraft_61 : decode cX12_takeDraft 61 = .ok (.iload_n 2, 1) := by decide +kernel
theorem dX12_takeDraft_62 : decode cX12_takeDraft 62 = .ok (.laload, 1) := by decide +kernel
theorem dX12_takeDraft_63 : decode cX12_takeDraft 63 = .ok (.lastore, 1) := by decide +kernel
theorem dX12_takeDraft_64 : decode cX12_takeDraft 64 = .ok (.aload_n 0, 1) := by decide +kernel
theorem dX12_takeDraft_65 : decode cX12_takeDraft 65 = .ok (.getfield 28, 3) := by decide +kernel
theorem dX12_takeDraft_68 : decode cX12_takeDraft 68 = .ok (.iload_n 1, 1) := by decide +kernel
theorem dX12_takeDraft_69 : decode cX12_takeDraft 69 = .ok (.aload_n 0, 1) := by decide +kernel
theorem dX12_takeDraft_70 : decode cX12_takeDraft 70 = .ok (.getfield 28, 3) := by decide +kernel
theorem dX12_takeDraft_73 : decode cX12_takeDraft 73 = .ok (.iload_n 2, 1) := by decide +kernel
theorem dX12_takeDraft_74 : decode cX12_takeDraft 74 = .ok (.iaload, 1) := by decide +kernel
theorem dX12_takeDraft_75 : decode cX12_takeDraft 75 = .ok (.iastore, 1) := by decide +kernel
theorem dX12_takeDraft_76 : decode cX12_takeDraft 76 = .ok (.aload_n 0, 1) := by decide +kernel
theorem dX12_takeDraft_77 : decode cX12_takeDraft 77 = .ok (.getfield 31, 3) := by decide +kernel
theorem dX12_takeDraft_80 : decode cX12_takeDraft 80 = .ok (.iload_n 1, 1) := by decide +kernel
theorem dX12_takeDraft_81 : decode cX12_takeDraft 81 = .ok (.aload_n 0, 1) := by decide +kernel
theorem dX12_takeDraft_82 : decode cX12_takeDraft 82 = .ok (.getfield 31, 3) := by decide +kernel
theorem dX12_takeDraft_85 : decode cX12_takeDraft 85 = .ok (.iload_n 2, 1) := by decide +kernel
theorem dX12_takeDraft_86 : decode cX12_takeDraft 86 = .ok (.iaload, 1) := by decide +kernel
theorem dX12_takeDraft_87 : decode cX12_takeDraft 87 = .ok (.iastore, 1) := by decide +kernel
theorem dX12_takeDraft_88 : decode cX12_takeDraft 88 = .ok (.aload_n 0, 1) := by decide +kernel
theorem dX12_takeDraft_89 : decode cX12_takeDraft 89 = .ok (.getfield 34, 3) := by decide +kernel
theorem dX12_takeDraft_92 : decode cX12_takeDraft 92 = .ok (.iload_n 1, 1) := by decide +kernel
theorem dX12_takeDraft_93 : decode cX12_takeDraft 93 = .ok (.aload_n 0, 1) := by decide +kernel
theorem dX12_takeDraft_94 : decode cX12_takeDraft 94 = .ok (.getfield 34, 3) := by decide +kernel
theorem dX12_takeDraft_97 : decode cX12_takeDraft 97 = .ok (.iload_n 2, 1) := by decide +kernel
theorem dX12_takeDraft_98 : decode cX12_takeDraft 98 = .ok (.iaload, 1) := by decide +kernel
theorem dX12_takeDraft_99 : decode cX12_takeDraft 99 = .ok (.iastore, 1) := by decide +kernel
theorem dX12_takeDraft_100 : decode cX12_takeDraft 100 = .ok (.aload_n 0, 1) := by decide +kernel
theorem dX12_takeDraft_101 : decode cX12_takeDraft 101 = .ok (.getfield 37, 3) := by decide +kernel
theorem dX12_takeDraft_104 : decode cX12_takeDraft 104 = .ok (.iload_n 1, 1) := by decide +kernel
theorem dX12_takeDraft_105 : decode cX12_takeDraft 105 = .ok (.aload_n 0, 1) := by decide +kernel
theorem dX12_takeDraft_106 : decode cX12_takeDraft 106 = .ok (.getfield 37, 3) := by decide +kernel
theorem dX12_takeDraft_109 : decode cX12_takeDraft 109 = .ok (.iload_n 2, 1) := by decide +kernel
theorem dX12_takeDraft_110 : decode cX12_takeDraft 110 = .ok (.iaload, 1) := by decide +kernel
theorem dX12_takeDraft_111 : decode cX12_takeDraft 111 = .ok (.iastore, 1) := by decide +kernel
theorem dX12_takeDraft_112 : decode cX12_takeDraft 112 = .ok (.aload_n 0, 1) := by decide +kernel
theorem dX12_takeDraft_113 : decode cX12_takeDraft 113 = .ok (.getfield 43, 3) := by decide +kernel
theorem dX12_takeDraft_116 : decode cX12_takeDraft 116 = .ok (.iload_n 1, 1) := by decide +kernel
theorem dX12_takeDraft_117 : decode cX12_takeDraft 117 = .ok (.aload_n 0, 1) := by decide +kernel
theorem dX12_takeDraft_118 : decode cX12_takeDraft 118 = .ok (.getfield 43, 3) := by decide +kernel
theorem dX12_takeDraft_121 : decode cX12_takeDraft 121 = .ok (.iload_n 2, 1) := by decide +kernel
theorem dX12_takeDraft_122 : decode cX12_takeDraft 122 = .ok (.laload, 1) := by decide +kernel
theorem dX12_takeDraft_123 : decode cX12_takeDraft 123 = .ok (.lastore, 1) := by decide +kernel
theorem dX12_takeDraft_124 : decode cX12_takeDraft 124 = .ok (.iconst 0, 1) := by decide +kernel
theorem dX12_takeDraft_125 : decode cX12_takeDraft 125 = .ok (.istore_n 3, 1) := by decide +kernel
theorem dX12_takeDraft_126 : decode cX12_takeDraft 126 = .ok (.iload_n 3, 1) := by decide +kernel
theorem dX12_takeDraft_127 : decode cX12_takeDraft 127 = .ok (.iconst 3, 1) := by decide +kernel
theorem dX12_takeDraft_128 : decode cX12_takeDraft 128 = .ok (.if_icmp .ge 29, 3) := by decide +kernel
theorem dX12_takeDraft_131 : decode cX12_takeDraft 131 = .ok (.aload_n 0, 1) := by decide +kernel
theorem dX12_takeDraft_132 : decode cX12_takeDraft 132 = .ok (.getfield 40, 3) := by decide +kernel
theorem dX12_takeDraft_135 : decode cX12_takeDraft 135 = .ok (.iconst 3, 1) := by decide +kernel
theorem dX12_takeDraft_136 : decode cX12_takeDraft 136 = .ok (.iload_n 1, 1) := by decide +kernel
theorem dX12_takeDraft_137 : decode cX12_takeDraft 137 = .ok (.imul, 1) := by decide +kernel
theorem dX12_takeDraft_138 : decode cX12_takeDraft 138 = .ok (.iload_n 3, 1) := by decide +kernel
theorem dX12_takeDraft_139 : decode cX12_takeDraft 139 = .ok (.iadd, 1) := by decide +kernel
theorem dX12_takeDraft_140 : decode cX12_takeDraft 140 = .ok (.aload_n 0, 1) := by decide +kernel
theorem dX12_takeDraft_141 : decode cX12_takeDraft 141 = .ok (.getfield 40, 3) := by decide +kernel
theorem dX12_takeDraft_144 : decode cX12_takeDraft 144 = .ok (.iconst 3, 1) := by decide +kernel
theorem dX12_takeDraft_145 : decode cX12_takeDraft 145 = .ok (.iload_n 2, 1) := by decide +kernel
theorem dX12_takeDraft_146 : decode cX12_takeDraft 146 = .ok (.imul, 1) := by decide +kernel
theorem dX12_takeDraft_147 : decode cX12_takeDraft 147 = .ok (.iload_n 3, 1) := by decide +kernel
theorem dX12_takeDraft_148 : decode cX12_takeDraft 148 = .ok (.iadd, 1) := by decide +kernel
theorem dX12_takeDraft_149 : decode cX12_takeDraft 149 = .ok (.iaload, 1) := by decide +kernel
theorem dX12_takeDraft_150 : decode cX12_takeDraft 150 = .ok (.iastore, 1) := by decide +kernel
theorem dX12_takeDraft_151 : decode cX12_takeDraft 151 = .ok (.iinc 3 1, 3) := by decide +kernel
theorem dX12_takeDraft_154 : decode cX12_takeDraft 154 = .ok (.goto (-28), 3) := by decide +kernel
theorem dX12_takeDraft_157 : decode cX12_takeDraft 157 = .ok (.iinc 1 1, 3) := by decide +kernel
theorem dX12_takeDraft_160 : decode cX12_takeDraft 160 = .ok (.goto (-119), 3) := by decide +kernel
theorem dX12_takeDraft_163 : decode cX12_takeDraft 163 = .ok (.return_, 1) := by decide +kernel
abbrev rm_X12_takeDraft : Room := { frames := 0, cells := 0, slots := 0, locals := 0 }
def f_X12_takeDraft_126 (N : Nat) (k41 : Int32 → St → Option St) : Nat → Int32 → Int32 → Int32 → St → Option St
  | 0, _, _, _, _ => none
  | n + 1, x1, x2, x3, σ => (if 3 ≤ x3 then k41 (x1 + 1) σ else grd (ib ((3 * x2) + x3) 240) (grd (ib ((3 * x1) + x3) 240) (f_X12_takeDraft_126 N k41 n x1 x2 (x3 + 1) (si σ 9 ((3 * x1) + x3).toNatClampNeg (σ.1 9 ((3 * x2) + x3).toNatClampNeg)))))
def f_X12_takeDraft_41 (N : Nat) : Nat → Int32 → St → Option St
  | 0, _, _ => none
  | n + 1, x1, σ => (if 40 ≤ x1 then some σ else grd (ib (40 + x1) 80) (grd (ib x1 80) (grd (ib (40 + x1) 80) (grd (ib x1 80) (grd (ib (40 + x1) 80) (grd (ib x1 80) (grd (ib (40 + x1) 80) (grd (ib x1 80) (grd (ib (40 + x1) 80) (grd (ib x1 80) (grd (ib (40 + x1) 80) (grd (ib x1 80) (f_X12_takeDraft_126 N (f_X12_takeDraft_41 N n) N x1 (40 + x1) 0 (sl (si (si (si (si (sl σ 4 x1.toNatClampNeg (σ.2 4 (40 + x1).toNatClampNeg)) 5 x1.toNatClampNeg (σ.1 5 (40 + x1).toNatClampNeg)) 6 x1.toNatClampNeg (σ.1 6 (40 + x1).toNatClampNeg)) 7 x1.toNatClampNeg (σ.1 7 (40 + x1).toNatClampNeg)) 8 x1.toNatClampNeg (σ.1 8 (40 + x1).toNatClampNeg)) 10 x1.toNatClampNeg (σ.2 10 (40 + x1).toNatClampNeg)))))))))))))))
def f_X12_takeDraft_2 (N : Nat) : Nat → Int32 → St → Option St
  | 0, _, _ => none
  | n + 1, x1, σ => (if 4 ≤ x1 then grd (ib 1 2) (grd (ib 0 2) (f_X12_takeDraft_41 N N 0 (si σ 3 0 (σ.1 3 1)))) else grd (ib (4 + x1) 8) (grd (ib x1 8) (f_X12_takeDraft_2 N n (x1 + 1) (si σ 2 x1.toNatClampNeg (σ.1 2 (4 + x1).toNatClampNeg)))))
def f_X12_takeDraft (N : Nat) (σ : St) : Option St := f_X12_takeDraft_2 N N 0 σ
section
variable {p : Program} {l : Launch} {e : Env} {s : State} {m : MethodId} {args : Array Value} {below : List Frame} {meth : Method} {c : Code} {g : XG}
set_option maxRecDepth 4000 in
theorem w_X12_takeDraft_126 (N : Nat) (k41 : Int32 → St → Option St) {σ' : St} (C : xC KM g RX12 cX12_takeDraft 4 none p s m args meth c) (hk41 : ∀ (x1 : Int32) (σ : St) (H : Heap) (locs : List Loc) (ls : Array Slot), xW KM g s σ H locs → lv_has ls 4 [(0, .ref (g.q 0)), (1, .int x1)] → k41 x1 σ = some σ' → W p l e rm_X12_takeDraft s m args below meth c H locs 0 0 (MQ below (xPost KM g none σ') args s 0 0 (xA KM g.q)) (F0 m 41 ls [])) : ∀ (n : Nat), ∀ (x1 : Int32) (x2 : Int32) (x3 : Int32) (σ : St) (H : Heap) (locs : List Loc) (ls : Array Slot), xW KM g s σ H locs → lv_has ls 4 [(0, .ref (g.q 0)), (1, .int x1), (2, .int x2), (3, .int x3)] → f_X12_takeDraft_126 N k41 n x1 x2 x3 σ = some σ' → W p l e rm_X12_takeDraft s m args below meth c H locs 0 0 (MQ below (xPost KM g none σ') args s 0 0 (xA KM g.q)) (F0 m 126 ls []) := by
  have hx := C.1
  have hb := C.2.1
  intro n
  induction n with
  | zero => intro x1 x2 x3 σ H locs ls hW hl h; rw [f_X12_takeDraft_126] at h; cases h
  | succ n ih =>
    intro x1 x2 x3 σ H locs ls hW hl h
    rw [f_X12_takeDraft_126] at h
    refine lv_iload_n hx hb dX12_takeDraft_126 rfl (lv_at hl 3 rfl) ?_
    refine lv_iconst (v := 3) hx hb dX12_takeDraft_127 rfl ?_
    refine lv_icmp_ge (tgt := 157) hx hb dX12_takeDraft_128 (by decide) (fun c19 => ?_) (fun c19 => ?_)
    · have h := xit c19 h
      refine lv_iinc (v := x1 + 1) (lv' := [(1, .int (x1 + 1)), (0, .ref (g.q 0)), (2, .int x2), (3, .int x3)]) hx hb dX12_takeDraft_157 hl (k := 1) rfl rfl (Nat.le_of_ble_eq_true rfl) rfl (fun ls hl => ?_)
      refine lv_goto (tgt := 41) hx hb dX12_takeDraft_160 (by decide) ?_
      exact hk41 (x1 + 1) _ _ _ _ hW (lv_sub hl [1, 0] rfl) h
    · have h := xif c19 h
      refine lv_aload_n hx hb dX12_takeDraft_131 rfl (lv_at hl 0 rfl) ?_
      refine xg_r C hW fg_12_40 KM_0 rfl dX12_takeDraft_132 ?_
      refine lv_iconst (v := 3) hx hb dX12_takeDraft_135 rfl ?_
      refine lv_iload_n hx hb dX12_takeDraft_136 rfl (lv_at hl 1 rfl) ?_
      refine lv_imul hx hb dX12_takeDraft_137 ?_
      refine lv_iload_n hx hb dX12_takeDraft_138 rfl (lv_at hl 3 rfl) ?_
      refine lv_iadd hx hb dX12_takeDraft_139 ?_
      refine lv_aload_n hx hb dX12_takeDraft_140 rfl (lv_at hl 0 rfl) ?_
      refine xg_r C hW fg_12_40 KM_0 rfl dX12_takeDraft_141 ?_
      refine lv_iconst (v := 3) hx hb dX12_takeDraft_144 rfl ?_
      refine lv_iload_n hx hb dX12_takeDraft_145 rfl (lv_at hl 2 rfl) ?_
      refine lv_imul hx hb dX12_takeDraft_146 ?_
      refine lv_iload_n hx hb dX12_takeDraft_147 rfl (lv_at hl 3 rfl) ?_
      refine lv_iadd hx hb dX12_takeDraft_148 ?_
      obtain ⟨g20, h⟩ := xgd h
      refine xa_i C hW KM_9 g20 (x := σ.1 9 ((3 * x2) + x3).toNatClampNeg) rfl dX12_takeDraft_149 ?_
      obtain ⟨g21, h⟩ := xgd h
      refine xs_i C hW KM_9 g21 dX12_takeDraft_150 (fun H locs hW => ?_)
      refine lv_iinc (v := x3 + 1) (lv' := [(3, .int (x3 + 1)), (0, .ref (g.q 0)), (1, .int x1), (2, .int x2)]) hx hb dX12_takeDraft_151 hl (k := 3) rfl rfl (Nat.le_of_ble_eq_true rfl) rfl (fun ls hl => ?_)
      refine lv_goto (tgt := 126) hx hb dX12_takeDraft_154 (by decide) ?_
      exact ih x1 x2 (x3 + 1) _ _ _ _ hW (lv_sub hl [1, 2, 3, 0] rfl) h
set_option maxRecDepth 4000 in
theorem w_X12_takeDraft_41 (N : Nat) {σ' : St} (C : xC KM g RX12 cX12_takeDraft 4 none p s m args meth c) : ∀ (n : Nat), ∀ (x1 : Int32) (σ : St) (H : Heap) (locs : List Loc) (ls : Array Slot), xW KM g s σ H locs → lv_has ls 4 [(0, .ref (g.q 0)), (1, .int x1)] → f_X12_takeDraft_41 N n x1 σ = some σ' → W p l e rm_X12_takeDraft s m args below meth c H locs 0 0 (MQ below (xPost KM g none σ') args s 0 0 (xA KM g.q)) (F0 m 41 ls []) := by
  have hx := C.1
  have hb := C.2.1
  intro n
  induction n with
  | zero => intro x1 σ H locs ls hW hl h; rw [f_X12_takeDraft_41] at h; cases h
  | succ n ih =>
    intro x1 σ H locs ls hW hl h
    rw [f_X12_takeDraft_41] at h
    refine lv_iload_n hx hb dX12_takeDraft_41 rfl (lv_at hl 1 rfl) ?_
    refine lv_bipush (v := 40) hx hb dX12_takeDraft_42 rfl ?_
    refine lv_icmp_ge (tgt := 163) hx hb dX12_takeDraft_44 (by decide) (fun c6 => ?_) (fun c6 => ?_)
    · have h := xit c6 h
      cases h
      exact xr_v C hW dX12_takeDraft_163
    · have h := xif c6 h
      refine lv_bipush (v := 40) hx hb dX12_takeDraft_47 rfl ?_
      refine lv_iload_n hx hb dX12_takeDraft_49 rfl (lv_at hl 1 rfl) ?_
      refine lv_iadd hx hb dX12_takeDraft_50 ?_
      refine lv_istore_n (lv' := [(2, .int (40 + x1)), (0, .ref (g.q 0)), (1, .int x1)]) hx hb dX12_takeDraft_51 rfl hl (Nat.le_of_ble_eq_true rfl) rfl (fun ls hl => ?_)
      refine lv_aload_n hx hb dX12_takeDraft_52 rfl (lv_at hl 1 rfl) ?_
      refine xg_r C hW fg_12_24 KM_0 rfl dX12_takeDraft_53 ?_
      refine lv_iload_n hx hb dX12_takeDraft_56 rfl (lv_at hl 2 rfl) ?_
      refine lv_aload_n hx hb dX12_takeDraft_57 rfl (lv_at hl 1 rfl) ?_
      refine xg_r C hW fg_12_24 KM_0 rfl dX12_takeDraft_58 ?_
      refine lv_iload_n hx hb dX12_takeDraft_61 rfl (lv_at hl 0 rfl) ?_
      obtain ⟨g7, h⟩ := xgd h
      refine xa_l C hW KM_4 g7 (x := σ.2 4 (40 + x1).toNatClampNeg) rfl dX12_takeDraft_62 ?_
      obtain ⟨g8, h⟩ := xgd h
      refine xs_l C hW KM_4 g8 dX12_takeDraft_63 (fun H locs hW => ?_)
      refine lv_aload_n hx hb dX12_takeDraft_64 rfl (lv_at hl 1 rfl) ?_
      refine xg_r C hW fg_12_28 KM_0 rfl dX12_takeDraft_65 ?_
      refine lv_iload_n hx hb dX12_takeDraft_68 rfl (lv_at hl 2 rfl) ?_
      refine lv_aload_n hx hb dX12_takeDraft_69 rfl (lv_at hl 1 rfl) ?_
      refine xg_r C hW fg_12_28 KM_0 rfl dX12_takeDraft_70 ?_
      refine lv_iload_n hx hb dX12_takeDraft_73 rfl (lv_at hl 0 rfl) ?_
      obtain ⟨g9, h⟩ := xgd h
      refine xa_i C hW KM_5 g9 (x := σ.1 5 (40 + x1).toNatClampNeg) rfl dX12_takeDraft_74 ?_
      obtain ⟨g10, h⟩ := xgd h
      refine xs_i C hW KM_5 g10 dX12_takeDraft_75 (fun H locs hW => ?_)
      refine lv_aload_n hx hb dX12_takeDraft_76 rfl (lv_at hl 1 rfl) ?_
      refine xg_r C hW fg_12_31 KM_0 rfl dX12_takeDraft_77 ?_
      refine lv_iload_n hx hb dX12_takeDraft_80 rfl (lv_at hl 2 rfl) ?_
      refine lv_aload_n hx hb dX12_takeDraft_81 rfl (lv_at hl 1 rfl) ?_
      refine xg_r C hW fg_12_31 KM_0 rfl dX12_takeDraft_82 ?_
      refine lv_iload_n hx hb dX12_takeDraft_85 rfl (lv_at hl 0 rfl) ?_
      obtain ⟨g11, h⟩ := xgd h
      refine xa_i C hW KM_6 g11 (x := σ.1 6 (40 + x1).toNatClampNeg) rfl dX12_takeDraft_86 ?_
      obtain ⟨g12, h⟩ := xgd h
      refine xs_i C hW KM_6 g12 dX12_takeDraft_87 (fun H locs hW => ?_)
      refine lv_aload_n hx hb dX12_takeDraft_88 rfl (lv_at hl 1 rfl) ?_
      refine xg_r C hW fg_12_34 KM_0 rfl dX12_takeDraft_89 ?_
      refine lv_iload_n hx hb dX12_takeDraft_92 rfl (lv_at hl 2 rfl) ?_
      refine lv_aload_n hx hb dX12_takeDraft_93 rfl (lv_at hl 1 rfl) ?_
      refine xg_r C hW fg_12_34 KM_0 rfl dX12_takeDraft_94 ?_
      refine lv_iload_n hx hb dX12_takeDraft_97 rfl (lv_at hl 0 rfl) ?_
      obtain ⟨g13, h⟩ := xgd h
      refine xa_i C hW KM_7 g13 (x := σ.1 7 (40 + x1).toNatClampNeg) rfl dX12_takeDraft_98 ?_
      obtain ⟨g14, h⟩ := xgd h
      refine xs_i C hW KM_7 g14 dX12_takeDraft_99 (fun H locs hW => ?_)
      refine lv_aload_n hx hb dX12_takeDraft_100 rfl (lv_at hl 1 rfl) ?_
      refine xg_r C hW fg_12_37 KM_0 rfl dX12_takeDraft_101 ?_
      refine lv_iload_n hx hb dX12_takeDraft_104 rfl (lv_at hl 2 rfl) ?_
      refine lv_aload_n hx hb dX12_takeDraft_105 rfl (lv_at hl 1 rfl) ?_
      refine xg_r C hW fg_12_37 KM_0 rfl dX12_takeDraft_106 ?_
      refine lv_iload_n hx hb dX12_takeDraft_109 rfl (lv_at hl 0 rfl) ?_
      obtain ⟨g15, h⟩ := xgd h
      refine xa_i C hW KM_8 g15 (x := σ.1 8 (40 + x1).toNatClampNeg) rfl dX12_takeDraft_110 ?_
      obtain ⟨g16, h⟩ := xgd h
      refine xs_i C hW KM_8 g16 dX12_takeDraft_111 (fun H locs hW => ?_)
      refine lv_aload_n hx hb dX12_takeDraft_112 rfl (lv_at hl 1 rfl) ?_
      refine xg_r C hW fg_12_43 KM_0 rfl dX12_takeDraft_113 ?_
      refine lv_iload_n hx hb dX12_takeDraft_116 rfl (lv_at hl 2 rfl) ?_
      refine lv_aload_n hx hb dX12_takeDraft_117 rfl (lv_at hl 1 rfl) ?_
      refine xg_r C hW fg_12_43 KM_0 rfl dX12_takeDraft_118 ?_
      refine lv_iload_n hx hb dX12_takeDraft_121 rfl (lv_at hl 0 rfl) ?_
      obtain ⟨g17, h⟩ := xgd h
      refine xa_l C hW KM_10 g17 (x := σ.2 10 (40 + x1).toNatClampNeg) rfl dX12_takeDraft_122 ?_
      obtain ⟨g18, h⟩ := xgd h
      refine xs_l C hW KM_10 g18 dX12_takeDraft_123 (fun H locs hW => ?_)
      refine lv_iconst (v := 0) hx hb dX12_takeDraft_124 rfl ?_
      refine lv_istore_n (lv' := [(3, .int 0), (2, .int (40 + x1)), (0, .ref (g.q 0)), (1, .int x1)]) hx hb dX12_takeDraft_125 rfl hl (Nat.le_of_ble_eq_true rfl) rfl (fun ls hl => ?_)
      exact w_X12_takeDraft_126 N (f_X12_takeDraft_41 N n) C ih N x1 (40 + x1) 0 _ _ _ _ hW (lv_sub hl [2, 3, 1, 0] rfl) h
set_option maxRecDepth 4000 in
theorem w_X12_takeDraft_2 (N : Nat) {σ' : St} (C : xC KM g RX12 cX12_takeDraft 4 none p s m args meth c) : ∀ (n : Nat), ∀ (x1 : Int32) (σ : St) (H : Heap) (locs : List Loc) (ls : Array Slot), xW KM g s σ H locs → lv_has ls 4 [(0, .ref (g.q 0)), (1, .int x1)] → f_X12_takeDraft_2 N n x1 σ = some σ' → W p l e rm_X12_takeDraft s m args below meth c H locs 0 0 (MQ below (xPost KM g none σ') args s 0 0 (xA KM g.q)) (F0 m 2 ls []) := by
  have hx := C.1
  have hb := C.2.1
  intro n
  induction n with
  | zero => intro x1 σ H locs ls hW hl h; rw [f_X12_takeDraft_2] at h; cases h
  | succ n ih =>
    intro x1 σ H locs ls hW hl h
    rw [f_X12_takeDraft_2] at h
    refine lv_iload_n hx hb dX12_takeDraft_2 rfl (lv_at hl 1 rfl) ?_
    refine lv_iconst (v := 4) hx hb dX12_takeDraft_3 rfl ?_
    refine lv_icmp_ge (tgt := 27) hx hb dX12_takeDraft_4 (by decide) (fun c1 => ?_) (fun c1 => ?_)
    · have h := xit c1 h
      refine lv_aload_n hx hb dX12_takeDraft_27 rfl (lv_at hl 0 rfl) ?_
      refine xg_r C hW fg_12_21 KM_0 rfl dX12_takeDraft_28 ?_
      refine lv_iconst (v := 0) hx hb dX12_takeDraft_31 rfl ?_
      refine lv_aload_n hx hb dX12_takeDraft_32 rfl (lv_at hl 0 rfl) ?_
      refine xg_r C hW fg_12_21 KM_0 rfl dX12_takeDraft_33 ?_
      refine lv_iconst (v := 1) hx hb dX12_takeDraft_36 rfl ?_
      obtain ⟨g2, h⟩ := xgd h
      refine xa_i C hW KM_3 g2 (x := σ.1 3 1) rfl dX12_takeDraft_37 ?_
      obtain ⟨g3, h⟩ := xgd h
      refine xs_i C hW KM_3 g3 dX12_takeDraft_38 (fun H locs hW => ?_)
      refine lv_iconst (v := 0) hx hb dX12_takeDraft_39 rfl ?_
      refine lv_istore_n (lv' := [(1, .int 0), (0, .ref (g.q 0))]) hx hb dX12_takeDraft_40 rfl hl (Nat.le_of_ble_eq_true rfl) rfl (fun ls hl => ?_)
      exact w_X12_takeDraft_41 N C N 0 _ _ _ _ hW (lv_sub hl [1, 0] rfl) h
    · have h := xif c1 h
      refine lv_aload_n hx hb dX12_takeDraft_7 rfl (lv_at hl 0 rfl) ?_
      refine xg_r C hW fg_12_17 KM_0 rfl dX12_takeDraft_8 ?_
      refine lv_iload_n hx hb dX12_takeDraft_11 rfl (lv_at hl 1 rfl) ?_
      refine lv_aload_n hx hb dX12_takeDraft_12 rfl (lv_at hl 0 rfl) ?_
      refine xg_r C hW fg_12_17 KM_0 rfl dX12_takeDraft_13 ?_
      refine lv_iconst (v := 4) hx hb dX12_takeDraft_16 rfl ?_
      refine lv_iload_n hx hb dX12_takeDraft_17 rfl (lv_at hl 1 rfl) ?_
      refine lv_iadd hx hb dX12_takeDraft_18 ?_
      obtain ⟨g4, h⟩ := xgd h
      refine xa_i C hW KM_2 g4 (x := σ.1 2 (4 + x1).toNatClampNeg) rfl dX12_takeDraft_19 ?_
      obtain ⟨g5, h⟩ := xgd h
      refine xs_i C hW KM_2 g5 dX12_takeDraft_20 (fun H locs hW => ?_)
      refine lv_iinc (v := x1 + 1) (lv' := [(1, .int (x1 + 1)), (0, .ref (g.q 0))]) hx hb dX12_takeDraft_21 hl (k := 1) rfl rfl (Nat.le_of_ble_eq_true rfl) rfl (fun ls hl => ?_)
      refine lv_goto (tgt := 2) hx hb dX12_takeDraft_24 (by decide) ?_
      exact ih (x1 + 1) _ _ _ _ hW (lv_sub hl [1, 0] rfl) h
set_option maxRecDepth 4000 in
theorem m_X12_takeDraft (N : Nat) (σ : St) {σ' : St} (h : f_X12_takeDraft N σ = some σ') : xM l KM g yX12_takeDraft cX12_takeDraft 4 none rm_X12_takeDraft [.ref (g.q 0)] σ none σ' := by
  refine xmet pn_X12 rfl (Nat.le_of_ble_eq_true rfl) (lv := [(0, .ref (g.q 0))]) rfl (fun p e s m args below meth c ls C hW hl => ?_)
  have hx := C.1
  have hb := C.2.1
  unfold f_X12_takeDraft at h
  refine lv_iconst (v := 0) hx hb dX12_takeDraft_0 rfl ?_
  refine lv_istore_n (lv' := [(1, .int 0), (0, .ref (g.q 0))]) hx hb dX12_takeDraft_1 rfl hl (Nat.le_of_ble_eq_true rfl) rfl (fun ls hl => ?_)
  exact w_X12_takeDraft_2 N C N 0 _ _ _ _ hW (lv_sub hl [1, 0] rfl) h
end
theorem dX12_signOf_0 : decode cX12_signOf 0 = .ok (.iload_n 3, 1) := by decide +kernel
theorem dX12_signOf_1 : decode cX12_signOf 1 = .ok (.istore 5, 2) := by decide +kernel
theorem dX12_signOf_3 : decode cX12_signOf 3 = .ok (.iload 5, 2) := by decide +kernel
theorem dX12_signOf_5 : decode cX12_signOf 5 = .ok (.iload_n 3, 1) := by decide +kernel
theorem dX12_signOf_6 : decode cX12_signOf 6 = .ok (.iload 4, 2) := by decide +kernel
theorem dX12_signOf_8 : decode cX12_signOf 8 = .ok (.iadd, 1) := by decide +kernel
theorem dX12_signOf_9 : decode cX12_signOf 9 = .ok (.if_icmp .ge 24, 3) := by decide +kernel
theorem dX12_signOf_12 : decode cX12_signOf 12 = .ok (.aload_n 0, 1) := by decide +kernel
theorem dX12_signOf_13 : decode cX12_signOf 13 = .ok (.getfield 24, 3) := by decide +kernel
theorem dX12_signOf_16 : decode cX12_signOf 16 = .ok (.iload 5, 2) := by decide +kernel
theorem dX12_signOf_18 : decode cX12_signOf 18 = .ok (.laload, 1) := by decide +kernel
theorem dX12_signOf_19 : decode cX12_signOf 19 = .ok (.lload_n 1, 1) := by decide +kernel
theorem dX12_signOf_20 : decode cX12_signOf 20 = .ok (.lcmp, 1) := by decide +kernel
theorem dX12_signOf_21 : decode cX12_signOf 21 = .ok (.ifCond .ne 6, 3) := by decide +kernel
theorem dX12_signOf_24 : decode cX12_signOf 24 = .ok (.iload 5, 2) := by decide +kernel
theorem dX12_signOf_26 : decode cX12_signOf 26 = .ok (.ireturn, 1) := by decide +kernel
theorem dX12_signOf_27 : decode cX12_signOf 27 = .ok (.iinc 5 1, 3) := by decide +kernel
theorem dX12_signOf_30 : decode cX12_signOf 30 = .ok (.goto (-27), 3) := by decide +kernel
theorem dX12_signOf_33 : decode cX12_signOf 33 = .ok (.iconst (-1), 1) := by decide +kernel
theorem dX12_signOf_34 : decode cX12_signOf 34 = .ok (.ireturn, 1) := by decide +kernel
abbrev rm_X12_signOf : Room := { frames := 0, cells := 0, slots := 0, locals := 0 }
def f_X12_signOf_3 (N : Nat) : Nat → Int64 → Int32 → Int32 → Int32 → St → Option Int32
  | 0, _, _, _, _, _ => none
  | n + 1, x1, x3, x4, x5, σ => (if (x3 + x4) ≤ x5 then some ((-1)) else grd (ib x5 80) ((if (lg_cmp (σ.2 4 x5.toNatClampNeg) x1) = 0 then some x5 else f_X12_signOf_3 N n x1 x3 x4 (x5 + 1) σ)))
def f_X12_signOf (N : Nat) (x1 : Int64) (x3 : Int32) (x4 : Int32) (σ : St) : Option Int32 := f_X12_signOf_3 N N x1 x3 x4 x3 σ
section
variable {p : Program} {l : Launch} {e : Env} {s : State} {m : MethodId} {args : Array Value} {below : List Frame} {meth : Method} {c : Code} {g : XG}
set_option maxRecDepth 4000 in
theorem w_X12_signOf_3 (N : Nat) (σ : St) {r : Int32} (C : xC KM g RX12 cX12_signOf 6 (some .int) p s m args meth c) : ∀ (n : Nat), ∀ (x1 : Int64) (x3 : Int32) (x4 : Int32) (x5 : Int32) (H : Heap) (locs : List Loc) (ls : Array Slot), xW KM g s σ H locs → lv_has ls 6 [(0, .ref (g.q 0)), (1, .long x1), (3, .int x3), (4, .int x4), (5, .int x5)] → f_X12_signOf_3 N n x1 x3 x4 x5 σ = some r → W p l e rm_X12_signOf s m args below meth c H locs 0 0 (MQ below (xPost KM g (some (.int r)) σ) args s 0 0 (xA KM g.q)) (F0 m 3 ls []) := by
  have hx := C.1
  have hb := C.2.1
  intro n
  induction n with
  | zero => intro x1 x3 x4 x5 H locs ls hW hl h; rw [f_X12_signOf_3] at h; cases h
  | succ n ih =>
    intro x1 x3 x4 x5 H locs ls hW hl h
    rw [f_X12_signOf_3] at h
    refine lv_iload hx hb dX12_signOf_3 (lv_at hl 4 rfl) ?_
    refine lv_iload_n hx hb dX12_signOf_5 rfl (lv_at hl 2 rfl) ?_
    refine lv_iload hx hb dX12_signOf_6 (lv_at hl 3 rfl) ?_
    refine lv_iadd hx hb dX12_signOf_8 ?_
    refine lv_icmp_ge (tgt := 33) hx hb dX12_signOf_9 (by decide) (fun c1 => ?_) (fun c1 => ?_)
    · have h := xit c1 h
      refine lv_iconst (v := (-1)) hx hb dX12_signOf_33 rfl ?_
      cases h
      exact xr_i C hW dX12_signOf_34
    · have h := xif c1 h
      refine lv_aload_n hx hb dX12_signOf_12 rfl (lv_at hl 0 rfl) ?_
      refine xg_r C hW fg_12_24 KM_0 rfl dX12_signOf_13 ?_
      refine lv_iload hx hb dX12_signOf_16 (lv_at hl 4 rfl) ?_
      obtain ⟨g2, h⟩ := xgd h
      refine xa_l C hW KM_4 g2 (x := σ.2 4 x5.toNatClampNeg) rfl dX12_signOf_18 ?_
      refine lv_lload_n hx hb dX12_signOf_19 rfl (lv_at hl 1 rfl) ?_
      refine W.lcmp hx hb dX12_signOf_20 ?_
      refine lv_if_ne (tgt := 27) hx hb dX12_signOf_21 (by decide) (fun c3 => ?_) (fun c3 => ?_)
      · have h := xif c3 h
        refine lv_iinc (v := x5 + 1) (lv' := [(5, .int (x5 + 1)), (0, .ref (g.q 0)), (1, .long x1), (3, .int x3), (4, .int x4)]) hx hb dX12_signOf_27 hl (k := 4) rfl rfl (Nat.le_of_ble_eq_true rfl) rfl (fun ls hl => ?_)
        refine lv_goto (tgt := 3) hx hb dX12_signOf_30 (by decide) ?_
        exact ih x1 x3 x4 (x5 + 1) _ _ _ hW (lv_sub hl [1, 2, 3, 4, 0] rfl) h
      · have h := xit c3 h
        refine lv_iload hx hb dX12_signOf_24 (lv_at hl 4 rfl) ?_
        cases h
        exact xr_i C hW dX12_signOf_26
set_option maxRecDepth 4000 in
theorem m_X12_signOf (N : Nat) (x1 : Int64) (x3 : Int32) (x4 : Int32) (σ : St) {r : Int32} (h : f_X12_signOf N x1 x3 x4 σ = some r) : xM l KM g yX12_signOf cX12_signOf 6 (some .int) rm_X12_signOf [.ref (g.q 0), .long x1, .int x3, .int x4] σ (some (.int r)) σ := by
  refine xmet pn_X12 rfl (Nat.le_of_ble_eq_true rfl) (lv := [(0, .ref (g.q 0)), (1, .long x1), (3, .int x3), (4, .int x4)]) rfl (fun p e s m args below meth c ls C hW hl => ?_)
  have hx := C.1
  have hb := C.2.1
  unfold f_X12_signOf at h
  refine lv_iload_n hx hb dX12_signOf_0 rfl (lv_at hl 2 rfl) ?_
  refine lv_istore (lv' := [(5, .int x3), (0, .ref (g.q 0)), (1, .long x1), (3, .int x3), (4, .int x4)]) hx hb dX12_signOf_1 hl (Nat.le_of_ble_eq_true rfl) rfl (fun ls hl => ?_)
  exact w_X12_signOf_3 N σ C N x1 x3 x4 x3 _ _ _ hW (lv_sub hl [1, 2, 3, 4, 0] rfl) h
end
theorem dX12_readSign_0 : decode cX12_readSign 0 = .ok (.aload_n 0, 1) := by decide +kernel
theorem dX12_readSign_1 : decode cX12_readSign 1 = .ok (.getfield 264, 3) := by decide +kernel
theorem dX12_readSign_4 : decode cX12_readSign 4 = .ok (.iconst 1, 1) := by decide +kernel
theorem dX12_readSign_5 : decode cX12_readSign 5 = .ok (.if_icmp .eq 9, 3) := by decide +kernel
theorem dX12_readSign_8 : decode cX12_readSign 8 = .ok (.aload_n 0, 1) := by decide +kernel
theorem dX12_readSign_9 : decode cX12_readSign 9 = .ok (.iconst 1, 1) := by decide +kernel
theorem dX12_readSign_10 : decode cX12_readSign 10 = .ok (.invokevirtual 292, 3) := by decide +kernel
theorem dX12_readSign_13 : decode cX12_readSign 13 = .ok (.ireturn, 1) := by decide +kernel
theorem dX12_readSign_14 : decode cX12_readSign 14 = .ok (.aload_n 0, 1) := by decide +kernel
theorem dX12_readSign_15 : decode cX12_readSign 15 = .ok (.aload_n 0, 1) := by decide +kernel
theorem dX12_readSign_16 : decode cX12_readSign 16 = .ok (.getfield 271, 3) := by decide +kernel
theorem dX12_readSign_19 : decode cX12_readSign 19 = .ok (.bipush 40, 2) := by decide +kernel
theorem dX12_readSign_21 : decode cX12_readSign 21 = .ok (.aload_n 0, 1) := by decide +kernel
theorem dX12_readSign_22 : decode cX12_readSign 22 = .ok (.getfield 21, 3) := by decide +kernel
theorem dX12_readSign_25 : decode cX12_readSign 25 = .ok (.iconst 1, 1) := by decide +kernel
theorem dX12_readSign_26 : decode cX12_readSign 26 = .ok (.iaload, 1) := by decide +kernel
theorem dX12_readSign_27 : decode cX12_readSign 27 = .ok (.invokevirtual 302, 3) := by decide +kernel
theorem dX12_readSign_30 : decode cX12_readSign 30 = .ok (.iconst (-1), 1) := by decide +kernel
theorem dX12_readSign_31 : decode cX12_readSign 31 = .ok (.if_icmp .eq 9, 3) := by decide +kernel
theorem dX12_readSign_34 : decode cX12_readSign 34 = .ok (.aload_n 0, 1) := by decide +kernel
theorem dX12_readSign_35 : decode cX12_readSign 35 = .ok (.iconst 3, 1) := by decide +kernel
theorem dX12_readSign_36 : decode cX12_readSign 36 = .ok (.invokevirtual 292, 3) := by decide +kernel
theorem dX12_readSign_39 : decode cX12_readSign 39 = .ok (.ireturn, 1) := by decide +kernel
theorem dX12_readSign_40 : decode cX12_readSign 40 = .ok (.bipush 40, 2) := by decide +kernel
theorem dX12_readSign_42 : decode cX12_readSign 42 = .ok (.aload_n 0, 1) := by decide +kernel
theorem dX12_readSign_43 : decode cX12_readSign 43 = .ok (.getfield 21, 3) := by decide +kernel
theorem dX12_readSign_46 : decode cX12_readSign 46 = .ok (.iconst 1, 1) := by decide +kernel
theorem dX12_readSign_47 : decode cX12_readSign 47 = .ok (.iaload, 1) := by decide +kernel
theorem dX12_readSign_48 : decode cX12_readSign 48 = .ok (.iadd, 1) := by decide +kernel
theorem dX12_readSign_49 : decode cX12_readSign 49 = .ok (.istore_n 1, 1) := by decide +kernel
theorem dX12_readSign_50 : decode cX12_readSign 50 = .ok (.aload_n 0, 1) := by decide +kernel
theorem dX12_readSign_51 : decode cX12_readSign 51 = .ok (.getfield 24, 3) := by decide +kernel
theorem dX12_readSign_54 : decode cX12_readSign 54 = .ok (.iload_n 1, 1) := by decide +kernel
theorem dX12_readSign_55 : decode cX12_readSign 55 = .ok (.aload_n 0, 1) := by decide +kernel
theorem dX12_readSign_56 : decode cX12_readSign 56 = .ok (.getfield 271, 3) := by decide +kernel
theorem dX12_readSign_59 : decode cX12_readSign 59 = .ok (.lastore, 1) := by decide +kernel
theorem dX12_readSign_60 : decode cX12_readSign 60 = .ok (.aload_n 0, 1) := by decide +kernel
theorem dX12_readSign_61 : decode cX12_readSign 61 = .ok (.getfield 34, 3) := by decide +kernel
theorem dX12_readSign_64 : decode cX12_readSign 64 = .ok (.iload_n 1, 1) := by decide +kernel
theorem dX12_readSign_65 : decode cX12_readSign 65 = .ok (.iconst 0, 1) := by decide +kernel
theorem dX12_readSign_66 : decode cX12_readSign 66 = .ok (.iastore, 1) := by decide +kernel
theorem dX12_readSign_67 : decode cX12_readSign 67 = .ok (.aload_n 0, 1) := by decide +kernel
theorem dX12_readSign_68 : decode cX12_readSign 68 = .ok (.getfield 37, 3) := by decide +kernel
theorem dX12_readSign_71 : decode cX12_readSign 71 = .ok (.iload_n 1, 1) := by decide +kernel
theorem dX12_readSign_72 : decode cX12_readSign 72 = .ok (.iconst 0, 1) := by decide +kernel
theorem dX12_readSign_73 : decode cX12_readSign 73 = .ok (.iastore, 1) := by decide +kernel
theorem dX12_readSign_74 : decode cX12_readSign 74 = .ok (.aload_n 0, 1) := by decide +kernel
theorem dX12_readSign_75 : decode cX12_readSign 75 = .ok (.getfield 43, 3) := by decide +kernel
theorem dX12_readSign_78 : decode cX12_readSign 78 = .ok (.iload_n 1, 1) := by decide +kernel
theorem dX12_readSign_79 : decode cX12_readSign 79 = .ok (.lconst 0, 1) := by decide +kernel
theorem dX12_readSign_80 : decode cX12_readSign 80 = .ok (.lastore, 1) := by decide +kernel
theorem dX12_readSign_81 : decode cX12_readSign 81 = .ok (.aload_n 0, 1) := by decide +kernel
theorem dX12_readSign_82 : decode cX12_readSign 82 = .ok (.invokevirtual 239, 3) := by decide +kernel
theorem dX12_readSign_85 : decode cX12_readSign 85 = .ok (.aload_n 0, 1) := by decide +kernel
theorem dX12_readSign_86 : decode cX12_readSign 86 = .ok (.iconst 1, 1) := by decide +kernel
theorem dX12_readSign_87 : decode cX12_readSign 87 = .ok (.bipush 60, 2) := by decide +kernel
theorem dX12_readSign_89 : decode cX12_readSign 89 = .ok (.invokevirtual 306, 3) := by decide +kernel
theorem dX12_readSign_92 : decode cX12_readSign 92 = .ok (.ifCond .ne 5, 3) := by decide +kernel
theorem dX12_readSign_95 : decode cX12_readSign 95 = .ok (.iconst 0, 1) := by decide +kernel
theorem dX12_readSign_96 : decode cX12_readSign 96 = .ok (.ireturn, 1) := by decide +kernel
theorem dX12_readSign_97 : decode cX12_readSign 97 = .ok (.aload_n 0, 1) := by decide +kernel
theorem dX12_readSign_98 : decode cX12_readSign 98 = .ok (.getfield 28, 3) := by decide +kernel
theorem dX12_readSign_101 : decode cX12_readSign 101 = .ok (.iload_n 1, 1) := by decide +kernel
theorem dX12_readSign_102 : decode cX12_readSign 102 = .ok (.aload_n 0, 1) := by decide +kernel
theorem dX12_readSign_103 : decode cX12_readSign 103 = .ok (.getfield 299, 3) := by decide +kernel
theorem dX12_readSign_106 : decode cX12_readSign 106 = .ok (.iastore, 1) := by decide +kernel
theorem dX12_readSign_107 : decode cX12_readSign 107 = .ok (.aload_n 0, 1) := by decide +kernel
theorem dX12_readSign_108 : decode cX12_readSign 108 = .ok (.iconst 1, 1) := by decide +kernel
theorem dX12_readSign_109 : decode cX12_readSign 109 = .ok (.bipush 60, 2) := by decide +kernel
theorem dX12_readSign_111 : decode cX12_readSign 111 = .ok (.invokevirtual 306, 3) := by decide +kernel
theorem dX12_readSign_114 : decode cX12_readSign 114 = .ok (.ifCond .ne 5, 3) := by decide +kernel
theorem dX12_readSign_117 : decode cX12_readSign 117 = .ok (.iconst 0, 1) := by decide +kernel
theorem dX12_readSign_118 : decode cX12_readSign 118 = .ok (.ireturn, 1) := by decide +kernel
theorem dX12_readSign_119 : decode cX12_readSign 119 = .ok (.aload_n 0, 1) := by decide +kernel
theorem dX12_readSign_120 : decode cX12_readSign 120 = .ok (.getfield 31, 3) := by decide +kernel
theorem dX12_readSign_123 : decode cX12_readSign 123 = .ok (.iload_n 1, 1) := by decide +kernel
theorem dX12_readSign_124 : decode cX12_readSign 124 = .ok (.aload_n 0, 1) := by decide +kernel
theorem dX12_readSign_125 : decode cX12_readSign 125 = .ok (.getfield 299, 3) := by decide +kernel
theorem dX12_readSign_128 : decode cX12_readSign 128 = .ok (.iastore, 1) := by decide +kernel
theorem dX12_readSign_129 : decode cX12_readSign 129 = .ok (.aload_n 0, 1) := by decide +kernel
theorem dX12_readSign_130 : decode cX12_readSign 130 = .ok (.getfield 264, 3) := by decide +kernel
theorem dX12_readSign_133 : decode cX12_readSign 133 = .ok (.iconst 1, 1) := by decide +kernel
theorem dX12_readSign_134 : decode cX12_readSign 134 = .ok (.if_icmp .ne 170, 3) := by decide +kernel
theorem dX12_readSign_137 : decode cX12_readSign 137 = .ok (.aload_n 0, 1) := by decide +kernel
theorem dX12_readSign_138 : decode cX12_readSign 138 = .ok (.getfield 261, 3) := by decide +kernel
theorem dX12_readSign_141 : decode cX12_readSign 141 = .ok (.iconst 5, 1) := by decide +kernel
theorem dX12_readSign_142 : decode cX12_readSign 142 = .ok (.bipush 7, 2) := by decide +kernel
theorem dX12_readSign_144 : decode cX12_readSign 144 = .ok (.invokestatic 295, 3) := by decide +kernel
theorem dX12_readSign_147 : decode cX12_readSign 147 = .ok (.ifCond .eq 157, 3) := by decide +kernel
theorem dX12_readSign_150 : decode cX12_readSign 150 = .ok (.aload_n 0, 1) := by decide +kernel
theorem dX12_readSign_151 : decode cX12_readSign 151 = .ok (.getfield 261, 3) := by decide +kernel
theorem dX12_readSign_154 : decode cX12_readSign 154 = .ok (.istore_n 2, 1) := by decide +kernel
theorem dX12_readSign_155 : decode cX12_readSign 155 = .ok (.aload_n 0, 1) := by decide +kernel
theorem dX12_readSign_156 : decode cX12_readSign 156 = .ok (.invokevirtual 239, 3) := by decide +kernel
theorem dX12_readSign_159 : decode cX12_readSign 159 = .ok (.iload_n 2, 1) := by decide +kernel
theorem dX12_readSign_160 : decode cX12_readSign 160 = .ok (.iconst 5, 1) := by decide +kernel
theorem dX12_readSign_161 : decode cX12_readSign 161 = .ok (.if_icmp .ne 13, 3) := by decide +kernel
theorem dX12_readSign_164 : decode cX12_readSign 164 = .ok (.aload_n 0, 1) := by decide +kernel
theorem dX12_readSign_165 : decode cX12_readSign 165 = .ok (.invokevirtual 310, 3) := by decide +kernel
theorem dX12_readSign_168 : decode cX12_readSign 168 = .ok (.ifCond .ne 20, 3) := by decide +kernel
theorem dX12_readSign_171 : decode cX12_readSign 171 = .ok (.goto 11, 3) := by decide +kernel
theorem dX12_readSign_174 : decode cX12_readSign 174 = .ok (.aload_n 0, 1) := by decide +kernel
theorem dX12_readSign_175 : decode cX12_readSign 175 = .ok (.getfield 264, 3) := by decide +kernel
theorem dX12_readSign_178 : decode cX12_readSign 178 = .ok (.iconst 1, 1) := by decide +kernel
theorem dX12_readSign_179 : decode cX12_readSign 179 = .ok (.if_icmp .eq 9, 3) := by decide +kernel
theorem dX12_readSign_182 : decode cX12_readSign 182 = .ok (.aload_n 0, 1) := by decide +kernel
theorem dX12_readSign_183 : decode cX12_readSign 183 = .ok (.iconst 1, 1) := by decide +kernel
theorem dX12_readSign_184 : decode cX12_readSign 184 = .ok (.invokevirtual 292, 3) := by decide +kernel
theorem dX12_readSign_187 : decode cX12_readSign 187 = .ok (.ireturn, 1) := by decide +kernel
theorem dX12_readSign_188 : decode cX12_readSign 188 = .ok (.iload_n 2, 1) := by decide +kernel
theorem dX12_readSign_189 : decode cX12_readSign 189 = .ok (.iconst 5, 1) := by decide +kernel
theorem dX12_readSign_190 : decode cX12_readSign 190 = .ok (.if_icmp .ne 22, 3) := by decide +kernel
theorem dX12_readSign_193 : decode cX12_readSign 193 = .ok (.aload_n 0, 1) := by decide +kernel
theorem dX12_readSign_194 : decode cX12_readSign 194 = .ok (.getfield 236, 3) := by decide +kernel
theorem dX12_readSign_197 : decode cX12_readSign 197 = .ok (.aload_n 0, 1) := by decide +kernel
theorem dX12_readSign_198 : decode cX12_readSign 198 = .ok (.getfield 258, 3) := by decide +kernel
theorem dX12_readSign_201 : decode cX12_readSign 201 = .ok (.isub, 1) := by decide +kernel
theorem dX12_readSign_202 : decode cX12_readSign 202 = .ok (.iconst 3, 1) := by decide +kernel
theorem dX12_readSign_203 : decode cX12_readSign 203 = .ok (.if_icmp .le 9, 3) := by decide +kernel
theorem dX12_readSign_206 : decode cX12_readSign 206 = .ok (.aload_n 0, 1) := by decide +kernel
theorem dX12_readSign_207 : decode cX12_readSign 207 = .ok (.iconst 2, 1) := by decide +kernel
theorem dX12_readSign_208 : decode cX12_readSign 208 = .ok (.invokevirtual 292, 3) := by decide +kernel
theorem dX12_readSign_211 : decode cX12_readSign 211 = .ok (.ireturn, 1) := by decide +kernel
theorem dX12_readSign_212 : decode cX12_readSign 212 = .ok (.aload_n 0, 1) := by decide +kernel
theorem dX12_readSign_213 : decode cX12_readSign 213 = .ok (.getfield 34, 3) := by decide +kernel
theorem dX12_readSign_216 : decode cX12_readSign 216 = .ok (.iload_n 1, 1) := by decide +kernel
theorem dX12_readSign_217 : decode cX12_readSign 217 = .ok (.iload_n 2, 1) := by decide +kernel
theorem dX12_readSign_218 : decode cX12_readSign 218 = .ok (.iconst 5, 1) := by decide +kernel
theorem dX12_readSign_219 : decode cX12_readSign 219 = .ok (.isub, 1) := by decide +kernel
theorem dX12_readSign_220 : decode cX12_readSign 220 = .ok (.iconst 1, 1) := by decide +kernel
theorem dX12_readSign_221 : decode cX12_readSign 221 = .ok (.iadd, 1) := by decide +kernel
theorem dX12_readSign_222 : decode cX12_readSign 222 = .ok (.iastore, 1) := by decide +kernel
theorem dX12_readSign_223 : decode cX12_readSign 223 = .ok (.iload_n 2, 1) := by decide +kernel
theorem dX12_readSign_224 : decode cX12_readSign 224 = .ok (.iconst 5, 1) := by decide +kernel
theorem dX12_readSign_225 : decode cX12_readSign 225 = .ok (.if_icmp .ne 65, 3) := by decide +kernel
theorem dX12_readSign_228 : decode cX12_readSign 228 = .ok (.aload_n 0, 1) := by decide +kernel
theorem dX12_readSign_229 : decode cX12_readSign 229 = .ok (.getfield 37, 3) := by decide +kernel
theorem dX12_readSign_232 : decode cX12_readSign 232 = .ok (.iload_n 1, 1) := by decide +kernel
theorem dX12_readSign_233 : decode cX12_readSign 233 = .ok (.aload_n 0, 1) := by decide +kernel
theorem dX12_readSign_234 : decode cX12_readSign 234 = .ok (.getfield 236, 3) := by decide +kernel
theorem dX12_readSign_237 : decode cX12_readSign 237 = .ok (.aload_n 0, 1) := by decide +kernel
theorem dX12_readSign_238 : decode cX12_readSign 238 = .ok (.getfield 258, 3) := by decide +kernel
theorem dX12_readSign_241 : decode cX12_readSign 241 = .ok (.isub, 1) := by decide +kernel
theorem dX12_readSign_242 : decode cX12_readSign 242 = .ok (.iastore, 1) := by decide +kernel
theorem dX12_readSign_243 : decode cX12_readSign 243 = .ok (.iconst 0, 1) := by decide +kernel
theorem dX12_readSign_244 : decode cX12_readSign 244 = .ok (.istore_n 3, 1) := by decide +kernel
theorem dX12_readSign_245 : decode cX12_readSign 245 = .ok (.iload_n 3, 1) := by decide +kernel
theorem dX12_readSign_246 : decode cX12_readSign 246 = .ok (.aload_n 0, 1) := by decide +kernel
theorem dX12_readSign_247 : decode cX12_readSign 247 = .ok (.getfield 236, 3) := by decide +kernel
theorem dX12_readSign_250 : decode cX12_readSign 250 = .ok (.aload_n 0, 1) := by decide +kernel
theorem dX12_readSign_251 : decode cX12_readSign 251 = .ok (.getfield 258, 3) := by decide +kernel
theorem dX12_readSign_254 : decode cX12_readSign 254 = .ok (.isub, 1) := by decide +kernel
theorem dX12_readSign_255 : decode cX12_readSign 255 = .ok (.if_icmp .ge 32, 3) := by decide +kernel
theorem dX12_readSign_258 : decode cX12_readSign 258 = .ok (.aload_n 0, 1) := by decide +kernel
theorem dX12_readSign_259 : decode cX12_readSign 259 = .ok (.getfield 40, 3) := by decide +kernel
theorem dX12_readSign_262 : decode cX12_readSign 262 = .ok (.iconst 3, 1) := by decide +kernel
theorem dX12_readSign_263 : decode cX12_readSign 263 = .ok (.iload_n 1, 1) := by decide +kernel
theorem dX12_readSign_264 : decode cX12_readSign 264 = .ok (.imul, 1) := by decide +kernel
theorem dX12_readSign_265 : decode cX12_readSign 265 = .ok (.iload_n 3, 1) := by decide +kernel
theorem dX12_readSign_266 : decode cX12_readSign 266 = .ok (.iadd, 1) := by decide +kernel
theorem dX12_readSign_267 : decode cX12_readSign 267 = .ok (.aload_n 0, 1) := by decide +kernel
theorem dX12_readSign_268 : decode cX12_readSign 268 = .ok (.aload_n 0, 1) := by decide +kernel
theorem dX12_readSign_269 : decode cX12_readSign 269 = .ok (.getfield 258, 3) := by decide +kernel
theorem dX12_readSign_272 : decode cX12_readSign 272 = .ok (.iload_n 3, 1) := by decide +kernel
theorem dX12_readSign_273 : decode cX12_readSign 273 = .ok (.iadd, 1) := by decide +kernel
theorem dX12_readSign_274 : decode cX12_readSign 274 = .ok (.invokevirtual 254, 3) := by decide +kernel
theorem dX12_readSign_277 : decode cX12_readSign 277 = .ok (.bipush 97, 2) := by decide +kernel
theorem dX12_readSign_279 : decode cX12_readSign 279 = .ok (.isub, 1) := by decide +kernel
theorem dX12_readSign_280 : decode cX12_readSign 280 = .ok (.iastore, 1) := by decide +kernel
theorem dX12_readSign_281 : decode cX12_readSign 281 = .ok (.iinc 3 1, 3) := by decide +kernel
theorem dX12_readSign_284 : decode cX12_readSign 284 = .ok (.goto (-39), 3) := by decide +kernel
theorem dX12_readSign_287 : decode cX12_readSign 287 = .ok (.goto 13, 3) := by decide +kernel
theorem dX12_readSign_290 : decode cX12_readSign 290 = .ok (.aload_n 0, 1) := by decide +kernel
theorem dX12_readSign_291 : decode cX12_readSign 291 = .ok (.getfield 43, 3) := by decide +kernel
theorem dX12_readSign_294 : decode cX12_readSign 294 = .ok (.iload_n 1, 1) := by decide +kernel
theorem dX12_readSign_295 : decode cX12_readSign 295 = .ok (.aload_n 0, 1) := by decide +kernel
theorem dX12_readSign_296 : decode cX12_readSign 296 = .ok (.getfield 271, 3) := by decide +kernel
theorem dX12_readSign_299 : decode cX12_readSign 299 = .ok (.lastore, 1) := by decide +kernel
theorem dX12_readSign_300 : decode cX12_readSign 300 = .ok (.aload_n 0, 1) := by decide +kernel
theorem dX12_readSign_301 : decode cX12_readSign 301 = .ok (.invokevirtual 239, 3) := by decide +kernel
theorem dX12_readSign_304 : decode cX12_readSign 304 = .ok (.aload_n 0, 1) := by decide +kernel
theorem dX12_readSign_305 : decode cX12_readSign 305 = .ok (.getfield 21, 3) := by decide +kernel
theorem dX12_readSign_308 : decode cX12_readSign 308 = .ok (.iconst 1, 1) := by decide +kernel
theorem dX12_readSign_309 : decode cX12_readSign 309 = .ok (.dup2, 1) := by decide +kernel
theorem dX12_readSign_310 : decode cX12_readSign 310 = .ok (.iaload, 1) := by decide +kernel
theorem dX12_readSign_311 : decode cX12_readSign 311 = .ok (.iconst 1, 1) := by decide +kernel
theorem dX12_readSign_312 : decode cX12_readSign 312 = .ok (.iadd, 1) := by decide +kernel
theorem dX12_readSign_313 : decode cX12_readSign 313 = .ok (.iastore, 1) := by decide +kernel
theorem dX12_readSign_314 : decode cX12_readSign 314 = .ok (.iconst 1, 1) := by decide +kernel
theorem dX12_readSign_315 : decode cX12_readSign 315 = .ok (.ireturn, 1) := by decide +kernel
abbrev rm_X12_readSign : Room := { frames := 7, cells := 0, slots := 0, locals := 192 }
def f_X12_readSign_182 (N : Nat) (σ : St) : Option (Int32 × St) := bd (f_X12_fails 1 σ) (fun r28_ σ28 => grd (zbb r28_) (some (r28_, σ28)))
def f_X12_readSign_304 (N : Nat) (σ : St) : Option (Int32 × St) := grd (ib 1 2) (grd (ib 1 2) (some (1, (si σ 3 1 ((σ.1 3 1) + 1)))))
def f_X12_readSign_300 (N : Nat) (σ : St) : Option (Int32 × St) := bo (f_X12_scan N σ) (fun σ41 => f_X12_readSign_304 N σ41)
def f_X12_readSign_245 (N : Nat) : Nat → Int32 → Int32 → St → Option (Int32 × St)
  | 0, _, _, _ => none
  | n + 1, x1, x3, σ => (if ((σ.1 1006 0) - (σ.1 1005 0)) ≤ x3 then f_X12_readSign_300 N σ else bo (f_X12_see ((σ.1 1005 0) + x3) σ) (fun r39_ => grd (ib ((3 * x1) + x3) 240) (f_X12_readSign_245 N n x1 (x3 + 1) (si σ 9 ((3 * x1) + x3).toNatClampNeg (r39_ - 97)))))
def f_X12_readSign_212 (N : Nat) (x1 : Int32) (x2 : Int32) (σ : St) : Option (Int32 × St) := grd (ib x1 80) ((if x2 = 5 then grd (ib x1 80) (f_X12_readSign_245 N N x1 0 (si (si σ 7 x1.toNatClampNeg ((x2 - 5) + 1)) 8 x1.toNatClampNeg ((σ.1 1006 0) - (σ.1 1005 0)))) else grd (ib x1 80) (f_X12_readSign_300 N (sl (si σ 7 x1.toNatClampNeg ((x2 - 5) + 1)) 10 x1.toNatClampNeg (σ.2 1010 0)))))
def f_X12_readSign_188 (N : Nat) (x1 : Int32) (x2 : Int32) (σ : St) : Option (Int32 × St) := (if x2 = 5 then (if ((σ.1 1006 0) - (σ.1 1005 0)) ≤ 3 then f_X12_readSign_212 N x1 x2 σ else bd (f_X12_fails 2 σ) (fun r32_ σ32 => grd (zbb r32_) (some (r32_, σ32)))) else f_X12_readSign_212 N x1 x2 σ)
def f_X12_readSign (N : Nat) (σ : St) : Option (Int32 × St) := (if (σ.1 1003 0) = 1 then grd (ib 1 2) (bo (f_X12_signOf N (σ.2 1010 0) 40 (σ.1 3 1) σ) (fun r3_ => (if r3_ = ((-1)) then grd (ib 1 2) (grd (ib (40 + (σ.1 3 1)) 80) (grd (ib (40 + (σ.1 3 1)) 80) (grd (ib (40 + (σ.1 3 1)) 80) (grd (ib (40 + (σ.1 3 1)) 80) (bo (f_X12_scan N (sl (si (si (sl σ 4 (40 + (σ.1 3 1)).toNatClampNeg (σ.2 1010 0)) 7 (40 + (σ.1 3 1)).toNatClampNeg 0) 8 (40 + (σ.1 3 1)).toNatClampNeg 0) 10 (40 + (σ.1 3 1)).toNatClampNeg 0)) (fun σ10 => bd (f_X12_readNumber N 1 60 σ10) (fun r11_ σ11 => (if r11_ = 0 then some (0, σ11) else grd (ib (40 + (σ.1 3 1)) 80) (bd (f_X12_readNumber N 1 60 (si σ11 5 (40 + (σ.1 3 1)).toNatClampNeg (σ11.1 1011 0))) (fun r14_ σ14 => (if r14_ = 0 then some (0, σ14) else grd (ib (40 + (σ.1 3 1)) 80) ((if (σ14.1 1003 0) = 1 then (if (f_X12_in (σ14.1 1004 0) 5 7 (si σ14 6 (40 + (σ.1 3 1)).toNatClampNeg (σ14.1 1011 0))) = 0 then f_X12_readSign_304 N (si σ14 6 (40 + (σ.1 3 1)).toNatClampNeg (σ14.1 1011 0)) else bo (f_X12_scan N (si σ14 6 (40 + (σ.1 3 1)).toNatClampNeg (σ14.1 1011 0))) (fun σ19 => (if (σ14.1 1004 0) = 5 then bo (f_X12_isRow N σ19) (fun r22_ => (if r22_ = 0 then f_X12_readSign_182 N σ19 else f_X12_readSign_188 N (40 + (σ.1 3 1)) (σ14.1 1004 0) σ19)) else (if (σ19.1 1003 0) = 1 then f_X12_readSign_188 N (40 + (σ.1 3 1)) (σ14.1 1004 0) σ19 else f_X12_readSign_182 N σ19)))) else f_X12_readSign_304 N (si σ14 6 (40 + (σ.1 3 1)).toNatClampNeg (σ14.1 1011 0))))))))))))))) else bd (f_X12_fails 3 σ) (fun r24_ σ24 => grd (zbb r24_) (some (r24_, σ24)))))) else bd (f_X12_fails 1 σ) (fun r26_ σ26 => grd (zbb r26_) (some (r26_, σ26))))
section
variable {p : Program} {l : Launch} {e : Env} {s : State} {m : MethodId} {args : Array Value} {below : List Frame} {meth : Method} {c : Code} {g : XG}
set_option maxRecDepth 4000 in
theorem w_X12_readSign_182 (N : Nat) {r : Int32} {σ' : St} (C : xC KM g RX12 cX12_readSign 4 (some .boolean) p s m args meth c) : ∀ (σ : St) (H : Heap) (locs : List Loc) (ls : Array Slot), xW KM g s σ H locs → lv_has ls 4 [(0, .ref (g.q 0))] → f_X12_readSign_182 N σ = some (r, σ') → W p l e rm_X12_readSign s m args below meth c H locs 0 0 (MQ below (xPost KM g (some (.int r)) σ') args s 0 0 (xA KM g.q)) (F0 m 182 ls []) := by
  have hx := C.1
  have hb := C.2.1
  intro σ H locs ls hW hl h
  unfold f_X12_readSign_182 at h
  refine lv_aload_n hx hb dX12_readSign_182 rfl (lv_at hl 0 rfl) ?_
  refine lv_iconst (v := 1) hx hb dX12_readSign_183 rfl ?_
  obtain ⟨r28_, σ28, e28, h⟩ := xbd h
  refine xc_V (As := [.int 1]) (rest := []) C hW (m_X12_fails 1 _ e28) mf_X12_fails mv_X12_fails ml_X12_292 ⟨rfl, rfl⟩ ⟨Nat.le_of_ble_eq_true rfl, Nat.le_of_ble_eq_true rfl⟩ KM_0 rfl hl.1 rfl rfl (Nat.le_of_ble_eq_true rfl) dX12_readSign_184 (fun H locs hW => W.eq (g2 := F0 m 187 ls [.int r28_]) rfl ?_)
  obtain ⟨g29, h⟩ := xgd h
  cases h
  exact xr_z C hW g29 dX12_readSign_187
set_option maxRecDepth 4000 in
theorem w_X12_readSign_304 (N : Nat) {r : Int32} {σ' : St} (C : xC KM g RX12 cX12_readSign 4 (some .boolean) p s m args meth c) : ∀ (σ : St) (H : Heap) (locs : List Loc) (ls : Array Slot), xW KM g s σ H locs → lv_has ls 4 [(0, .ref (g.q 0))] → f_X12_readSign_304 N σ = some (r, σ') → W p l e rm_X12_readSign s m args below meth c H locs 0 0 (MQ below (xPost KM g (some (.int r)) σ') args s 0 0 (xA KM g.q)) (F0 m 304 ls []) := by
  have hx := C.1
  have hb := C.2.1
  intro σ H locs ls hW hl h
  unfold f_X12_readSign_304 at h
  refine lv_aload_n hx hb dX12_readSign_304 rfl (lv_at hl 0 rfl) ?_
  refine xg_r C hW fg_12_21 KM_0 rfl dX12_readSign_305 ?_
  refine lv_iconst (v := 1) hx hb dX12_readSign_308 rfl ?_
  refine lv_dup2_11 hx hb dX12_readSign_309 rfl rfl ?_
  obtain ⟨g42, h⟩ := xgd h
  refine xa_i C hW KM_3 g42 (x := σ.1 3 1) rfl dX12_readSign_310 ?_
  refine lv_iconst (v := 1) hx hb dX12_readSign_311 rfl ?_
  refine lv_iadd hx hb dX12_readSign_312 ?_
  obtain ⟨g43, h⟩ := xgd h
  refine xs_i C hW KM_3 g43 dX12_readSign_313 (fun H locs hW => ?_)
  refine lv_iconst (v := 1) hx hb dX12_readSign_314 rfl ?_
  cases h
  exact xr_z C hW (by decide) dX12_readSign_315
set_option maxRecDepth 4000 in
theorem w_X12_readSign_300 (N : Nat) {r : Int32} {σ' : St} (C : xC KM g RX12 cX12_readSign 4 (some .boolean) p s m args meth c) : ∀ (σ : St) (H : Heap) (locs : List Loc) (ls : Array Slot), xW KM g s σ H locs → lv_has ls 4 [(0, .ref (g.q 0))] → f_X12_readSign_300 N σ = some (r, σ') → W p l e rm_X12_readSign s m args below meth c H locs 0 0 (MQ below (xPost KM g (some (.int r)) σ') args s 0 0 (xA KM g.q)) (F0 m 300 ls []) := by
  have hx := C.1
  have hb := C.2.1
  intro σ H locs ls hW hl h
  unfold f_X12_readSign_300 at h
  refine lv_aload_n hx hb dX12_readSign_300 rfl (lv_at hl 0 rfl) ?_
  obtain ⟨σ41, e41, h⟩ := xbo h
  refine xc_V (As := []) (rest := []) C hW (m_X12_scan N _ e41) mf_X12_scan mv_X12_scan ml_X12_239 ⟨rfl, rfl⟩ ⟨Nat.le_of_ble_eq_true rfl, Nat.le_of_ble_eq_true rfl⟩ KM_0 rfl hl.1 rfl rfl (Nat.le_of_ble_eq_true rfl) dX12_readSign_301 (fun H locs hW => W.eq (g2 := F0 m 304 ls []) rfl ?_)
  exact w_X12_readSign_304 N C _ _ _ _ hW (lv_sub hl [0] rfl) h
set_option maxRecDepth 4000 in
theorem w_X12_readSign_245 (N : Nat) {r : Int32} {σ' : St} (C : xC KM g RX12 cX12_readSign 4 (some .boolean) p s m args meth c) : ∀ (n : Nat), ∀ (x1 : Int32) (x3 : Int32) (σ : St) (H : Heap) (locs : List Loc) (ls : Array Slot), xW KM g s σ H locs → lv_has ls 4 [(0, .ref (g.q 0)), (1, .int x1), (3, .int x3)] → f_X12_readSign_245 N n x1 x3 σ = some (r, σ') → W p l e rm_X12_readSign s m args below meth c H locs 0 0 (MQ below (xPost KM g (some (.int r)) σ') args s 0 0 (xA KM g.q)) (F0 m 245 ls []) := by
  have hx := C.1
  have hb := C.2.1
  intro n
  induction n with
  | zero => intro x1 x3 σ H locs ls hW hl h; rw [f_X12_readSign_245] at h; cases h
  | succ n ih =>
    intro x1 x3 σ H locs ls hW hl h
    rw [f_X12_readSign_245] at h
    refine lv_iload_n hx hb dX12_readSign_245 rfl (lv_at hl 2 rfl) ?_
    refine lv_aload_n hx hb dX12_readSign_246 rfl (lv_at hl 0 rfl) ?_
    refine xg_i C hW fg_12_236 KM_0 rfl (v := 1006) rfl (x := σ.1 1006 0) rfl dX12_readSign_247 ?_
    refine lv_aload_n hx hb dX12_readSign_250 rfl (lv_at hl 0 rfl) ?_
    refine xg_i C hW fg_12_258 KM_0 rfl (v := 1005) rfl (x := σ.1 1005 0) rfl dX12_readSign_251 ?_
    refine lv_isub hx hb dX12_readSign_254 ?_
    refine lv_icmp_ge (tgt := 287) hx hb dX12_readSign_255 (by decide) (fun c38 => ?_) (fun c38 => ?_)
    · have h := xit c38 h
      refine lv_goto (tgt := 300) hx hb dX12_readSign_287 (by decide) ?_
      exact w_X12_readSign_300 N C _ _ _ _ hW (lv_sub hl [0] rfl) h
    · have h := xif c38 h
      refine lv_aload_n hx hb dX12_readSign_258 rfl (lv_at hl 0 rfl) ?_
      refine xg_r C hW fg_12_40 KM_0 rfl dX12_readSign_259 ?_
      refine lv_iconst (v := 3) hx hb dX12_readSign_262 rfl ?_
      refine lv_iload_n hx hb dX12_readSign_263 rfl (lv_at hl 1 rfl) ?_
      refine lv_imul hx hb dX12_readSign_264 ?_
      refine lv_iload_n hx hb dX12_readSign_265 rfl (lv_at hl 2 rfl) ?_
      refine lv_iadd hx hb dX12_readSign_266 ?_
      refine lv_aload_n hx hb dX12_readSign_267 rfl (lv_at hl 0 rfl) ?_
      refine lv_aload_n hx hb dX12_readSign_268 rfl (lv_at hl 0 rfl) ?_
      refine xg_i C hW fg_12_258 KM_0 rfl (v := 1005) rfl (x := σ.1 1005 0) rfl dX12_readSign_269 ?_
      refine lv_iload_n hx hb dX12_readSign_272 rfl (lv_at hl 2 rfl) ?_
      refine lv_iadd hx hb dX12_readSign_273 ?_
      obtain ⟨r39_, e39, h⟩ := xbo h
      refine xc_V (As := [.int ((σ.1 1005 0) + x3)]) (rest := [.int ((3 * x1) + x3), .ref (g.q 9)]) C hW (m_X12_see ((σ.1 1005 0) + x3) _ e39) mf_X12_see mv_X12_see ml_X12_254 ⟨rfl, rfl⟩ ⟨Nat.le_of_ble_eq_true rfl, Nat.le_of_ble_eq_true rfl⟩ KM_0 rfl hl.1 rfl rfl (Nat.le_of_ble_eq_true rfl) dX12_readSign_274 (fun H locs hW => W.eq (g2 := F0 m 277 ls [.int r39_, .int ((3 * x1) + x3), .ref (g.q 9)]) rfl ?_)
      refine lv_bipush (v := 97) hx hb dX12_readSign_277 rfl ?_
      refine lv_isub hx hb dX12_readSign_279 ?_
      obtain ⟨g40, h⟩ := xgd h
      refine xs_i C hW KM_9 g40 dX12_readSign_280 (fun H locs hW => ?_)
      refine lv_iinc (v := x3 + 1) (lv' := [(3, .int (x3 + 1)), (0, .ref (g.q 0)), (1, .int x1)]) hx hb dX12_readSign_281 hl (k := 2) rfl rfl (Nat.le_of_ble_eq_true rfl) rfl (fun ls hl => ?_)
      refine lv_goto (tgt := 245) hx hb dX12_readSign_284 (by decide) ?_
      exact ih x1 (x3 + 1) _ _ _ _ hW (lv_sub hl [1, 2, 0] rfl) h
set_option maxRecDepth 4000 in
theorem w_X12_readSign_212 (N : Nat) {r : Int32} {σ' : St} (C : xC KM g RX12 cX12_readSign 4 (some .boolean) p s m args meth c) : ∀ (x1 : Int32) (x2 : Int32) (σ : St) (H : Heap) (locs : List Loc) (ls : Array Slot), xW KM g s σ H locs → lv_has ls 4 [(0, .ref (g.q 0)), (1, .int x1), (2, .int x2)] → f_X12_readSign_212 N x1 x2 σ = some (r, σ') → W p l e rm_X12_readSign s m args below meth c H locs 0 0 (MQ below (xPost KM g (some (.int r)) σ') args s 0 0 (xA KM g.q)) (F0 m 212 ls []) := by
  have hx := C.1
  have hb := C.2.1
  intro x1 x2 σ H locs ls hW hl h
  unfold f_X12_readSign_212 at h
  refine lv_aload_n hx hb dX12_readSign_212 rfl (lv_at hl 0 rfl) ?_
  refine xg_r C hW fg_12_34 KM_0 rfl dX12_readSign_213 ?_
  refine lv_iload_n hx hb dX12_readSign_216 rfl (lv_at hl 1 rfl) ?_
  refine lv_iload_n hx hb dX12_readSign_217 rfl (lv_at hl 2 rfl) ?_
  refine lv_iconst (v := 5) hx hb dX12_readSign_218 rfl ?_
  refine lv_isub hx hb dX12_readSign_219 ?_
  refine lv_iconst (v := 1) hx hb dX12_readSign_220 rfl ?_
  refine lv_iadd hx hb dX12_readSign_221 ?_
  obtain ⟨g34, h⟩ := xgd h
  refine xs_i C hW KM_7 g34 dX12_readSign_222 (fun H locs hW => ?_)
  refine lv_iload_n hx hb dX12_readSign_223 rfl (lv_at hl 2 rfl) ?_
  refine lv_iconst (v := 5) hx hb dX12_readSign_224 rfl ?_
  refine lv_icmp_ne (tgt := 290) hx hb dX12_readSign_225 (by decide) (fun c35 => ?_) (fun c35 => ?_)
  · have h := xif c35 h
    refine lv_aload_n hx hb dX12_readSign_290 rfl (lv_at hl 0 rfl) ?_
    refine xg_r C hW fg_12_43 KM_0 rfl dX12_readSign_291 ?_
    refine lv_iload_n hx hb dX12_readSign_294 rfl (lv_at hl 1 rfl) ?_
    refine lv_aload_n hx hb dX12_readSign_295 rfl (lv_at hl 0 rfl) ?_
    refine xg_l C hW fg_12_271 KM_0 rfl (v := 1010) rfl (x := σ.2 1010 0) rfl dX12_readSign_296 ?_
    obtain ⟨g36, h⟩ := xgd h
    refine xs_l C hW KM_10 g36 dX12_readSign_299 (fun H locs hW => ?_)
    exact w_X12_readSign_300 N C _ _ _ _ hW (lv_sub hl [0] rfl) h
  · have h := xit c35 h
    refine lv_aload_n hx hb dX12_readSign_228 rfl (lv_at hl 0 rfl) ?_
    refine xg_r C hW fg_12_37 KM_0 rfl dX12_readSign_229 ?_
    refine lv_iload_n hx hb dX12_readSign_232 rfl (lv_at hl 1 rfl) ?_
    refine lv_aload_n hx hb dX12_readSign_233 rfl (lv_at hl 0 rfl) ?_
    refine xg_i C hW fg_12_236 KM_0 rfl (v := 1006) rfl (x := σ.1 1006 0) rfl dX12_readSign_234 ?_
    refine lv_aload_n hx hb dX12_readSign_237 rfl (lv_at hl 0 rfl) ?_
    refine xg_i C hW fg_12_258 KM_0 rfl (v := 1005) rfl (x := σ.1 1005 0) rfl dX12_readSign_238 ?_
    refine lv_isub hx hb dX12_readSign_241 ?_
    obtain ⟨g37, h⟩ := xgd h
    refine xs_i C hW KM_8 g37 dX12_readSign_242 (fun H locs hW => ?_)
    refine lv_iconst (v := 0) hx hb dX12_readSign_243 rfl ?_
    refine lv_istore_n (lv' := [(3, .int 0), (0, .ref (g.q 0)), (1, .int x1), (2, .int x2)]) hx hb dX12_readSign_244 rfl hl (Nat.le_of_ble_eq_true rfl) rfl (fun ls hl => ?_)
    exact w_X12_readSign_245 N C N x1 0 _ _ _ _ hW (lv_sub hl [1, 2, 0] rfl) h
set_option maxRecDepth 4000 in
theorem w_X12_readSign_188 (N : Nat) {r : Int32} {σ' : St} (C : xC KM g RX12 cX12_readSign 4 (some .boolean) p s m args meth c) : ∀ (x1 : Int32) (x2 : Int32) (σ : St) (H : Heap) (locs : List Loc) (ls : Array Slot), xW KM g s σ H locs → lv_has ls 4 [(0, .ref (g.q 0)), (1, .int x1), (2, .int x2)] → f_X12_readSign_188 N x1 x2 σ = some (r, σ') → W p l e rm_X12_readSign s m args below meth c H locs 0 0 (MQ below (xPost KM g (some (.int r)) σ') args s 0 0 (xA KM g.q)) (F0 m 188 ls []) := by
  have hx := C.1
  have hb := C.2.1
  intro x1 x2 σ H locs ls hW hl h
  unfold f_X12_readSign_188 at h
  refine lv_iload_n hx hb dX12_readSign_188 rfl (lv_at hl 2 rfl) ?_
  refine lv_iconst (v := 5) hx hb dX12_readSign_189 rfl ?_
  refine lv_icmp_ne (tgt := 212) hx hb dX12_readSign_190 (by decide) (fun c30 => ?_) (fun c30 => ?_)
  · have h := xif c30 h
    exact w_X12_readSign_212 N C x1 x2 _ _ _ _ hW (lv_sub hl [0, 1, 2] rfl) h
  · have h := xit c30 h
    refine lv_aload_n hx hb dX12_readSign_193 rfl (lv_at hl 0 rfl) ?_
    refine xg_i C hW fg_12_236 KM_0 rfl (v := 1006) rfl (x := σ.1 1006 0) rfl dX12_readSign_194 ?_
    refine lv_aload_n hx hb dX12_readSign_197 rfl (lv_at hl 0 rfl) ?_
    refine xg_i C hW fg_12_258 KM_0 rfl (v := 1005) rfl (x := σ.1 1005 0) rfl dX12_readSign_198 ?_
    refine lv_isub hx hb dX12_readSign_201 ?_
    refine lv_iconst (v := 3) hx hb dX12_readSign_202 rfl ?_
    refine lv_icmp_le (tgt := 212) hx hb dX12_readSign_203 (by decide) (fun c31 => ?_) (fun c31 => ?_)
    · have h := xit c31 h
      exact w_X12_readSign_212 N C x1 x2 _ _ _ _ hW (lv_sub hl [0, 1, 2] rfl) h
    · have h := xif c31 h
      refine lv_aload_n hx hb dX12_readSign_206 rfl (lv_at hl 0 rfl) ?_
      refine lv_iconst (v := 2) hx hb dX12_readSign_207 rfl ?_
      obtain ⟨r32_, σ32, e32, h⟩ := xbd h
      refine xc_V (As := [.int 2]) (rest := []) C hW (m_X12_fails 2 _ e32) mf_X12_fails mv_X12_fails ml_X12_292 ⟨rfl, rfl⟩ ⟨Nat.le_of_ble_eq_true rfl, Nat.le_of_ble_eq_true rfl⟩ KM_0 rfl hl.1 rfl rfl (Nat.le_of_ble_eq_true rfl) dX12_readSign_208 (fun H locs hW => W.eq (g2 := F0 m 211 ls [.int r32_]) rfl ?_)
      obtain ⟨g33, h⟩ := xgd h
      cases h
      exact xr_z C hW g33 dX12_readSign_211
set_option maxRecDepth 4000 in
theorem m_X12_readSign (N : Nat) (σ : St) {r : Int32} {σ' : St} (h : f_X12_readSign N σ = some (r, σ')) : xM l KM g yX12_readSign cX12_readSign 4 (some .boolean) rm_X12_readSign [.ref (g.q 0)] σ (some (.int r)) σ' := by
  refine xmet pn_X12 rfl (Nat.le_of_ble_eq_true rfl) (lv := [(0, .ref (g.q 0))]) rfl (fun p e s m args below meth c ls C hW hl => ?_)
  have hx := C.1
  have hb := C.2.1
  unfold f_X12_readSign at h
  refine lv_aload_n hx hb dX12_readSign_0 rfl (lv_at hl 0 rfl) ?_
  refine xg_i C hW fg_12_264 KM_0 rfl (v := 1003) rfl (x := σ.1 1003 0) rfl dX12_readSign_1 ?_
  refine lv_iconst (v := 1) hx hb dX12_readSign_4 rfl ?_
  refine lv_icmp_eq (tgt := 14) hx hb dX12_readSign_5 (by decide) (fun c1 => ?_) (fun c1 => ?_)
  · have h := xit c1 h
    refine lv_aload_n hx hb dX12_readSign_14 rfl (lv_at hl 0 rfl) ?_
    refine lv_aload_n hx hb dX12_readSign_15 rfl (lv_at hl 0 rfl) ?_
    refine xg_l C hW fg_12_271 KM_0 rfl (v := 1010) rfl (x := σ.2 1010 0) rfl dX12_readSign_16 ?_
    refine lv_bipush (v := 40) hx hb dX12_readSign_19 rfl ?_
    refine lv_aload_n hx hb dX12_readSign_21 rfl (lv_at hl 0 rfl) ?_
    refine xg_r C hW fg_12_21 KM_0 rfl dX12_readSign_22 ?_
    refine lv_iconst (v := 1) hx hb dX12_readSign_25 rfl ?_
    obtain ⟨g2, h⟩ := xgd h
    refine xa_i C hW KM_3 g2 (x := σ.1 3 1) rfl dX12_readSign_26 ?_
    obtain ⟨r3_, e3, h⟩ := xbo h
    refine xc_V (As := [.long (σ.2 1010 0), .int 40, .int (σ.1 3 1)]) (rest := []) C hW (m_X12_signOf N (σ.2 1010 0) 40 (σ.1 3 1) _ e3) mf_X12_signOf mv_X12_signOf ml_X12_302 ⟨rfl, rfl⟩ ⟨Nat.le_of_ble_eq_true rfl, Nat.le_of_ble_eq_true rfl⟩ KM_0 rfl hl.1 rfl rfl (Nat.le_of_ble_eq_true rfl) dX12_readSign_27 (fun H locs hW => W.eq (g2 := F0 m 30 ls [.int r3_]) rfl ?_)
    refine lv_iconst (v := (-1)) hx hb dX12_readSign_30 rfl ?_
    refine lv_icmp_eq (tgt := 40) hx hb dX12_readSign_31 (by decide) (fun c4 => ?_) (fun c4 => ?_)
    · have h := xit c4 h
      refine lv_bipush (v := 40) hx hb dX12_readSign_40 rfl ?_
      refine lv_aload_n hx hb dX12_readSign_42 rfl (lv_at hl 0 rfl) ?_
      refine xg_r C hW fg_12_21 KM_0 rfl dX12_readSign_43 ?_
      refine lv_iconst (v := 1) hx hb dX12_readSign_46 rfl ?_
      obtain ⟨g5, h⟩ := xgd h
      refine xa_i C hW KM_3 g5 (x := σ.1 3 1) rfl dX12_readSign_47 ?_
      refine lv_iadd hx hb dX12_readSign_48 ?_
      refine lv_istore_n (lv' := [(1, .int (40 + (σ.1 3 1))), (0, .ref (g.q 0))]) hx hb dX12_readSign_49 rfl hl (Nat.le_of_ble_eq_true rfl) rfl (fun ls hl => ?_)
      refine lv_aload_n hx hb dX12_readSign_50 rfl (lv_at hl 1 rfl) ?_
      refine xg_r C hW fg_12_24 KM_0 rfl dX12_readSign_51 ?_
      refine lv_iload_n hx hb dX12_readSign_54 rfl (lv_at hl 0 rfl) ?_
      refine lv_aload_n hx hb dX12_readSign_55 rfl (lv_at hl 1 rfl) ?_
      refine xg_l C hW fg_12_271 KM_0 rfl (v := 1010) rfl (x := σ.2 1010 0) rfl dX12_readSign_56 ?_
      obtain ⟨g6, h⟩ := xgd h
      refine xs_l C hW KM_4 g6 dX12_readSign_59 (fun H locs hW => ?_)
      refine lv_aload_n hx hb dX12_readSign_60 rfl (lv_at hl 1 rfl) ?_
      refine xg_r C hW fg_12_34 KM_0 rfl dX12_readSign_61 ?_
      refine lv_iload_n hx hb dX12_readSign_64 rfl (lv_at hl 0 rfl) ?_
      refine lv_iconst (v := 0) hx hb dX12_readSign_65 rfl ?_
      obtain ⟨g7, h⟩ := xgd h
      refine xs_i C hW KM_7 g7 dX12_readSign_66 (fun H locs hW => ?_)
      refine lv_aload_n hx hb dX12_readSign_67 rfl (lv_at hl 1 rfl) ?_
      refine xg_r C hW fg_12_37 KM_0 rfl dX12_readSign_68 ?_
      refine lv_iload_n hx hb dX12_readSign_71 rfl (lv_at hl 0 rfl) ?_
      refine lv_iconst (v := 0) hx hb dX12_readSign_72 rfl ?_
      obtain ⟨g8, h⟩ := xgd h
      refine xs_i C hW KM_8 g8 dX12_readSign_73 (fun H locs hW => ?_)
      refine lv_aload_n hx hb dX12_readSign_74 rfl (lv_at hl 1 rfl) ?_
      refine xg_r C hW fg_12_43 KM_0 rfl dX12_readSign_75 ?_
      refine lv_iload_n hx hb dX12_readSign_78 rfl (lv_at hl 0 rfl) ?_
      refine lv_lconst (v := 0) hx hb dX12_readSign_79 rfl ?_
      obtain ⟨g9, h⟩ := xgd h
      refine xs_l C hW KM_10 g9 dX12_readSign_80 (fun H locs hW => ?_)
      refine lv_aload_n hx hb dX12_readSign_81 rfl (lv_at hl 1 rfl) ?_
      obtain ⟨σ10, e10, h⟩ := xbo h
      refine xc_V (As := []) (rest := []) C hW (m_X12_scan N _ e10) mf_X12_scan mv_X12_scan ml_X12_239 ⟨rfl, rfl⟩ ⟨Nat.le_of_ble_eq_true rfl, Nat.le_of_ble_eq_true rfl⟩ KM_0 rfl hl.1 rfl rfl (Nat.le_of_ble_eq_true rfl) dX12_readSign_82 (fun H locs hW => W.eq (g2 := F0 m 85 ls []) rfl ?_)
      refine lv_aload_n hx hb dX12_readSign_85 rfl (lv_at hl 1 rfl) ?_
      refine lv_iconst (v := 1) hx hb dX12_readSign_86 rfl ?_
      refine lv_bipush (v := 60) hx hb dX12_readSign_87 rfl ?_
      obtain ⟨r11_, σ11, e11, h⟩ := xbd h
      refine xc_V (As := [.int 1, .int 60]) (rest := []) C hW (m_X12_readNumber N 1 60 _ e11) mf_X12_readNumber mv_X12_readNumber ml_X12_306 ⟨rfl, rfl⟩ ⟨Nat.le_of_ble_eq_true rfl, Nat.le_of_ble_eq_true rfl⟩ KM_0 rfl hl.1 rfl rfl (Nat.le_of_ble_eq_true rfl) dX12_readSign_89 (fun H locs hW => W.eq (g2 := F0 m 92 ls [.int r11_]) rfl ?_)
      refine lv_if_ne (tgt := 97) hx hb dX12_readSign_92 (by decide) (fun c12 => ?_) (fun c12 => ?_)
      · have h := xif c12 h
        refine lv_aload_n hx hb dX12_readSign_97 rfl (lv_at hl 1 rfl) ?_
        refine xg_r C hW fg_12_28 KM_0 rfl dX12_readSign_98 ?_
        refine lv_iload_n hx hb dX12_readSign_101 rfl (lv_at hl 0 rfl) ?_
        refine lv_aload_n hx hb dX12_readSign_102 rfl (lv_at hl 1 rfl) ?_
        refine xg_i C hW fg_12_299 KM_0 rfl (v := 1011) rfl (x := σ11.1 1011 0) rfl dX12_readSign_103 ?_
        obtain ⟨g13, h⟩ := xgd h
        refine xs_i C hW KM_5 g13 dX12_readSign_106 (fun H locs hW => ?_)
        refine lv_aload_n hx hb dX12_readSign_107 rfl (lv_at hl 1 rfl) ?_
        refine lv_iconst (v := 1) hx hb dX12_readSign_108 rfl ?_
        refine lv_bipush (v := 60) hx hb dX12_readSign_109 rfl ?_
        obtain ⟨r14_, σ14, e14, h⟩ := xbd h
        refine xc_V (As := [.int 1, .int 60]) (rest := []) C hW (m_X12_readNumber N 1 60 _ e14) mf_X12_readNumber mv_X12_readNumber ml_X12_306 ⟨rfl, rfl⟩ ⟨Nat.le_of_ble_eq_true rfl, Nat.le_of_ble_eq_true rfl⟩ KM_0 rfl hl.1 rfl rfl (Nat.le_of_ble_eq_true rfl) dX12_readSign_111 (fun H locs hW => W.eq (g2 := F0 m 114 ls [.int r14_]) rfl ?_)
        refine lv_if_ne (tgt := 119) hx hb dX12_readSign_114 (by decide) (fun c15 => ?_) (fun c15 => ?_)
        · have h := xif c15 h
          refine lv_aload_n hx hb dX12_readSign_119 rfl (lv_at hl 1 rfl) ?_
          refine xg_r C hW fg_12_31 KM_0 rfl dX12_readSign_120 ?_
          refine lv_iload_n hx hb dX12_readSign_123 rfl (lv_at hl 0 rfl) ?_
          refine lv_aload_n hx hb dX12_readSign_124 rfl (lv_at hl 1 rfl) ?_
          refine xg_i C hW fg_12_299 KM_0 rfl (v := 1011) rfl (x := σ14.1 1011 0) rfl dX12_readSign_125 ?_
          obtain ⟨g16, h⟩ := xgd h
          refine xs_i C hW KM_6 g16 dX12_readSign_128 (fun H locs hW => ?_)
          refine lv_aload_n hx hb dX12_readSign_129 rfl (lv_at hl 1 rfl) ?_
          refine xg_i C hW fg_12_264 KM_0 rfl (v := 1003) rfl (x := σ14.1 1003 0) rfl dX12_readSign_130 ?_
          refine lv_iconst (v := 1) hx hb dX12_readSign_133 rfl ?_
          refine lv_icmp_ne (tgt := 304) hx hb dX12_readSign_134 (by decide) (fun c17 => ?_) (fun c17 => ?_)
          · have h := xif c17 h
            exact w_X12_readSign_304 N C _ _ _ _ hW (lv_sub hl [1] rfl) h
          · have h := xit c17 h
            refine lv_aload_n hx hb dX12_readSign_137 rfl (lv_at hl 1 rfl) ?_
            refine xg_i C hW fg_12_261 KM_0 rfl (v := 1004) rfl (x := σ14.1 1004 0) rfl dX12_readSign_138 ?_
            refine lv_iconst (v := 5) hx hb dX12_readSign_141 rfl ?_
            refine lv_bipush (v := 7) hx hb dX12_readSign_142 rfl ?_
            refine xc_S (As := [.int (σ14.1 1004 0), .int 5, .int 7]) (rest := []) C hW (m_X12_in (σ14.1 1004 0) 5 7 _ rfl) mf_X12_in mt_X12_in ml_X12_295 ⟨rfl, rfl⟩ ⟨Nat.le_of_ble_eq_true rfl, Nat.le_of_ble_eq_true rfl⟩ hl.1 rfl rfl (Nat.le_of_ble_eq_true rfl) dX12_readSign_144 (fun H locs hW => W.eq (g2 := F0 m 147 ls [.int (f_X12_in (σ14.1 1004 0) 5 7 (si σ14 6 (40 + (σ.1 3 1)).toNatClampNeg (σ14.1 1011 0)))]) rfl ?_)
            refine lv_if_eq (tgt := 304) hx hb dX12_readSign_147 (by decide) (fun c18 => ?_) (fun c18 => ?_)
            · have h := xit c18 h
              exact w_X12_readSign_304 N C _ _ _ _ hW (lv_sub hl [1] rfl) h
            · have h := xif c18 h
              refine lv_aload_n hx hb dX12_readSign_150 rfl (lv_at hl 1 rfl) ?_
              refine xg_i C hW fg_12_261 KM_0 rfl (v := 1004) rfl (x := σ14.1 1004 0) rfl dX12_readSign_151 ?_
              refine lv_istore_n (lv' := [(2, .int (σ14.1 1004 0)), (1, .int (40 + (σ.1 3 1))), (0, .ref (g.q 0))]) hx hb dX12_readSign_154 rfl hl (Nat.le_of_ble_eq_true rfl) rfl (fun ls hl => ?_)
              refine lv_aload_n hx hb dX12_readSign_155 rfl (lv_at hl 2 rfl) ?_
              obtain ⟨σ19, e19, h⟩ := xbo h
              refine xc_V (As := []) (rest := []) C hW (m_X12_scan N _ e19) mf_X12_scan mv_X12_scan ml_X12_239 ⟨rfl, rfl⟩ ⟨Nat.le_of_ble_eq_true rfl, Nat.le_of_ble_eq_true rfl⟩ KM_0 rfl hl.1 rfl rfl (Nat.le_of_ble_eq_true rfl) dX12_readSign_156 (fun H locs hW => W.eq (g2 := F0 m 159 ls []) rfl ?_)
              refine lv_iload_n hx hb dX12_readSign_159 rfl (lv_at hl 0 rfl) ?_
              refine lv_iconst (v := 5) hx hb dX12_readSign_160 rfl ?_
              refine lv_icmp_ne (tgt := 174) hx hb dX12_readSign_161 (by decide) (fun c20 => ?_) (fun c20 => ?_)
              · have h := xif c20 h
                refine lv_aload_n hx hb dX12_readSign_174 rfl (lv_at hl 2 rfl) ?_
                refine xg_i C hW fg_12_264 KM_0 rfl (v := 1003) rfl (x := σ19.1 1003 0) rfl dX12_readSign_175 ?_
                refine lv_iconst (v := 1) hx hb dX12_readSign_178 rfl ?_
                refine lv_icmp_eq (tgt := 188) hx hb dX12_readSign_179 (by decide) (fun c21 => ?_) (fun c21 => ?_)
                · have h := xit c21 h
                  exact w_X12_readSign_188 N C (40 + (σ.1 3 1)) (σ14.1 1004 0) _ _ _ _ hW (lv_sub hl [2, 1, 0] rfl) h
                · have h := xif c21 h
                  exact w_X12_readSign_182 N C _ _ _ _ hW (lv_sub hl [2] rfl) h
              · have h := xit c20 h
                refine lv_aload_n hx hb dX12_readSign_164 rfl (lv_at hl 2 rfl) ?_
                obtain ⟨r22_, e22, h⟩ := xbo h
                refine xc_V (As := []) (rest := []) C hW (m_X12_isRow N _ e22) mf_X12_isRow mv_X12_isRow ml_X12_310 ⟨rfl, rfl⟩ ⟨Nat.le_of_ble_eq_true rfl, Nat.le_of_ble_eq_true rfl⟩ KM_0 rfl hl.1 rfl rfl (Nat.le_of_ble_eq_true rfl) dX12_readSign_165 (fun H locs hW => W.eq (g2 := F0 m 168 ls [.int r22_]) rfl ?_)
                refine lv_if_ne (tgt := 188) hx hb dX12_readSign_168 (by decide) (fun c23 => ?_) (fun c23 => ?_)
                · have h := xif c23 h
                  exact w_X12_readSign_188 N C (40 + (σ.1 3 1)) (σ14.1 1004 0) _ _ _ _ hW (lv_sub hl [2, 1, 0] rfl) h
                · have h := xit c23 h
                  refine lv_goto (tgt := 182) hx hb dX12_readSign_171 (by decide) ?_
                  exact w_X12_readSign_182 N C _ _ _ _ hW (lv_sub hl [2] rfl) h
        · have h := xit c15 h
          refine lv_iconst (v := 0) hx hb dX12_readSign_117 rfl ?_
          cases h
          exact xr_z C hW (by decide) dX12_readSign_118
      · have h := xit c12 h
        refine lv_iconst (v := 0) hx hb dX12_readSign_95 rfl ?_
        cases h
        exact xr_z C hW (by decide) dX12_readSign_96
    · have h := xif c4 h
      refine lv_aload_n hx hb dX12_readSign_34 rfl (lv_at hl 0 rfl) ?_
      refine lv_iconst (v := 3) hx hb dX12_readSign_35 rfl ?_
      obtain ⟨r24_, σ24, e24, h⟩ := xbd h
      refine xc_V (As := [.int 3]) (rest := []) C hW (m_X12_fails 3 _ e24) mf_X12_fails mv_X12_fails ml_X12_292 ⟨rfl, rfl⟩ ⟨Nat.le_of_ble_eq_true rfl, Nat.le_of_ble_eq_true rfl⟩ KM_0 rfl hl.1 rfl rfl (Nat.le_of_ble_eq_true rfl) dX12_readSign_36 (fun H locs hW => W.eq (g2 := F0 m 39 ls [.int r24_]) rfl ?_)
      obtain ⟨g25, h⟩ := xgd h
      cases h
      exact xr_z C hW g25 dX12_readSign_39
  · have h := xif c1 h
    refine lv_aload_n hx hb dX12_readSign_8 rfl (lv_at hl 0 rfl) ?_
    refine lv_iconst (v := 1) hx hb dX12_readSign_9 rfl ?_
    obtain ⟨r26_, σ26, e26, h⟩ := xbd h
    refine xc_V (As := [.int 1]) (rest := []) C hW (m_X12_fails 1 _ e26) mf_X12_fails mv_X12_fails ml_X12_292 ⟨rfl, rfl⟩ ⟨Nat.le_of_ble_eq_true rfl, Nat.le_of_ble_eq_true rfl⟩ KM_0 rfl hl.1 rfl rfl (Nat.le_of_ble_eq_true rfl) dX12_readSign_10 (fun H locs hW => W.eq (g2 := F0 m 13 ls [.int r26_]) rfl ?_)
    obtain ⟨g27, h⟩ := xgd h
    cases h
    exact xr_z C hW g27 dX12_readSign_13
end
