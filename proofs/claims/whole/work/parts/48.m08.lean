theorem dX12_isCovered_0 : decode cX12_isCovered 0 = .ok (.aload_n 0, 1) := by decide +kernel
theorem dX12_isCovered_1 : decode cX12_isCovered 1 = .ok (.getfield 124, 3) := by decide +kernel
theorem dX12_isCovered_4 : decode cX12_isCovered 4 = .ok (.bipush 18, 2) := by decide +kernel
theorem dX12_isCovered_6 : decode cX12_isCovered 6 = .ok (.iload_n 1, 1) := by decide +kernel
theorem dX12_isCovered_7 : decode cX12_isCovered 7 = .ok (.imul, 1) := by decide +kernel
theorem dX12_isCovered_8 : decode cX12_isCovered 8 = .ok (.iconst 2, 1) := by decide +kernel
theorem dX12_isCovered_9 : decode cX12_isCovered 9 = .ok (.aload_n 0, 1) := by decide +kernel
theorem dX12_isCovered_10 : decode cX12_isCovered 10 = .ok (.getfield 106, 3) := by decide +kernel
theorem dX12_isCovered_13 : decode cX12_isCovered 13 = .ok (.iload_n 2, 1) := by decide +kernel
theorem dX12_isCovered_14 : decode cX12_isCovered 14 = .ok (.iaload, 1) := by decide +kernel
theorem dX12_isCovered_15 : decode cX12_isCovered 15 = .ok (.imul, 1) := by decide +kernel
theorem dX12_isCovered_16 : decode cX12_isCovered 16 = .ok (.iadd, 1) := by decide +kernel
theorem dX12_isCovered_17 : decode cX12_isCovered 17 = .ok (.iaload, 1) := by decide +kernel
theorem dX12_isCovered_18 : decode cX12_isCovered 18 = .ok (.aload_n 0, 1) := by decide +kernel
theorem dX12_isCovered_19 : decode cX12_isCovered 19 = .ok (.getfield 124, 3) := by decide +kernel
theorem dX12_isCovered_22 : decode cX12_isCovered 22 = .ok (.bipush 18, 2) := by decide +kernel
theorem dX12_isCovered_24 : decode cX12_isCovered 24 = .ok (.iload_n 1, 1) := by decide +kernel
theorem dX12_isCovered_25 : decode cX12_isCovered 25 = .ok (.imul, 1) := by decide +kernel
theorem dX12_isCovered_26 : decode cX12_isCovered 26 = .ok (.iconst 2, 1) := by decide +kernel
theorem dX12_isCovered_27 : decode cX12_isCovered 27 = .ok (.aload_n 0, 1) := by decide +kernel
theorem dX12_isCovered_28 : decode cX12_isCovered 28 = .ok (.getfield 106, 3) := by decide +kernel
theorem dX12_isCovered_31 : decode cX12_isCovered 31 = .ok (.iload_n 2, 1) := by decide +kernel
theorem dX12_isCovered_32 : decode cX12_isCovered 32 = .ok (.iaload, 1) := by decide +kernel
theorem dX12_isCovered_33 : decode cX12_isCovered 33 = .ok (.imul, 1) := by decide +kernel
theorem dX12_isCovered_34 : decode cX12_isCovered 34 = .ok (.iadd, 1) := by decide +kernel
theorem dX12_isCovered_35 : decode cX12_isCovered 35 = .ok (.iconst 1, 1) := by decide +kernel
theorem dX12_isCovered_36 : decode cX12_isCovered 36 = .ok (.iadd, 1) := by decide +kernel
theorem dX12_isCovered_37 : decode cX12_isCovered 37 = .ok (.iaload, 1) := by decide +kernel
theorem dX12_isCovered_38 : decode cX12_isCovered 38 = .ok (.ior, 1) := by decide +kernel
theorem dX12_isCovered_39 : decode cX12_isCovered 39 = .ok (.ifCond .eq 7, 3) := by decide +kernel
theorem dX12_isCovered_42 : decode cX12_isCovered 42 = .ok (.iconst 1, 1) := by decide +kernel
theorem dX12_isCovered_43 : decode cX12_isCovered 43 = .ok (.goto 4, 3) := by decide +kernel
theorem dX12_isCovered_46 : decode cX12_isCovered 46 = .ok (.iconst 0, 1) := by decide +kernel
theorem dX12_isCovered_47 : decode cX12_isCovered 47 = .ok (.ireturn, 1) := by decide +kernel
abbrev rm_X12_isCovered : Room := { frames := 0, cells := 0, slots := 0, locals := 0 }
def f_X12_isCovered (x1 : Int32) (x2 : Int32) (σ : St) : Option Int32 := grd (ib x2 40) (grd (ib ((18 * x1) + (2 * (σ.1 31 x2.toNatClampNeg))) 234) (grd (ib x2 40) (grd (ib (((18 * x1) + (2 * (σ.1 31 x2.toNatClampNeg))) + 1) 234) ((if ((σ.1 37 ((18 * x1) + (2 * (σ.1 31 x2.toNatClampNeg))).toNatClampNeg) ||| (σ.1 37 (((18 * x1) + (2 * (σ.1 31 x2.toNatClampNeg))) + 1).toNatClampNeg)) = 0 then some 0 else some 1)))))
section
variable {p : Program} {l : Launch} {e : Env} {s : State} {m : MethodId} {args : Array Value} {below : List Frame} {meth : Method} {c : Code} {g : XG}
set_option maxRecDepth 4000 in
theorem m_X12_isCovered (x1 : Int32) (x2 : Int32) (σ : St) {r : Int32} (h : f_X12_isCovered x1 x2 σ = some r) : xM l KM g yX12_isCovered cX12_isCovered 3 (some .boolean) rm_X12_isCovered [.ref (g.q 0), .int x1, .int x2] σ (some (.int r)) σ := by
  refine xmet pn_X12 rfl (Nat.le_of_ble_eq_true rfl) (lv := [(0, .ref (g.q 0)), (1, .int x1), (2, .int x2)]) rfl (fun p e s m args below meth c ls C hW hl => ?_)
  have hx := C.1
  have hb := C.2.1
  unfold f_X12_isCovered at h
  refine lv_aload_n hx hb dX12_isCovered_0 rfl (lv_at hl 0 rfl) ?_
  refine xg_r C hW fg_12_124 KM_0 rfl dX12_isCovered_1 ?_
  refine lv_bipush (v := 18) hx hb dX12_isCovered_4 rfl ?_
  refine lv_iload_n hx hb dX12_isCovered_6 rfl (lv_at hl 1 rfl) ?_
  refine lv_imul hx hb dX12_isCovered_7 ?_
  refine lv_iconst (v := 2) hx hb dX12_isCovered_8 rfl ?_
  refine lv_aload_n hx hb dX12_isCovered_9 rfl (lv_at hl 0 rfl) ?_
  refine xg_r C hW fg_12_106 KM_0 rfl dX12_isCovered_10 ?_
  refine lv_iload_n hx hb dX12_isCovered_13 rfl (lv_at hl 2 rfl) ?_
  obtain ⟨g1, h⟩ := xgd h
  refine xa_i C hW KM_31 g1 (x := σ.1 31 x2.toNatClampNeg) rfl dX12_isCovered_14 ?_
  refine lv_imul hx hb dX12_isCovered_15 ?_
  refine lv_iadd hx hb dX12_isCovered_16 ?_
  obtain ⟨g2, h⟩ := xgd h
  refine xa_i C hW KM_37 g2 (x := σ.1 37 ((18 * x1) + (2 * (σ.1 31 x2.toNatClampNeg))).toNatClampNeg) rfl dX12_isCovered_17 ?_
  refine lv_aload_n hx hb dX12_isCovered_18 rfl (lv_at hl 0 rfl) ?_
  refine xg_r C hW fg_12_124 KM_0 rfl dX12_isCovered_19 ?_
  refine lv_bipush (v := 18) hx hb dX12_isCovered_22 rfl ?_
  refine lv_iload_n hx hb dX12_isCovered_24 rfl (lv_at hl 1 rfl) ?_
  refine lv_imul hx hb dX12_isCovered_25 ?_
  refine lv_iconst (v := 2) hx hb dX12_isCovered_26 rfl ?_
  refine lv_aload_n hx hb dX12_isCovered_27 rfl (lv_at hl 0 rfl) ?_
  refine xg_r C hW fg_12_106 KM_0 rfl dX12_isCovered_28 ?_
  refine lv_iload_n hx hb dX12_isCovered_31 rfl (lv_at hl 2 rfl) ?_
  obtain ⟨g3, h⟩ := xgd h
  refine xa_i C hW KM_31 g3 (x := σ.1 31 x2.toNatClampNeg) rfl dX12_isCovered_32 ?_
  refine lv_imul hx hb dX12_isCovered_33 ?_
  refine lv_iadd hx hb dX12_isCovered_34 ?_
  refine lv_iconst (v := 1) hx hb dX12_isCovered_35 rfl ?_
  refine lv_iadd hx hb dX12_isCovered_36 ?_
  obtain ⟨g4, h⟩ := xgd h
  refine xa_i C hW KM_37 g4 (x := σ.1 37 (((18 * x1) + (2 * (σ.1 31 x2.toNatClampNeg))) + 1).toNatClampNeg) rfl dX12_isCovered_37 ?_
  refine lv_ior hx hb dX12_isCovered_38 ?_
  refine lv_if_eq (tgt := 46) hx hb dX12_isCovered_39 (by decide) (fun c5 => ?_) (fun c5 => ?_)
  · have h := xit c5 h
    refine lv_iconst (v := 0) hx hb dX12_isCovered_46 rfl ?_
    cases h
    exact xr_z C hW (by decide) dX12_isCovered_47
  · have h := xif c5 h
    refine lv_iconst (v := 1) hx hb dX12_isCovered_42 rfl ?_
    refine lv_goto (tgt := 47) hx hb dX12_isCovered_43 (by decide) ?_
    cases h
    exact xr_z C hW (by decide) dX12_isCovered_47
end
theorem dX12_isSpelling_0 : decode cX12_isSpelling 0 = .ok (.iload_n 3, 1) := by decide +kernel
theorem dX12_isSpelling_1 : decode cX12_isSpelling 1 = .ok (.iload_n 2, 1) := by decide +kernel
theorem dX12_isSpelling_2 : decode cX12_isSpelling 2 = .ok (.isub, 1) := by decide +kernel
theorem dX12_isSpelling_3 : decode cX12_isSpelling 3 = .ok (.istore 5, 2) := by decide +kernel
theorem dX12_isSpelling_5 : decode cX12_isSpelling 5 = .ok (.iload 5, 2) := by decide +kernel
theorem dX12_isSpelling_7 : decode cX12_isSpelling 7 = .ok (.bipush 12, 2) := by decide +kernel
theorem dX12_isSpelling_9 : decode cX12_isSpelling 9 = .ok (.if_icmp .le 5, 3) := by decide +kernel
theorem dX12_isSpelling_12 : decode cX12_isSpelling 12 = .ok (.iconst 0, 1) := by decide +kernel
theorem dX12_isSpelling_13 : decode cX12_isSpelling 13 = .ok (.ireturn, 1) := by decide +kernel
theorem dX12_isSpelling_14 : decode cX12_isSpelling 14 = .ok (.aload_n 0, 1) := by decide +kernel
theorem dX12_isSpelling_15 : decode cX12_isSpelling 15 = .ok (.getfield 112, 3) := by decide +kernel
theorem dX12_isSpelling_18 : decode cX12_isSpelling 18 = .ok (.iload 4, 2) := by decide +kernel
theorem dX12_isSpelling_20 : decode cX12_isSpelling 20 = .ok (.laload, 1) := by decide +kernel
theorem dX12_isSpelling_21 : decode cX12_isSpelling 21 = .ok (.lconst 0, 1) := by decide +kernel
theorem dX12_isSpelling_22 : decode cX12_isSpelling 22 = .ok (.lcmp, 1) := by decide +kernel
theorem dX12_isSpelling_23 : decode cX12_isSpelling 23 = .ok (.ifCond .eq 28, 3) := by decide +kernel
theorem dX12_isSpelling_26 : decode cX12_isSpelling 26 = .ok (.iinc 5 (-1), 3) := by decide +kernel
theorem dX12_isSpelling_29 : decode cX12_isSpelling 29 = .ok (.iload 5, 2) := by decide +kernel
theorem dX12_isSpelling_31 : decode cX12_isSpelling 31 = .ok (.iconst 1, 1) := by decide +kernel
theorem dX12_isSpelling_32 : decode cX12_isSpelling 32 = .ok (.if_icmp .lt 17, 3) := by decide +kernel
theorem dX12_isSpelling_35 : decode cX12_isSpelling 35 = .ok (.aload_n 0, 1) := by decide +kernel
theorem dX12_isSpelling_36 : decode cX12_isSpelling 36 = .ok (.aload_n 1, 1) := by decide +kernel
theorem dX12_isSpelling_37 : decode cX12_isSpelling 37 = .ok (.iload_n 3, 1) := by decide +kernel
theorem dX12_isSpelling_38 : decode cX12_isSpelling 38 = .ok (.iconst 1, 1) := by decide +kernel
theorem dX12_isSpelling_39 : decode cX12_isSpelling 39 = .ok (.isub, 1) := by decide +kernel
theorem dX12_isSpelling_40 : decode cX12_isSpelling 40 = .ok (.iaload, 1) := by decide +kernel
theorem dX12_isSpelling_41 : decode cX12_isSpelling 41 = .ok (.iload 4, 2) := by decide +kernel
theorem dX12_isSpelling_43 : decode cX12_isSpelling 43 = .ok (.invokevirtual 417, 3) := by decide +kernel
theorem dX12_isSpelling_46 : decode cX12_isSpelling 46 = .ok (.ifCond .ne 5, 3) := by decide +kernel
theorem dX12_isSpelling_49 : decode cX12_isSpelling 49 = .ok (.iconst 0, 1) := by decide +kernel
theorem dX12_isSpelling_50 : decode cX12_isSpelling 50 = .ok (.ireturn, 1) := by decide +kernel
theorem dX12_isSpelling_51 : decode cX12_isSpelling 51 = .ok (.iload 5, 2) := by decide +kernel
theorem dX12_isSpelling_53 : decode cX12_isSpelling 53 = .ok (.iconst 1, 1) := by decide +kernel
theorem dX12_isSpelling_54 : decode cX12_isSpelling 54 = .ok (.if_icmp .ne 15, 3) := by decide +kernel
theorem dX12_isSpelling_57 : decode cX12_isSpelling 57 = .ok (.aload_n 0, 1) := by decide +kernel
theorem dX12_isSpelling_58 : decode cX12_isSpelling 58 = .ok (.aload_n 1, 1) := by decide +kernel
theorem dX12_isSpelling_59 : decode cX12_isSpelling 59 = .ok (.iload_n 2, 1) := by decide +kernel
theorem dX12_isSpelling_60 : decode cX12_isSpelling 60 = .ok (.iaload, 1) := by decide +kernel
theorem dX12_isSpelling_61 : decode cX12_isSpelling 61 = .ok (.iload 4, 2) := by decide +kernel
theorem dX12_isSpelling_63 : decode cX12_isSpelling 63 = .ok (.invokevirtual 420, 3) := by decide +kernel
theorem dX12_isSpelling_66 : decode cX12_isSpelling 66 = .ok (.ifCond .ne 35, 3) := by decide +kernel
theorem dX12_isSpelling_69 : decode cX12_isSpelling 69 = .ok (.iload 5, 2) := by decide +kernel
theorem dX12_isSpelling_71 : decode cX12_isSpelling 71 = .ok (.iconst 2, 1) := by decide +kernel
theorem dX12_isSpelling_72 : decode cX12_isSpelling 72 = .ok (.if_icmp .ne 31, 3) := by decide +kernel
theorem dX12_isSpelling_75 : decode cX12_isSpelling 75 = .ok (.aload_n 0, 1) := by decide +kernel
theorem dX12_isSpelling_76 : decode cX12_isSpelling 76 = .ok (.aload_n 1, 1) := by decide +kernel
theorem dX12_isSpelling_77 : decode cX12_isSpelling 77 = .ok (.iload_n 2, 1) := by decide +kernel
theorem dX12_isSpelling_78 : decode cX12_isSpelling 78 = .ok (.iaload, 1) := by decide +kernel
theorem dX12_isSpelling_79 : decode cX12_isSpelling 79 = .ok (.iload 4, 2) := by decide +kernel
theorem dX12_isSpelling_81 : decode cX12_isSpelling 81 = .ok (.invokevirtual 420, 3) := by decide +kernel
theorem dX12_isSpelling_84 : decode cX12_isSpelling 84 = .ok (.ifCond .eq 19, 3) := by decide +kernel
theorem dX12_isSpelling_87 : decode cX12_isSpelling 87 = .ok (.aload_n 0, 1) := by decide +kernel
theorem dX12_isSpelling_88 : decode cX12_isSpelling 88 = .ok (.aload_n 1, 1) := by decide +kernel
theorem dX12_isSpelling_89 : decode cX12_isSpelling 89 = .ok (.iload_n 2, 1) := by decide +kernel
theorem dX12_isSpelling_90 : decode cX12_isSpelling 90 = .ok (.iconst 1, 1) := by decide +kernel
theorem dX12_isSpelling_91 : decode cX12_isSpelling 91 = .ok (.iadd, 1) := by decide +kernel
theorem dX12_isSpelling_92 : decode cX12_isSpelling 92 = .ok (.iaload, 1) := by decide +kernel
theorem dX12_isSpelling_93 : decode cX12_isSpelling 93 = .ok (.iload 4, 2) := by decide +kernel
theorem dX12_isSpelling_95 : decode cX12_isSpelling 95 = .ok (.invokevirtual 423, 3) := by decide +kernel
theorem dX12_isSpelling_98 : decode cX12_isSpelling 98 = .ok (.ifCond .eq 5, 3) := by decide +kernel
theorem dX12_isSpelling_101 : decode cX12_isSpelling 101 = .ok (.iconst 1, 1) := by decide +kernel
theorem dX12_isSpelling_102 : decode cX12_isSpelling 102 = .ok (.ireturn, 1) := by decide +kernel
theorem dX12_isSpelling_103 : decode cX12_isSpelling 103 = .ok (.aload_n 0, 1) := by decide +kernel
theorem dX12_isSpelling_104 : decode cX12_isSpelling 104 = .ok (.invokevirtual 426, 3) := by decide +kernel
theorem dX12_isSpelling_107 : decode cX12_isSpelling 107 = .ok (.iconst 0, 1) := by decide +kernel
theorem dX12_isSpelling_108 : decode cX12_isSpelling 108 = .ok (.istore 6, 2) := by decide +kernel
theorem dX12_isSpelling_110 : decode cX12_isSpelling 110 = .ok (.iload 6, 2) := by decide +kernel
theorem dX12_isSpelling_112 : decode cX12_isSpelling 112 = .ok (.iload 5, 2) := by decide +kernel
theorem dX12_isSpelling_114 : decode cX12_isSpelling 114 = .ok (.if_icmp .ge 28, 3) := by decide +kernel
theorem dX12_isSpelling_117 : decode cX12_isSpelling 117 = .ok (.aload_n 0, 1) := by decide +kernel
theorem dX12_isSpelling_118 : decode cX12_isSpelling 118 = .ok (.iload 6, 2) := by decide +kernel
theorem dX12_isSpelling_120 : decode cX12_isSpelling 120 = .ok (.aload_n 1, 1) := by decide +kernel
theorem dX12_isSpelling_121 : decode cX12_isSpelling 121 = .ok (.iload_n 2, 1) := by decide +kernel
theorem dX12_isSpelling_122 : decode cX12_isSpelling 122 = .ok (.iload 6, 2) := by decide +kernel
theorem dX12_isSpelling_124 : decode cX12_isSpelling 124 = .ok (.iadd, 1) := by decide +kernel
theorem dX12_isSpelling_125 : decode cX12_isSpelling 125 = .ok (.iaload, 1) := by decide +kernel
theorem dX12_isSpelling_126 : decode cX12_isSpelling 126 = .ok (.iload 4, 2) := by decide +kernel
theorem dX12_isSpelling_128 : decode cX12_isSpelling 128 = .ok (.invokevirtual 429, 3) := by decide +kernel
theorem dX12_isSpelling_131 : decode cX12_isSpelling 131 = .ok (.ifCond .ne 5, 3) := by decide +kernel
theorem dX12_isSpelling_134 : decode cX12_isSpelling 134 = .ok (.iconst 0, 1) := by decide +kernel
theorem dX12_isSpelling_135 : decode cX12_isSpelling 135 = .ok (.ireturn, 1) := by decide +kernel
theorem dX12_isSpelling_136 : decode cX12_isSpelling 136 = .ok (.iinc 6 1, 3) := by decide +kernel
theorem dX12_isSpelling_139 : decode cX12_isSpelling 139 = .ok (.goto (-29), 3) := by decide +kernel
theorem dX12_isSpelling_142 : decode cX12_isSpelling 142 = .ok (.aload_n 0, 1) := by decide +kernel
theorem dX12_isSpelling_143 : decode cX12_isSpelling 143 = .ok (.iload 5, 2) := by decide +kernel
theorem dX12_isSpelling_145 : decode cX12_isSpelling 145 = .ok (.iload 4, 2) := by decide +kernel
theorem dX12_isSpelling_147 : decode cX12_isSpelling 147 = .ok (.invokevirtual 432, 3) := by decide +kernel
theorem dX12_isSpelling_150 : decode cX12_isSpelling 150 = .ok (.ireturn, 1) := by decide +kernel
abbrev rm_X12_isSpelling : Room := { frames := 2, cells := 0, slots := 0, locals := 51 }
def f_X12_isSpelling_110 (r1 rn1 : Nat) (N : Nat) : Nat → Int32 → Int32 → Int32 → Int32 → St → Option (Int32 × St)
  | 0, _, _, _, _, _ => none
  | n + 1, x2, x4, x5, x6, σ => (if x5 ≤ x6 then bo (f_X12_isCovered x5 x4 σ) (fun r21_ => grd (zbb r21_) (some (r21_, σ))) else grd (ib (x2 + x6) rn1) (bd (f_X12_coverOn N x6 (σ.1 r1 (x2 + x6).toNatClampNeg) x4 σ) (fun r24_ σ24 => (if r24_ = 0 then some (0, σ24) else f_X12_isSpelling_110 r1 rn1 N n x2 x4 x5 (x6 + 1) σ24))))
def f_X12_isSpelling_103 (r1 rn1 : Nat) (N : Nat) (x2 : Int32) (x4 : Int32) (x5 : Int32) (σ : St) : Option (Int32 × St) := bo (f_X12_beginCover N σ) (fun σ19 => f_X12_isSpelling_110 r1 rn1 N N x2 x4 x5 0 σ19)
def f_X12_isSpelling_69 (r1 rn1 : Nat) (N : Nat) (x2 : Int32) (x4 : Int32) (x5 : Int32) (σ : St) : Option (Int32 × St) := (if x5 = 2 then grd (ib x2 rn1) (bo (f_X12_isIdea (σ.1 r1 x2.toNatClampNeg) x4 σ) (fun r14_ => (if r14_ = 0 then f_X12_isSpelling_103 r1 rn1 N x2 x4 x5 σ else grd (ib (x2 + 1) rn1) (bo (f_X12_isTail N (σ.1 r1 (x2 + 1).toNatClampNeg) x4 σ) (fun r17_ => (if r17_ = 0 then f_X12_isSpelling_103 r1 rn1 N x2 x4 x5 σ else some (1, σ))))))) else f_X12_isSpelling_103 r1 rn1 N x2 x4 x5 σ)
def f_X12_isSpelling_51 (r1 rn1 : Nat) (N : Nat) (x2 : Int32) (x4 : Int32) (x5 : Int32) (σ : St) : Option (Int32 × St) := (if x5 = 1 then grd (ib x2 rn1) (bo (f_X12_isIdea (σ.1 r1 x2.toNatClampNeg) x4 σ) (fun r10_ => (if r10_ = 0 then f_X12_isSpelling_69 r1 rn1 N x2 x4 x5 σ else some (1, σ)))) else f_X12_isSpelling_69 r1 rn1 N x2 x4 x5 σ)
def f_X12_isSpelling (r1 rn1 : Nat) (N : Nat) (x2 : Int32) (x3 : Int32) (x4 : Int32) (σ : St) : Option (Int32 × St) := (if (x3 - x2) ≤ 12 then grd (ib x4 40) ((if (lg_cmp (σ.2 33 x4.toNatClampNeg) 0) = 0 then f_X12_isSpelling_51 r1 rn1 N x2 x4 (x3 - x2) σ else (if ((x3 - x2) + (-1)) < 1 then some (0, σ) else grd (ib (x3 - 1) rn1) (bo (f_X12_isKind (σ.1 r1 (x3 - 1).toNatClampNeg) x4 σ) (fun r6_ => (if r6_ = 0 then some (0, σ) else f_X12_isSpelling_51 r1 rn1 N x2 x4 ((x3 - x2) + (-1)) σ)))))) else some (0, σ))
section
variable {p : Program} {l : Launch} {e : Env} {s : State} {m : MethodId} {args : Array Value} {below : List Frame} {meth : Method} {c : Code} {g : XG}
set_option maxRecDepth 4000 in
theorem w_X12_isSpelling_110 (r1 rn1 : Nat) (hr1 : KM[r1]? = some (.inr (0, rn1))) (N : Nat) {r : Int32} {σ' : St} (C : xC KM g RX12 cX12_isSpelling 7 (some .boolean) p s m args meth c) : ∀ (n : Nat), ∀ (x2 : Int32) (x4 : Int32) (x5 : Int32) (x6 : Int32) (σ : St) (H : Heap) (locs : List Loc) (ls : Array Slot), xW KM g s σ H locs → lv_has ls 7 [(0, .ref (g.q 0)), (1, .ref (g.q r1)), (2, .int x2), (4, .int x4), (5, .int x5), (6, .int x6)] → f_X12_isSpelling_110 r1 rn1 N n x2 x4 x5 x6 σ = some (r, σ') → W p l e rm_X12_isSpelling s m args below meth c H locs 0 0 (MQ below (xPost KM g (some (.int r)) σ') args s 0 0 (xA KM g.q)) (F0 m 110 ls []) := by
  have hx := C.1
  have hb := C.2.1
  intro n
  induction n with
  | zero => intro x2 x4 x5 x6 σ H locs ls hW hl h; rw [f_X12_isSpelling_110] at h; cases h
  | succ n ih =>
    intro x2 x4 x5 x6 σ H locs ls hW hl h
    rw [f_X12_isSpelling_110] at h
    refine lv_iload hx hb dX12_isSpelling_110 (lv_at hl 5 rfl) ?_
    refine lv_iload hx hb dX12_isSpelling_112 (lv_at hl 4 rfl) ?_
    refine lv_icmp_ge (tgt := 142) hx hb dX12_isSpelling_114 (by decide) (fun c20 => ?_) (fun c20 => ?_)
    · have h := xit c20 h
      refine lv_aload_n hx hb dX12_isSpelling_142 rfl (lv_at hl 0 rfl) ?_
      refine lv_iload hx hb dX12_isSpelling_143 (lv_at hl 4 rfl) ?_
      refine lv_iload hx hb dX12_isSpelling_145 (lv_at hl 3 rfl) ?_
      obtain ⟨r21_, e21, h⟩ := xbo h
      refine xc_V (As := [.int x5, .int x4]) (rest := []) C hW (m_X12_isCovered x5 x4 _ e21) mf_X12_isCovered mv_X12_isCovered ml_X12_432 ⟨rfl, rfl⟩ ⟨Nat.le_of_ble_eq_true rfl, Nat.le_of_ble_eq_true rfl⟩ KM_0 rfl hl.1 rfl rfl (Nat.le_of_ble_eq_true rfl) dX12_isSpelling_147 (fun H locs hW => W.eq (g2 := F0 m 150 ls [.int r21_]) rfl ?_)
      obtain ⟨g22, h⟩ := xgd h
      cases h
      exact xr_z C hW g22 dX12_isSpelling_150
    · have h := xif c20 h
      refine lv_aload_n hx hb dX12_isSpelling_117 rfl (lv_at hl 0 rfl) ?_
      refine lv_iload hx hb dX12_isSpelling_118 (lv_at hl 5 rfl) ?_
      refine lv_aload_n hx hb dX12_isSpelling_120 rfl (lv_at hl 1 rfl) ?_
      refine lv_iload_n hx hb dX12_isSpelling_121 rfl (lv_at hl 2 rfl) ?_
      refine lv_iload hx hb dX12_isSpelling_122 (lv_at hl 5 rfl) ?_
      refine lv_iadd hx hb dX12_isSpelling_124 ?_
      obtain ⟨g23, h⟩ := xgd h
      refine xa_i C hW hr1 g23 (x := σ.1 r1 (x2 + x6).toNatClampNeg) rfl dX12_isSpelling_125 ?_
      refine lv_iload hx hb dX12_isSpelling_126 (lv_at hl 3 rfl) ?_
      obtain ⟨r24_, σ24, e24, h⟩ := xbd h
      refine xc_V (As := [.int x6, .int (σ.1 r1 (x2 + x6).toNatClampNeg), .int x4]) (rest := []) C hW (m_X12_coverOn N x6 (σ.1 r1 (x2 + x6).toNatClampNeg) x4 _ e24) mf_X12_coverOn mv_X12_coverOn ml_X12_429 ⟨rfl, rfl⟩ ⟨Nat.le_of_ble_eq_true rfl, Nat.le_of_ble_eq_true rfl⟩ KM_0 rfl hl.1 rfl rfl (Nat.le_of_ble_eq_true rfl) dX12_isSpelling_128 (fun H locs hW => W.eq (g2 := F0 m 131 ls [.int r24_]) rfl ?_)
      refine lv_if_ne (tgt := 136) hx hb dX12_isSpelling_131 (by decide) (fun c25 => ?_) (fun c25 => ?_)
      · have h := xif c25 h
        refine lv_iinc (v := x6 + 1) (lv' := [(6, .int (x6 + 1)), (0, .ref (g.q 0)), (1, .ref (g.q r1)), (2, .int x2), (4, .int x4), (5, .int x5)]) hx hb dX12_isSpelling_136 hl (k := 5) rfl rfl (Nat.le_of_ble_eq_true rfl) rfl (fun ls hl => ?_)
        refine lv_goto (tgt := 110) hx hb dX12_isSpelling_139 (by decide) ?_
        exact ih x2 x4 x5 (x6 + 1) _ _ _ _ hW (lv_sub hl [1, 2, 3, 4, 5, 0] rfl) h
      · have h := xit c25 h
        refine lv_iconst (v := 0) hx hb dX12_isSpelling_134 rfl ?_
        cases h
        exact xr_z C hW (by decide) dX12_isSpelling_135
set_option maxRecDepth 4000 in
theorem w_X12_isSpelling_103 (r1 rn1 : Nat) (hr1 : KM[r1]? = some (.inr (0, rn1))) (N : Nat) {r : Int32} {σ' : St} (C : xC KM g RX12 cX12_isSpelling 7 (some .boolean) p s m args meth c) : ∀ (x2 : Int32) (x4 : Int32) (x5 : Int32) (σ : St) (H : Heap) (locs : List Loc) (ls : Array Slot), xW KM g s σ H locs → lv_has ls 7 [(0, .ref (g.q 0)), (1, .ref (g.q r1)), (2, .int x2), (4, .int x4), (5, .int x5)] → f_X12_isSpelling_103 r1 rn1 N x2 x4 x5 σ = some (r, σ') → W p l e rm_X12_isSpelling s m args below meth c H locs 0 0 (MQ below (xPost KM g (some (.int r)) σ') args s 0 0 (xA KM g.q)) (F0 m 103 ls []) := by
  have hx := C.1
  have hb := C.2.1
  intro x2 x4 x5 σ H locs ls hW hl h
  unfold f_X12_isSpelling_103 at h
  refine lv_aload_n hx hb dX12_isSpelling_103 rfl (lv_at hl 0 rfl) ?_
  obtain ⟨σ19, e19, h⟩ := xbo h
  refine xc_V (As := []) (rest := []) C hW (m_X12_beginCover N _ e19) mf_X12_beginCover mv_X12_beginCover ml_X12_426 ⟨rfl, rfl⟩ ⟨Nat.le_of_ble_eq_true rfl, Nat.le_of_ble_eq_true rfl⟩ KM_0 rfl hl.1 rfl rfl (Nat.le_of_ble_eq_true rfl) dX12_isSpelling_104 (fun H locs hW => W.eq (g2 := F0 m 107 ls []) rfl ?_)
  refine lv_iconst (v := 0) hx hb dX12_isSpelling_107 rfl ?_
  refine lv_istore (lv' := [(6, .int 0), (0, .ref (g.q 0)), (1, .ref (g.q r1)), (2, .int x2), (4, .int x4), (5, .int x5)]) hx hb dX12_isSpelling_108 hl (Nat.le_of_ble_eq_true rfl) rfl (fun ls hl => ?_)
  exact w_X12_isSpelling_110 r1 rn1 hr1 N C N x2 x4 x5 0 _ _ _ _ hW (lv_sub hl [1, 2, 3, 4, 5, 0] rfl) h
set_option maxRecDepth 4000 in
theorem w_X12_isSpelling_69 (r1 rn1 : Nat) (hr1 : KM[r1]? = some (.inr (0, rn1))) (N : Nat) {r : Int32} {σ' : St} (C : xC KM g RX12 cX12_isSpelling 7 (some .boolean) p s m args meth c) : ∀ (x2 : Int32) (x4 : Int32) (x5 : Int32) (σ : St) (H : Heap) (locs : List Loc) (ls : Array Slot), xW KM g s σ H locs → lv_has ls 7 [(0, .ref (g.q 0)), (1, .ref (g.q r1)), (2, .int x2), (4, .int x4), (5, .int x5)] → f_X12_isSpelling_69 r1 rn1 N x2 x4 x5 σ = some (r, σ') → W p l e rm_X12_isSpelling s m args below meth c H locs 0 0 (MQ below (xPost KM g (some (.int r)) σ') args s 0 0 (xA KM g.q)) (F0 m 69 ls []) := by
  have hx := C.1
  have hb := C.2.1
  intro x2 x4 x5 σ H locs ls hW hl h
  unfold f_X12_isSpelling_69 at h
  refine lv_iload hx hb dX12_isSpelling_69 (lv_at hl 4 rfl) ?_
  refine lv_iconst (v := 2) hx hb dX12_isSpelling_71 rfl ?_
  refine lv_icmp_ne (tgt := 103) hx hb dX12_isSpelling_72 (by decide) (fun c12 => ?_) (fun c12 => ?_)
  · have h := xif c12 h
    exact w_X12_isSpelling_103 r1 rn1 hr1 N C x2 x4 x5 _ _ _ _ hW (lv_sub hl [0, 1, 2, 3, 4] rfl) h
  · have h := xit c12 h
    refine lv_aload_n hx hb dX12_isSpelling_75 rfl (lv_at hl 0 rfl) ?_
    refine lv_aload_n hx hb dX12_isSpelling_76 rfl (lv_at hl 1 rfl) ?_
    refine lv_iload_n hx hb dX12_isSpelling_77 rfl (lv_at hl 2 rfl) ?_
    obtain ⟨g13, h⟩ := xgd h
    refine xa_i C hW hr1 g13 (x := σ.1 r1 x2.toNatClampNeg) rfl dX12_isSpelling_78 ?_
    refine lv_iload hx hb dX12_isSpelling_79 (lv_at hl 3 rfl) ?_
    obtain ⟨r14_, e14, h⟩ := xbo h
    refine xc_V (As := [.int (σ.1 r1 x2.toNatClampNeg), .int x4]) (rest := []) C hW (m_X12_isIdea (σ.1 r1 x2.toNatClampNeg) x4 _ e14) mf_X12_isIdea mv_X12_isIdea ml_X12_420 ⟨rfl, rfl⟩ ⟨Nat.le_of_ble_eq_true rfl, Nat.le_of_ble_eq_true rfl⟩ KM_0 rfl hl.1 rfl rfl (Nat.le_of_ble_eq_true rfl) dX12_isSpelling_81 (fun H locs hW => W.eq (g2 := F0 m 84 ls [.int r14_]) rfl ?_)
    refine lv_if_eq (tgt := 103) hx hb dX12_isSpelling_84 (by decide) (fun c15 => ?_) (fun c15 => ?_)
    · have h := xit c15 h
      exact w_X12_isSpelling_103 r1 rn1 hr1 N C x2 x4 x5 _ _ _ _ hW (lv_sub hl [0, 1, 2, 3, 4] rfl) h
    · have h := xif c15 h
      refine lv_aload_n hx hb dX12_isSpelling_87 rfl (lv_at hl 0 rfl) ?_
      refine lv_aload_n hx hb dX12_isSpelling_88 rfl (lv_at hl 1 rfl) ?_
      refine lv_iload_n hx hb dX12_isSpelling_89 rfl (lv_at hl 2 rfl) ?_
      refine lv_iconst (v := 1) hx hb dX12_isSpelling_90 rfl ?_
      refine lv_iadd hx hb dX12_isSpelling_91 ?_
      obtain ⟨g16, h⟩ := xgd h
      refine xa_i C hW hr1 g16 (x := σ.1 r1 (x2 + 1).toNatClampNeg) rfl dX12_isSpelling_92 ?_
      refine lv_iload hx hb dX12_isSpelling_93 (lv_at hl 3 rfl) ?_
      obtain ⟨r17_, e17, h⟩ := xbo h
      refine xc_V (As := [.int (σ.1 r1 (x2 + 1).toNatClampNeg), .int x4]) (rest := []) C hW (m_X12_isTail N (σ.1 r1 (x2 + 1).toNatClampNeg) x4 _ e17) mf_X12_isTail mv_X12_isTail ml_X12_423 ⟨rfl, rfl⟩ ⟨Nat.le_of_ble_eq_true rfl, Nat.le_of_ble_eq_true rfl⟩ KM_0 rfl hl.1 rfl rfl (Nat.le_of_ble_eq_true rfl) dX12_isSpelling_95 (fun H locs hW => W.eq (g2 := F0 m 98 ls [.int r17_]) rfl ?_)
      refine lv_if_eq (tgt := 103) hx hb dX12_isSpelling_98 (by decide) (fun c18 => ?_) (fun c18 => ?_)
      · have h := xit c18 h
        exact w_X12_isSpelling_103 r1 rn1 hr1 N C x2 x4 x5 _ _ _ _ hW (lv_sub hl [0, 1, 2, 3, 4] rfl) h
      · have h := xif c18 h
        refine lv_iconst (v := 1) hx hb dX12_isSpelling_101 rfl ?_
        cases h
        exact xr_z C hW (by decide) dX12_isSpelling_102
set_option maxRecDepth 4000 in
theorem w_X12_isSpelling_51 (r1 rn1 : Nat) (hr1 : KM[r1]? = some (.inr (0, rn1))) (N : Nat) {r : Int32} {σ' : St} (C : xC KM g RX12 cX12_isSpelling 7 (some .boolean) p s m args meth c) : ∀ (x2 : Int32) (x4 : Int32) (x5 : Int32) (σ : St) (H : Heap) (locs : List Loc) (ls : Array Slot), xW KM g s σ H locs → lv_has ls 7 [(0, .ref (g.q 0)), (1, .ref (g.q r1)), (2, .int x2), (4, .int x4), (5, .int x5)] → f_X12_isSpelling_51 r1 rn1 N x2 x4 x5 σ = some (r, σ') → W p l e rm_X12_isSpelling s m args below meth c H locs 0 0 (MQ below (xPost KM g (some (.int r)) σ') args s 0 0 (xA KM g.q)) (F0 m 51 ls []) := by
  have hx := C.1
  have hb := C.2.1
  intro x2 x4 x5 σ H locs ls hW hl h
  unfold f_X12_isSpelling_51 at h
  refine lv_iload hx hb dX12_isSpelling_51 (lv_at hl 4 rfl) ?_
  refine lv_iconst (v := 1) hx hb dX12_isSpelling_53 rfl ?_
  refine lv_icmp_ne (tgt := 69) hx hb dX12_isSpelling_54 (by decide) (fun c8 => ?_) (fun c8 => ?_)
  · have h := xif c8 h
    exact w_X12_isSpelling_69 r1 rn1 hr1 N C x2 x4 x5 _ _ _ _ hW (lv_sub hl [0, 1, 2, 3, 4] rfl) h
  · have h := xit c8 h
    refine lv_aload_n hx hb dX12_isSpelling_57 rfl (lv_at hl 0 rfl) ?_
    refine lv_aload_n hx hb dX12_isSpelling_58 rfl (lv_at hl 1 rfl) ?_
    refine lv_iload_n hx hb dX12_isSpelling_59 rfl (lv_at hl 2 rfl) ?_
    obtain ⟨g9, h⟩ := xgd h
    refine xa_i C hW hr1 g9 (x := σ.1 r1 x2.toNatClampNeg) rfl dX12_isSpelling_60 ?_
    refine lv_iload hx hb dX12_isSpelling_61 (lv_at hl 3 rfl) ?_
    obtain ⟨r10_, e10, h⟩ := xbo h
    refine xc_V (As := [.int (σ.1 r1 x2.toNatClampNeg), .int x4]) (rest := []) C hW (m_X12_isIdea (σ.1 r1 x2.toNatClampNeg) x4 _ e10) mf_X12_isIdea mv_X12_isIdea ml_X12_420 ⟨rfl, rfl⟩ ⟨Nat.le_of_ble_eq_true rfl, Nat.le_of_ble_eq_true rfl⟩ KM_0 rfl hl.1 rfl rfl (Nat.le_of_ble_eq_true rfl) dX12_isSpelling_63 (fun H locs hW => W.eq (g2 := F0 m 66 ls [.int r10_]) rfl ?_)
    refine lv_if_ne (tgt := 101) hx hb dX12_isSpelling_66 (by decide) (fun c11 => ?_) (fun c11 => ?_)
    · have h := xif c11 h
      refine lv_iconst (v := 1) hx hb dX12_isSpelling_101 rfl ?_
      cases h
      exact xr_z C hW (by decide) dX12_isSpelling_102
    · have h := xit c11 h
      exact w_X12_isSpelling_69 r1 rn1 hr1 N C x2 x4 x5 _ _ _ _ hW (lv_sub hl [0, 1, 2, 3, 4] rfl) h
set_option maxRecDepth 4000 in
theorem m_X12_isSpelling (r1 rn1 : Nat) (hr1 : KM[r1]? = some (.inr (0, rn1))) (N : Nat) (x2 : Int32) (x3 : Int32) (x4 : Int32) (σ : St) {r : Int32} {σ' : St} (h : f_X12_isSpelling r1 rn1 N x2 x3 x4 σ = some (r, σ')) : xM l KM g yX12_isSpelling cX12_isSpelling 7 (some .boolean) rm_X12_isSpelling [.ref (g.q 0), .ref (g.q r1), .int x2, .int x3, .int x4] σ (some (.int r)) σ' := by
  refine xmet pn_X12 rfl (Nat.le_of_ble_eq_true rfl) (lv := [(0, .ref (g.q 0)), (1, .ref (g.q r1)), (2, .int x2), (3, .int x3), (4, .int x4)]) rfl (fun p e s m args below meth c ls C hW hl => ?_)
  have hx := C.1
  have hb := C.2.1
  unfold f_X12_isSpelling at h
  refine lv_iload_n hx hb dX12_isSpelling_0 rfl (lv_at hl 3 rfl) ?_
  refine lv_iload_n hx hb dX12_isSpelling_1 rfl (lv_at hl 2 rfl) ?_
  refine lv_isub hx hb dX12_isSpelling_2 ?_
  refine lv_istore (lv' := [(5, .int (x3 - x2)), (0, .ref (g.q 0)), (1, .ref (g.q r1)), (2, .int x2), (3, .int x3), (4, .int x4)]) hx hb dX12_isSpelling_3 hl (Nat.le_of_ble_eq_true rfl) rfl (fun ls hl => ?_)
  refine lv_iload hx hb dX12_isSpelling_5 (lv_at hl 0 rfl) ?_
  refine lv_bipush (v := 12) hx hb dX12_isSpelling_7 rfl ?_
  refine lv_icmp_le (tgt := 14) hx hb dX12_isSpelling_9 (by decide) (fun c1 => ?_) (fun c1 => ?_)
  · have h := xit c1 h
    refine lv_aload_n hx hb dX12_isSpelling_14 rfl (lv_at hl 1 rfl) ?_
    refine xg_r C hW fg_12_112 KM_0 rfl dX12_isSpelling_15 ?_
    refine lv_iload hx hb dX12_isSpelling_18 (lv_at hl 5 rfl) ?_
    obtain ⟨g2, h⟩ := xgd h
    refine xa_l C hW KM_33 g2 (x := σ.2 33 x4.toNatClampNeg) rfl dX12_isSpelling_20 ?_
    refine lv_lconst (v := 0) hx hb dX12_isSpelling_21 rfl ?_
    refine W.lcmp hx hb dX12_isSpelling_22 ?_
    refine lv_if_eq (tgt := 51) hx hb dX12_isSpelling_23 (by decide) (fun c3 => ?_) (fun c3 => ?_)
    · have h := xit c3 h
      exact w_X12_isSpelling_51 r1 rn1 hr1 N C x2 x4 (x3 - x2) _ _ _ _ hW (lv_sub hl [1, 2, 3, 5, 0] rfl) h
    · have h := xif c3 h
      refine lv_iinc (v := (x3 - x2) + (-1)) (lv' := [(5, .int ((x3 - x2) + (-1))), (0, .ref (g.q 0)), (1, .ref (g.q r1)), (2, .int x2), (3, .int x3), (4, .int x4)]) hx hb dX12_isSpelling_26 hl (k := 0) rfl rfl (Nat.le_of_ble_eq_true rfl) rfl (fun ls hl => ?_)
      refine lv_iload hx hb dX12_isSpelling_29 (lv_at hl 0 rfl) ?_
      refine lv_iconst (v := 1) hx hb dX12_isSpelling_31 rfl ?_
      refine lv_icmp_lt (tgt := 49) hx hb dX12_isSpelling_32 (by decide) (fun c4 => ?_) (fun c4 => ?_)
      · have h := xit c4 h
        refine lv_iconst (v := 0) hx hb dX12_isSpelling_49 rfl ?_
        cases h
        exact xr_z C hW (by decide) dX12_isSpelling_50
      · have h := xif c4 h
        refine lv_aload_n hx hb dX12_isSpelling_35 rfl (lv_at hl 1 rfl) ?_
        refine lv_aload_n hx hb dX12_isSpelling_36 rfl (lv_at hl 2 rfl) ?_
        refine lv_iload_n hx hb dX12_isSpelling_37 rfl (lv_at hl 4 rfl) ?_
        refine lv_iconst (v := 1) hx hb dX12_isSpelling_38 rfl ?_
        refine lv_isub hx hb dX12_isSpelling_39 ?_
        obtain ⟨g5, h⟩ := xgd h
        refine xa_i C hW hr1 g5 (x := σ.1 r1 (x3 - 1).toNatClampNeg) rfl dX12_isSpelling_40 ?_
        refine lv_iload hx hb dX12_isSpelling_41 (lv_at hl 5 rfl) ?_
        obtain ⟨r6_, e6, h⟩ := xbo h
        refine xc_V (As := [.int (σ.1 r1 (x3 - 1).toNatClampNeg), .int x4]) (rest := []) C hW (m_X12_isKind (σ.1 r1 (x3 - 1).toNatClampNeg) x4 _ e6) mf_X12_isKind mv_X12_isKind ml_X12_417 ⟨rfl, rfl⟩ ⟨Nat.le_of_ble_eq_true rfl, Nat.le_of_ble_eq_true rfl⟩ KM_0 rfl hl.1 rfl rfl (Nat.le_of_ble_eq_true rfl) dX12_isSpelling_43 (fun H locs hW => W.eq (g2 := F0 m 46 ls [.int r6_]) rfl ?_)
        refine lv_if_ne (tgt := 51) hx hb dX12_isSpelling_46 (by decide) (fun c7 => ?_) (fun c7 => ?_)
        · have h := xif c7 h
          exact w_X12_isSpelling_51 r1 rn1 hr1 N C x2 x4 ((x3 - x2) + (-1)) _ _ _ _ hW (lv_sub hl [1, 2, 3, 5, 0] rfl) h
        · have h := xit c7 h
          refine lv_iconst (v := 0) hx hb dX12_isSpelling_49 rfl ?_
          cases h
          exact xr_z C hW (by decide) dX12_isSpelling_50
  · have h := xif c1 h
    refine lv_iconst (v := 0) hx hb dX12_isSpelling_12 rfl ?_
    cases h
    exact xr_z C hW (by decide) dX12_isSpelling_13
end
theorem dX12_makeLeft_0 : decode cX12_makeLeft 0 = .ok (.aload_n 0, 1) := by decide +kernel
theorem dX12_makeLeft_1 : decode cX12_makeLeft 1 = .ok (.getfield 106, 3) := by decide +kernel
theorem dX12_makeLeft_4 : decode cX12_makeLeft 4 = .ok (.iload_n 1, 1) := by decide +kernel
theorem dX12_makeLeft_5 : decode cX12_makeLeft 5 = .ok (.iaload, 1) := by decide +kernel
theorem dX12_makeLeft_6 : decode cX12_makeLeft 6 = .ok (.istore_n 2, 1) := by decide +kernel
theorem dX12_makeLeft_7 : decode cX12_makeLeft 7 = .ok (.iload_n 2, 1) := by decide +kernel
theorem dX12_makeLeft_8 : decode cX12_makeLeft 8 = .ok (.ifCond .lt 115, 3) := by decide +kernel
theorem dX12_makeLeft_11 : decode cX12_makeLeft 11 = .ok (.aload_n 0, 1) := by decide +kernel
theorem dX12_makeLeft_12 : decode cX12_makeLeft 12 = .ok (.getfield 127, 3) := by decide +kernel
theorem dX12_makeLeft_15 : decode cX12_makeLeft 15 = .ok (.iload_n 2, 1) := by decide +kernel
theorem dX12_makeLeft_16 : decode cX12_makeLeft 16 = .ok (.iload_n 2, 1) := by decide +kernel
theorem dX12_makeLeft_17 : decode cX12_makeLeft 17 = .ok (.aload_n 0, 1) := by decide +kernel
theorem dX12_makeLeft_18 : decode cX12_makeLeft 18 = .ok (.getfield 106, 3) := by decide +kernel
theorem dX12_makeLeft_21 : decode cX12_makeLeft 21 = .ok (.iload_n 1, 1) := by decide +kernel
theorem dX12_makeLeft_22 : decode cX12_makeLeft 22 = .ok (.iaload, 1) := by decide +kernel
theorem dX12_makeLeft_23 : decode cX12_makeLeft 23 = .ok (.if_icmp .ne 7, 3) := by decide +kernel
theorem dX12_makeLeft_26 : decode cX12_makeLeft 26 = .ok (.iconst 0, 1) := by decide +kernel
theorem dX12_makeLeft_27 : decode cX12_makeLeft 27 = .ok (.goto 6, 3) := by decide +kernel
theorem dX12_makeLeft_30 : decode cX12_makeLeft 30 = .ok (.ldc_w 435, 3) := by decide +kernel
theorem dX12_makeLeft_33 : decode cX12_makeLeft 33 = .ok (.iastore, 1) := by decide +kernel
theorem dX12_makeLeft_34 : decode cX12_makeLeft 34 = .ok (.iconst 0, 1) := by decide +kernel
theorem dX12_makeLeft_35 : decode cX12_makeLeft 35 = .ok (.istore_n 3, 1) := by decide +kernel
theorem dX12_makeLeft_36 : decode cX12_makeLeft 36 = .ok (.iload_n 3, 1) := by decide +kernel
theorem dX12_makeLeft_37 : decode cX12_makeLeft 37 = .ok (.aload_n 0, 1) := by decide +kernel
theorem dX12_makeLeft_38 : decode cX12_makeLeft 38 = .ok (.getfield 21, 3) := by decide +kernel
theorem dX12_makeLeft_41 : decode cX12_makeLeft 41 = .ok (.iconst 0, 1) := by decide +kernel
theorem dX12_makeLeft_42 : decode cX12_makeLeft 42 = .ok (.iaload, 1) := by decide +kernel
theorem dX12_makeLeft_43 : decode cX12_makeLeft 43 = .ok (.if_icmp .ge 74, 3) := by decide +kernel
theorem dX12_makeLeft_46 : decode cX12_makeLeft 46 = .ok (.iload_n 2, 1) := by decide +kernel
theorem dX12_makeLeft_47 : decode cX12_makeLeft 47 = .ok (.aload_n 0, 1) := by decide +kernel
theorem dX12_makeLeft_48 : decode cX12_makeLeft 48 = .ok (.getfield 106, 3) := by decide +kernel
theorem dX12_makeLeft_51 : decode cX12_makeLeft 51 = .ok (.iload_n 1, 1) := by decide +kernel
theorem dX12_makeLeft_52 : decode cX12_makeLeft 52 = .ok (.iaload, 1) := by decide +kernel
theorem dX12_makeLeft_53 : decode cX12_makeLeft 53 = .ok (.if_icmp .ge 58, 3) := by decide +kernel
theorem dX12_makeLeft_56 : decode cX12_makeLeft 56 = .ok (.aload_n 0, 1) := by decide +kernel
theorem dX12_makeLeft_57 : decode cX12_makeLeft 57 = .ok (.iload_n 3, 1) := by decide +kernel
theorem dX12_makeLeft_58 : decode cX12_makeLeft 58 = .ok (.iload_n 1, 1) := by decide +kernel
theorem dX12_makeLeft_59 : decode cX12_makeLeft 59 = .ok (.iload_n 2, 1) := by decide +kernel
theorem dX12_makeLeft_60 : decode cX12_makeLeft 60 = .ok (.invokevirtual 414, 3) := by decide +kernel
theorem dX12_makeLeft_63 : decode cX12_makeLeft 63 = .ok (.ifCond .eq 48, 3) := by decide +kernel
theorem dX12_makeLeft_66 : decode cX12_makeLeft 66 = .ok (.iconst 1, 1) := by decide +kernel
theorem dX12_makeLeft_67 : decode cX12_makeLeft 67 = .ok (.aload_n 0, 1) := by decide +kernel
theorem dX12_makeLeft_68 : decode cX12_makeLeft 68 = .ok (.getfield 127, 3) := by decide +kernel
theorem dX12_makeLeft_71 : decode cX12_makeLeft 71 = .ok (.iload_n 2, 1) := by decide +kernel
theorem dX12_makeLeft_72 : decode cX12_makeLeft 72 = .ok (.aload_n 0, 1) := by decide +kernel
theorem dX12_makeLeft_73 : decode cX12_makeLeft 73 = .ok (.getfield 118, 3) := by decide +kernel
theorem dX12_makeLeft_76 : decode cX12_makeLeft 76 = .ok (.iload_n 3, 1) := by decide +kernel
theorem dX12_makeLeft_77 : decode cX12_makeLeft 77 = .ok (.iaload, 1) := by decide +kernel
theorem dX12_makeLeft_78 : decode cX12_makeLeft 78 = .ok (.iadd, 1) := by decide +kernel
theorem dX12_makeLeft_79 : decode cX12_makeLeft 79 = .ok (.iaload, 1) := by decide +kernel
theorem dX12_makeLeft_80 : decode cX12_makeLeft 80 = .ok (.iadd, 1) := by decide +kernel
theorem dX12_makeLeft_81 : decode cX12_makeLeft 81 = .ok (.aload_n 0, 1) := by decide +kernel
theorem dX12_makeLeft_82 : decode cX12_makeLeft 82 = .ok (.getfield 127, 3) := by decide +kernel
theorem dX12_makeLeft_85 : decode cX12_makeLeft 85 = .ok (.iload_n 2, 1) := by decide +kernel
theorem dX12_makeLeft_86 : decode cX12_makeLeft 86 = .ok (.iaload, 1) := by decide +kernel
theorem dX12_makeLeft_87 : decode cX12_makeLeft 87 = .ok (.if_icmp .ge 24, 3) := by decide +kernel
theorem dX12_makeLeft_90 : decode cX12_makeLeft 90 = .ok (.aload_n 0, 1) := by decide +kernel
theorem dX12_makeLeft_91 : decode cX12_makeLeft 91 = .ok (.getfield 127, 3) := by decide +kernel
theorem dX12_makeLeft_94 : decode cX12_makeLeft 94 = .ok (.iload_n 2, 1) := by decide +kernel
theorem dX12_makeLeft_95 : decode cX12_makeLeft 95 = .ok (.iconst 1, 1) := by decide +kernel
theorem dX12_makeLeft_96 : decode cX12_makeLeft 96 = .ok (.aload_n 0, 1) := by decide +kernel
theorem dX12_makeLeft_97 : decode cX12_makeLeft 97 = .ok (.getfield 127, 3) := by decide +kernel
theorem dX12_makeLeft_100 : decode cX12_makeLeft 100 = .ok (.iload_n 2, 1) := by decide +kernel
theorem dX12_makeLeft_101 : decode cX12_makeLeft 101 = .ok (.aload_n 0, 1) := by decide +kernel
theorem dX12_makeLeft_102 : decode cX12_makeLeft 102 = .ok (.getfield 118, 3) := by decide +kernel
theorem dX12_makeLeft_105 : decode cX12_makeLeft 105 = .ok (.iload_n 3, 1) := by decide +kernel
theorem dX12_makeLeft_106 : decode cX12_makeLeft 106 = .ok (.iaload, 1) := by decide +kernel
theorem dX12_makeLeft_107 : decode cX12_makeLeft 107 = .ok (.iadd, 1) := by decide +kernel
theorem dX12_makeLeft_108 : decode cX12_makeLeft 108 = .ok (.iaload, 1) := by decide +kernel
theorem dX12_makeLeft_109 : decode cX12_makeLeft 109 = .ok (.iadd, 1) := by decide +kernel
theorem dX12_makeLeft_110 : decode cX12_makeLeft 110 = .ok (.iastore, 1) := by decide +kernel
theorem dX12_makeLeft_111 : decode cX12_makeLeft 111 = .ok (.iinc 3 1, 3) := by decide +kernel
theorem dX12_makeLeft_114 : decode cX12_makeLeft 114 = .ok (.goto (-78), 3) := by decide +kernel
theorem dX12_makeLeft_117 : decode cX12_makeLeft 117 = .ok (.iinc 2 (-1), 3) := by decide +kernel
theorem dX12_makeLeft_120 : decode cX12_makeLeft 120 = .ok (.goto (-113), 3) := by decide +kernel
theorem dX12_makeLeft_123 : decode cX12_makeLeft 123 = .ok (.return_, 1) := by decide +kernel
abbrev rm_X12_makeLeft : Room := { frames := 1, cells := 0, slots := 0, locals := 24 }
def f_X12_makeLeft_36 (N : Nat) (k7 : Int32 → Int32 → St → Option St) : Nat → Int32 → Int32 → Int32 → St → Option St
  | 0, _, _, _, _ => none
  | n + 1, x1, x2, x3, σ => grd (ib 0 2) ((if (σ.1 3 0) ≤ x3 then k7 x1 (x2 + (-1)) σ else grd (ib x1 40) ((if (σ.1 31 x1.toNatClampNeg) ≤ x2 then f_X12_makeLeft_36 N k7 n x1 x2 (x3 + 1) σ else bo (f_X12_isAt N x3 x1 x2 σ) (fun r10_ => (if r10_ = 0 then f_X12_makeLeft_36 N k7 n x1 x2 (x3 + 1) σ else grd (ib x3 40) (grd (ib (x2 + (σ.1 35 x3.toNatClampNeg)) 9) (grd (ib x2 9) ((if (σ.1 38 x2.toNatClampNeg) ≤ (1 + (σ.1 38 (x2 + (σ.1 35 x3.toNatClampNeg)).toNatClampNeg)) then f_X12_makeLeft_36 N k7 n x1 x2 (x3 + 1) σ else grd (ib x3 40) (grd (ib (x2 + (σ.1 35 x3.toNatClampNeg)) 9) (grd (ib x2 9) (f_X12_makeLeft_36 N k7 n x1 x2 (x3 + 1) (si σ 38 x2.toNatClampNeg (1 + (σ.1 38 (x2 + (σ.1 35 x3.toNatClampNeg)).toNatClampNeg))))))))))))))))
def f_X12_makeLeft_33 (N : Nat) (k7 : Int32 → Int32 → St → Option St) (x1 : Int32) (x2 : Int32) (t1 : Int32) (t2 : Int32) (σ : St) : Option St := grd (ib t1 9) (f_X12_makeLeft_36 N k7 N x1 x2 0 (si σ 38 t1.toNatClampNeg t2))
def f_X12_makeLeft_7 (N : Nat) : Nat → Int32 → Int32 → St → Option St
  | 0, _, _, _ => none
  | n + 1, x1, x2, σ => (if x2 < 0 then some σ else grd (ib x1 40) ((if x2 = (σ.1 31 x1.toNatClampNeg) then f_X12_makeLeft_33 N (f_X12_makeLeft_7 N n) x1 x2 x2 0 σ else f_X12_makeLeft_33 N (f_X12_makeLeft_7 N n) x1 x2 x2 1000000000 σ)))
def f_X12_makeLeft (N : Nat) (x1 : Int32) (σ : St) : Option St := grd (ib x1 40) (f_X12_makeLeft_7 N N x1 (σ.1 31 x1.toNatClampNeg) σ)
section
variable {p : Program} {l : Launch} {e : Env} {s : State} {m : MethodId} {args : Array Value} {below : List Frame} {meth : Method} {c : Code} {g : XG}
set_option maxRecDepth 4000 in
theorem w_X12_makeLeft_36 (N : Nat) (k7 : Int32 → Int32 → St → Option St) {σ' : St} (C : xC KM g RX12 cX12_makeLeft 4 none p s m args meth c) (hk7 : ∀ (x1 : Int32) (x2 : Int32) (σ : St) (H : Heap) (locs : List Loc) (ls : Array Slot), xW KM g s σ H locs → lv_has ls 4 [(0, .ref (g.q 0)), (1, .int x1), (2, .int x2)] → k7 x1 x2 σ = some σ' → W p l e rm_X12_makeLeft s m args below meth c H locs 0 0 (MQ below (xPost KM g none σ') args s 0 0 (xA KM g.q)) (F0 m 7 ls [])) : ∀ (n : Nat), ∀ (x1 : Int32) (x2 : Int32) (x3 : Int32) (σ : St) (H : Heap) (locs : List Loc) (ls : Array Slot), xW KM g s σ H locs → lv_has ls 4 [(0, .ref (g.q 0)), (1, .int x1), (2, .int x2), (3, .int x3)] → f_X12_makeLeft_36 N k7 n x1 x2 x3 σ = some σ' → W p l e rm_X12_makeLeft s m args below meth c H locs 0 0 (MQ below (xPost KM g none σ') args s 0 0 (xA KM g.q)) (F0 m 36 ls []) := by
  have hx := C.1
  have hb := C.2.1
  intro n
  induction n with
  | zero => intro x1 x2 x3 σ H locs ls hW hl h; rw [f_X12_makeLeft_36] at h; cases h
  | succ n ih =>
    intro x1 x2 x3 σ H locs ls hW hl h
    rw [f_X12_makeLeft_36] at h
    refine lv_iload_n hx hb dX12_makeLeft_36 rfl (lv_at hl 3 rfl) ?_
    refine lv_aload_n hx hb dX12_makeLeft_37 rfl (lv_at hl 0 rfl) ?_
    refine xg_r C hW fg_12_21 KM_0 rfl dX12_makeLeft_38 ?_
    refine lv_iconst (v := 0) hx hb dX12_makeLeft_41 rfl ?_
    obtain ⟨g6, h⟩ := xgd h
    refine xa_i C hW KM_3 g6 (x := σ.1 3 0) rfl dX12_makeLeft_42 ?_
    refine lv_icmp_ge (tgt := 117) hx hb dX12_makeLeft_43 (by decide) (fun c7 => ?_) (fun c7 => ?_)
    · have h := xit c7 h
      refine lv_iinc (v := x2 + (-1)) (lv' := [(2, .int (x2 + (-1))), (0, .ref (g.q 0)), (1, .int x1), (3, .int x3)]) hx hb dX12_makeLeft_117 hl (k := 2) rfl rfl (Nat.le_of_ble_eq_true rfl) rfl (fun ls hl => ?_)
      refine lv_goto (tgt := 7) hx hb dX12_makeLeft_120 (by decide) ?_
      exact hk7 x1 (x2 + (-1)) _ _ _ _ hW (lv_sub hl [1, 2, 0] rfl) h
    · have h := xif c7 h
      refine lv_iload_n hx hb dX12_makeLeft_46 rfl (lv_at hl 2 rfl) ?_
      refine lv_aload_n hx hb dX12_makeLeft_47 rfl (lv_at hl 0 rfl) ?_
      refine xg_r C hW fg_12_106 KM_0 rfl dX12_makeLeft_48 ?_
      refine lv_iload_n hx hb dX12_makeLeft_51 rfl (lv_at hl 1 rfl) ?_
      obtain ⟨g8, h⟩ := xgd h
      refine xa_i C hW KM_31 g8 (x := σ.1 31 x1.toNatClampNeg) rfl dX12_makeLeft_52 ?_
      refine lv_icmp_ge (tgt := 111) hx hb dX12_makeLeft_53 (by decide) (fun c9 => ?_) (fun c9 => ?_)
      · have h := xit c9 h
        refine lv_iinc (v := x3 + 1) (lv' := [(3, .int (x3 + 1)), (0, .ref (g.q 0)), (1, .int x1), (2, .int x2)]) hx hb dX12_makeLeft_111 hl (k := 3) rfl rfl (Nat.le_of_ble_eq_true rfl) rfl (fun ls hl => ?_)
        refine lv_goto (tgt := 36) hx hb dX12_makeLeft_114 (by decide) ?_
        exact ih x1 x2 (x3 + 1) _ _ _ _ hW (lv_sub hl [1, 2, 3, 0] rfl) h
      · have h := xif c9 h
        refine lv_aload_n hx hb dX12_makeLeft_56 rfl (lv_at hl 0 rfl) ?_
        refine lv_iload_n hx hb dX12_makeLeft_57 rfl (lv_at hl 3 rfl) ?_
        refine lv_iload_n hx hb dX12_makeLeft_58 rfl (lv_at hl 1 rfl) ?_
        refine lv_iload_n hx hb dX12_makeLeft_59 rfl (lv_at hl 2 rfl) ?_
        obtain ⟨r10_, e10, h⟩ := xbo h
        refine xc_V (As := [.int x3, .int x1, .int x2]) (rest := []) C hW (m_X12_isAt N x3 x1 x2 _ e10) mf_X12_isAt mv_X12_isAt ml_X12_414 ⟨rfl, rfl⟩ ⟨Nat.le_of_ble_eq_true rfl, Nat.le_of_ble_eq_true rfl⟩ KM_0 rfl hl.1 rfl rfl (Nat.le_of_ble_eq_true rfl) dX12_makeLeft_60 (fun H locs hW => W.eq (g2 := F0 m 63 ls [.int r10_]) rfl ?_)
        refine lv_if_eq (tgt := 111) hx hb dX12_makeLeft_63 (by decide) (fun c11 => ?_) (fun c11 => ?_)
        · have h := xit c11 h
          refine lv_iinc (v := x3 + 1) (lv' := [(3, .int (x3 + 1)), (0, .ref (g.q 0)), (1, .int x1), (2, .int x2)]) hx hb dX12_makeLeft_111 hl (k := 3) rfl rfl (Nat.le_of_ble_eq_true rfl) rfl (fun ls hl => ?_)
          refine lv_goto (tgt := 36) hx hb dX12_makeLeft_114 (by decide) ?_
          exact ih x1 x2 (x3 + 1) _ _ _ _ hW (lv_sub hl [1, 2, 3, 0] rfl) h
        · have h := xif c11 h
          refine lv_iconst (v := 1) hx hb dX12_makeLeft_66 rfl ?_
          refine lv_aload_n hx hb dX12_makeLeft_67 rfl (lv_at hl 0 rfl) ?_
          refine xg_r C hW fg_12_127 KM_0 rfl dX12_makeLeft_68 ?_
          refine lv_iload_n hx hb dX12_makeLeft_71 rfl (lv_at hl 2 rfl) ?_
          refine lv_aload_n hx hb dX12_makeLeft_72 rfl (lv_at hl 0 rfl) ?_
          refine xg_r C hW fg_12_118 KM_0 rfl dX12_makeLeft_73 ?_
          refine lv_iload_n hx hb dX12_makeLeft_76 rfl (lv_at hl 3 rfl) ?_
          obtain ⟨g12, h⟩ := xgd h
          refine xa_i C hW KM_35 g12 (x := σ.1 35 x3.toNatClampNeg) rfl dX12_makeLeft_77 ?_
          refine lv_iadd hx hb dX12_makeLeft_78 ?_
          obtain ⟨g13, h⟩ := xgd h
          refine xa_i C hW KM_38 g13 (x := σ.1 38 (x2 + (σ.1 35 x3.toNatClampNeg)).toNatClampNeg) rfl dX12_makeLeft_79 ?_
          refine lv_iadd hx hb dX12_makeLeft_80 ?_
          refine lv_aload_n hx hb dX12_makeLeft_81 rfl (lv_at hl 0 rfl) ?_
          refine xg_r C hW fg_12_127 KM_0 rfl dX12_makeLeft_82 ?_
          refine lv_iload_n hx hb dX12_makeLeft_85 rfl (lv_at hl 2 rfl) ?_
          obtain ⟨g14, h⟩ := xgd h
          refine xa_i C hW KM_38 g14 (x := σ.1 38 x2.toNatClampNeg) rfl dX12_makeLeft_86 ?_
          refine lv_icmp_ge (tgt := 111) hx hb dX12_makeLeft_87 (by decide) (fun c15 => ?_) (fun c15 => ?_)
          · have h := xit c15 h
            refine lv_iinc (v := x3 + 1) (lv' := [(3, .int (x3 + 1)), (0, .ref (g.q 0)), (1, .int x1), (2, .int x2)]) hx hb dX12_makeLeft_111 hl (k := 3) rfl rfl (Nat.le_of_ble_eq_true rfl) rfl (fun ls hl => ?_)
            refine lv_goto (tgt := 36) hx hb dX12_makeLeft_114 (by decide) ?_
            exact ih x1 x2 (x3 + 1) _ _ _ _ hW (lv_sub hl [1, 2, 3, 0] rfl) h
          · have h := xif c15 h
            refine lv_aload_n hx hb dX12_makeLeft_90 rfl (lv_at hl 0 rfl) ?_
            refine xg_r C hW fg_12_127 KM_0 rfl dX12_makeLeft_91 ?_
            refine lv_iload_n hx hb dX12_makeLeft_94 rfl (lv_at hl 2 rfl) ?_
            refine lv_iconst (v := 1) hx hb dX12_makeLeft_95 rfl ?_
            refine lv_aload_n hx hb dX12_makeLeft_96 rfl (lv_at hl 0 rfl) ?_
            refine xg_r C hW fg_12_127 KM_0 rfl dX12_makeLeft_97 ?_
            refine lv_iload_n hx hb dX12_makeLeft_100 rfl (lv_at hl 2 rfl) ?_
            refine lv_aload_n hx hb dX12_makeLeft_101 rfl (lv_at hl 0 rfl) ?_
            refine xg_r C hW fg_12_118 KM_0 rfl dX12_makeLeft_102 ?_
            refine lv_iload_n hx hb dX12_makeLeft_105 rfl (lv_at hl 3 rfl) ?_
            obtain ⟨g16, h⟩ := xgd h
            refine xa_i C hW KM_35 g16 (x := σ.1 35 x3.toNatClampNeg) rfl dX12_makeLeft_106 ?_
            refine lv_iadd hx hb dX12_makeLeft_107 ?_
            obtain ⟨g17, h⟩ := xgd h
            refine xa_i C hW KM_38 g17 (x := σ.1 38 (x2 + (σ.1 35 x3.toNatClampNeg)).toNatClampNeg) rfl dX12_makeLeft_108 ?_
            refine lv_iadd hx hb dX12_makeLeft_109 ?_
            obtain ⟨g18, h⟩ := xgd h
            refine xs_i C hW KM_38 g18 dX12_makeLeft_110 (fun H locs hW => ?_)
            refine lv_iinc (v := x3 + 1) (lv' := [(3, .int (x3 + 1)), (0, .ref (g.q 0)), (1, .int x1), (2, .int x2)]) hx hb dX12_makeLeft_111 hl (k := 3) rfl rfl (Nat.le_of_ble_eq_true rfl) rfl (fun ls hl => ?_)
            refine lv_goto (tgt := 36) hx hb dX12_makeLeft_114 (by decide) ?_
            exact ih x1 x2 (x3 + 1) _ _ _ _ hW (lv_sub hl [1, 2, 3, 0] rfl) h
set_option maxRecDepth 4000 in
theorem w_X12_makeLeft_33 (N : Nat) (k7 : Int32 → Int32 → St → Option St) {σ' : St} (C : xC KM g RX12 cX12_makeLeft 4 none p s m args meth c) (hk7 : ∀ (x1 : Int32) (x2 : Int32) (σ : St) (H : Heap) (locs : List Loc) (ls : Array Slot), xW KM g s σ H locs → lv_has ls 4 [(0, .ref (g.q 0)), (1, .int x1), (2, .int x2)] → k7 x1 x2 σ = some σ' → W p l e rm_X12_makeLeft s m args below meth c H locs 0 0 (MQ below (xPost KM g none σ') args s 0 0 (xA KM g.q)) (F0 m 7 ls [])) : ∀ (x1 : Int32) (x2 : Int32) (t1 : Int32) (t2 : Int32) (σ : St) (H : Heap) (locs : List Loc) (ls : Array Slot), xW KM g s σ H locs → lv_has ls 4 [(0, .ref (g.q 0)), (1, .int x1), (2, .int x2)] → f_X12_makeLeft_33 N k7 x1 x2 t1 t2 σ = some σ' → W p l e rm_X12_makeLeft s m args below meth c H locs 0 0 (MQ below (xPost KM g none σ') args s 0 0 (xA KM g.q)) (F0 m 33 ls [.int t2, .int t1, .ref (g.q 38)]) := by
  have hx := C.1
  have hb := C.2.1
  intro x1 x2 t1 t2 σ H locs ls hW hl h
  unfold f_X12_makeLeft_33 at h
  obtain ⟨g5, h⟩ := xgd h
  refine xs_i C hW KM_38 g5 dX12_makeLeft_33 (fun H locs hW => ?_)
  refine lv_iconst (v := 0) hx hb dX12_makeLeft_34 rfl ?_
  refine lv_istore_n (lv' := [(3, .int 0), (0, .ref (g.q 0)), (1, .int x1), (2, .int x2)]) hx hb dX12_makeLeft_35 rfl hl (Nat.le_of_ble_eq_true rfl) rfl (fun ls hl => ?_)
  exact w_X12_makeLeft_36 N k7 C hk7 N x1 x2 0 _ _ _ _ hW (lv_sub hl [1, 2, 3, 0] rfl) h
set_option maxRecDepth 4000 in
theorem w_X12_makeLeft_7 (N : Nat) {σ' : St} (C : xC KM g RX12 cX12_makeLeft 4 none p s m args meth c) : ∀ (n : Nat), ∀ (x1 : Int32) (x2 : Int32) (σ : St) (H : Heap) (locs : List Loc) (ls : Array Slot), xW KM g s σ H locs → lv_has ls 4 [(0, .ref (g.q 0)), (1, .int x1), (2, .int x2)] → f_X12_makeLeft_7 N n x1 x2 σ = some σ' → W p l e rm_X12_makeLeft s m args below meth c H locs 0 0 (MQ below (xPost KM g none σ') args s 0 0 (xA KM g.q)) (F0 m 7 ls []) := by
  have hx := C.1
  have hb := C.2.1
  intro n
  induction n with
  | zero => intro x1 x2 σ H locs ls hW hl h; rw [f_X12_makeLeft_7] at h; cases h
  | succ n ih =>
    intro x1 x2 σ H locs ls hW hl h
    rw [f_X12_makeLeft_7] at h
    refine lv_iload_n hx hb dX12_makeLeft_7 rfl (lv_at hl 2 rfl) ?_
    refine lv_if_lt (tgt := 123) hx hb dX12_makeLeft_8 (by decide) (fun c2 => ?_) (fun c2 => ?_)
    · have h := xit c2 h
      cases h
      exact xr_v C hW dX12_makeLeft_123
    · have h := xif c2 h
      refine lv_aload_n hx hb dX12_makeLeft_11 rfl (lv_at hl 0 rfl) ?_
      refine xg_r C hW fg_12_127 KM_0 rfl dX12_makeLeft_12 ?_
      refine lv_iload_n hx hb dX12_makeLeft_15 rfl (lv_at hl 2 rfl) ?_
      refine lv_iload_n hx hb dX12_makeLeft_16 rfl (lv_at hl 2 rfl) ?_
      refine lv_aload_n hx hb dX12_makeLeft_17 rfl (lv_at hl 0 rfl) ?_
      refine xg_r C hW fg_12_106 KM_0 rfl dX12_makeLeft_18 ?_
      refine lv_iload_n hx hb dX12_makeLeft_21 rfl (lv_at hl 1 rfl) ?_
      obtain ⟨g3, h⟩ := xgd h
      refine xa_i C hW KM_31 g3 (x := σ.1 31 x1.toNatClampNeg) rfl dX12_makeLeft_22 ?_
      refine lv_icmp_ne (tgt := 30) hx hb dX12_makeLeft_23 (by decide) (fun c4 => ?_) (fun c4 => ?_)
      · have h := xif c4 h
        refine lv_ldcw (v := 1000000000) hx hb C.ow (C.hts _ kc_X12_435) dX12_makeLeft_30 ?_
        exact w_X12_makeLeft_33 N (f_X12_makeLeft_7 N n) C ih x1 x2 x2 1000000000 _ _ _ _ hW (lv_sub hl [0, 1, 2] rfl) h
      · have h := xit c4 h
        refine lv_iconst (v := 0) hx hb dX12_makeLeft_26 rfl ?_
        refine lv_goto (tgt := 33) hx hb dX12_makeLeft_27 (by decide) ?_
        exact w_X12_makeLeft_33 N (f_X12_makeLeft_7 N n) C ih x1 x2 x2 0 _ _ _ _ hW (lv_sub hl [0, 1, 2] rfl) h
set_option maxRecDepth 4000 in
theorem m_X12_makeLeft (N : Nat) (x1 : Int32) (σ : St) {σ' : St} (h : f_X12_makeLeft N x1 σ = some σ') : xM l KM g yX12_makeLeft cX12_makeLeft 4 none rm_X12_makeLeft [.ref (g.q 0), .int x1] σ none σ' := by
  refine xmet pn_X12 rfl (Nat.le_of_ble_eq_true rfl) (lv := [(0, .ref (g.q 0)), (1, .int x1)]) rfl (fun p e s m args below meth c ls C hW hl => ?_)
  have hx := C.1
  have hb := C.2.1
  unfold f_X12_makeLeft at h
  refine lv_aload_n hx hb dX12_makeLeft_0 rfl (lv_at hl 0 rfl) ?_
  refine xg_r C hW fg_12_106 KM_0 rfl dX12_makeLeft_1 ?_
  refine lv_iload_n hx hb dX12_makeLeft_4 rfl (lv_at hl 1 rfl) ?_
  obtain ⟨g1, h⟩ := xgd h
  refine xa_i C hW KM_31 g1 (x := σ.1 31 x1.toNatClampNeg) rfl dX12_makeLeft_5 ?_
  refine lv_istore_n (lv' := [(2, .int (σ.1 31 x1.toNatClampNeg)), (0, .ref (g.q 0)), (1, .int x1)]) hx hb dX12_makeLeft_6 rfl hl (Nat.le_of_ble_eq_true rfl) rfl (fun ls hl => ?_)
  exact w_X12_makeLeft_7 N C N x1 (σ.1 31 x1.toNatClampNeg) _ _ _ _ hW (lv_sub hl [1, 2, 0] rfl) h
end
theorem dX12_canEnd_0 : decode cX12_canEnd 0 = .ok (.iconst 0, 1) := by decide +kernel
theorem dX12_canEnd_1 : decode cX12_canEnd 1 = .ok (.istore 4, 2) := by decide +kernel
theorem dX12_canEnd_3 : decode cX12_canEnd 3 = .ok (.iload 4, 2) := by decide +kernel
theorem dX12_canEnd_5 : decode cX12_canEnd 5 = .ok (.aload_n 0, 1) := by decide +kernel
theorem dX12_canEnd_6 : decode cX12_canEnd 6 = .ok (.getfield 106, 3) := by decide +kernel
theorem dX12_canEnd_9 : decode cX12_canEnd 9 = .ok (.iload_n 3, 1) := by decide +kernel
theorem dX12_canEnd_10 : decode cX12_canEnd 10 = .ok (.iaload, 1) := by decide +kernel
theorem dX12_canEnd_11 : decode cX12_canEnd 11 = .ok (.if_icmp .gt 58, 3) := by decide +kernel
theorem dX12_canEnd_14 : decode cX12_canEnd 14 = .ok (.aload_n 0, 1) := by decide +kernel
theorem dX12_canEnd_15 : decode cX12_canEnd 15 = .ok (.getfield 124, 3) := by decide +kernel
theorem dX12_canEnd_18 : decode cX12_canEnd 18 = .ok (.bipush 18, 2) := by decide +kernel
theorem dX12_canEnd_20 : decode cX12_canEnd 20 = .ok (.iload_n 1, 1) := by decide +kernel
theorem dX12_canEnd_21 : decode cX12_canEnd 21 = .ok (.imul, 1) := by decide +kernel
theorem dX12_canEnd_22 : decode cX12_canEnd 22 = .ok (.iconst 2, 1) := by decide +kernel
theorem dX12_canEnd_23 : decode cX12_canEnd 23 = .ok (.iload 4, 2) := by decide +kernel
theorem dX12_canEnd_25 : decode cX12_canEnd 25 = .ok (.imul, 1) := by decide +kernel
theorem dX12_canEnd_26 : decode cX12_canEnd 26 = .ok (.iadd, 1) := by decide +kernel
theorem dX12_canEnd_27 : decode cX12_canEnd 27 = .ok (.iaload, 1) := by decide +kernel
theorem dX12_canEnd_28 : decode cX12_canEnd 28 = .ok (.aload_n 0, 1) := by decide +kernel
theorem dX12_canEnd_29 : decode cX12_canEnd 29 = .ok (.getfield 124, 3) := by decide +kernel
theorem dX12_canEnd_32 : decode cX12_canEnd 32 = .ok (.bipush 18, 2) := by decide +kernel
theorem dX12_canEnd_34 : decode cX12_canEnd 34 = .ok (.iload_n 1, 1) := by decide +kernel
theorem dX12_canEnd_35 : decode cX12_canEnd 35 = .ok (.imul, 1) := by decide +kernel
theorem dX12_canEnd_36 : decode cX12_canEnd 36 = .ok (.iconst 2, 1) := by decide +kernel
theorem dX12_canEnd_37 : decode cX12_canEnd 37 = .ok (.iload 4, 2) := by decide +kernel
theorem dX12_canEnd_39 : decode cX12_canEnd 39 = .ok (.imul, 1) := by decide +kernel
theorem dX12_canEnd_40 : decode cX12_canEnd 40 = .ok (.iadd, 1) := by decide +kernel
theorem dX12_canEnd_41 : decode cX12_canEnd 41 = .ok (.iconst 1, 1) := by decide +kernel
theorem dX12_canEnd_42 : decode cX12_canEnd 42 = .ok (.iadd, 1) := by decide +kernel
theorem dX12_canEnd_43 : decode cX12_canEnd 43 = .ok (.iaload, 1) := by decide +kernel
theorem dX12_canEnd_44 : decode cX12_canEnd 44 = .ok (.ior, 1) := by decide +kernel
theorem dX12_canEnd_45 : decode cX12_canEnd 45 = .ok (.ifCond .eq 18, 3) := by decide +kernel
theorem dX12_canEnd_48 : decode cX12_canEnd 48 = .ok (.iload_n 1, 1) := by decide +kernel
theorem dX12_canEnd_49 : decode cX12_canEnd 49 = .ok (.aload_n 0, 1) := by decide +kernel
theorem dX12_canEnd_50 : decode cX12_canEnd 50 = .ok (.getfield 127, 3) := by decide +kernel
theorem dX12_canEnd_53 : decode cX12_canEnd 53 = .ok (.iload 4, 2) := by decide +kernel
theorem dX12_canEnd_55 : decode cX12_canEnd 55 = .ok (.iaload, 1) := by decide +kernel
theorem dX12_canEnd_56 : decode cX12_canEnd 56 = .ok (.iadd, 1) := by decide +kernel
theorem dX12_canEnd_57 : decode cX12_canEnd 57 = .ok (.iload_n 2, 1) := by decide +kernel
theorem dX12_canEnd_58 : decode cX12_canEnd 58 = .ok (.if_icmp .gt 5, 3) := by decide +kernel
theorem dX12_canEnd_61 : decode cX12_canEnd 61 = .ok (.iconst 1, 1) := by decide +kernel
theorem dX12_canEnd_62 : decode cX12_canEnd 62 = .ok (.ireturn, 1) := by decide +kernel
theorem dX12_canEnd_63 : decode cX12_canEnd 63 = .ok (.iinc 4 1, 3) := by decide +kernel
theorem dX12_canEnd_66 : decode cX12_canEnd 66 = .ok (.goto (-63), 3) := by decide +kernel
theorem dX12_canEnd_69 : decode cX12_canEnd 69 = .ok (.iconst 0, 1) := by decide +kernel
theorem dX12_canEnd_70 : decode cX12_canEnd 70 = .ok (.ireturn, 1) := by decide +kernel
abbrev rm_X12_canEnd : Room := { frames := 0, cells := 0, slots := 0, locals := 0 }
def f_X12_canEnd_3 (N : Nat) : Nat → Int32 → Int32 → Int32 → Int32 → St → Option Int32
  | 0, _, _, _, _, _ => none
  | n + 1, x1, x2, x3, x4, σ => grd (ib x3 40) ((if (σ.1 31 x3.toNatClampNeg) < x4 then some 0 else grd (ib ((18 * x1) + (2 * x4)) 234) (grd (ib (((18 * x1) + (2 * x4)) + 1) 234) ((if ((σ.1 37 ((18 * x1) + (2 * x4)).toNatClampNeg) ||| (σ.1 37 (((18 * x1) + (2 * x4)) + 1).toNatClampNeg)) = 0 then f_X12_canEnd_3 N n x1 x2 x3 (x4 + 1) σ else grd (ib x4 9) ((if x2 < (x1 + (σ.1 38 x4.toNatClampNeg)) then f_X12_canEnd_3 N n x1 x2 x3 (x4 + 1) σ else some 1)))))))
def f_X12_canEnd (N : Nat) (x1 : Int32) (x2 : Int32) (x3 : Int32) (σ : St) : Option Int32 := f_X12_canEnd_3 N N x1 x2 x3 0 σ
section
variable {p : Program} {l : Launch} {e : Env} {s : State} {m : MethodId} {args : Array Value} {below : List Frame} {meth : Method} {c : Code} {g : XG}
set_option maxRecDepth 4000 in
theorem w_X12_canEnd_3 (N : Nat) (σ : St) {r : Int32} (C : xC KM g RX12 cX12_canEnd 5 (some .boolean) p s m args meth c) : ∀ (n : Nat), ∀ (x1 : Int32) (x2 : Int32) (x3 : Int32) (x4 : Int32) (H : Heap) (locs : List Loc) (ls : Array Slot), xW KM g s σ H locs → lv_has ls 5 [(0, .ref (g.q 0)), (1, .int x1), (2, .int x2), (3, .int x3), (4, .int x4)] → f_X12_canEnd_3 N n x1 x2 x3 x4 σ = some r → W p l e rm_X12_canEnd s m args below meth c H locs 0 0 (MQ below (xPost KM g (some (.int r)) σ) args s 0 0 (xA KM g.q)) (F0 m 3 ls []) := by
  have hx := C.1
  have hb := C.2.1
  intro n
  induction n with
  | zero => intro x1 x2 x3 x4 H locs ls hW hl h; rw [f_X12_canEnd_3] at h; cases h
  | succ n ih =>
    intro x1 x2 x3 x4 H locs ls hW hl h
    rw [f_X12_canEnd_3] at h
    refine lv_iload hx hb dX12_canEnd_3 (lv_at hl 4 rfl) ?_
    refine lv_aload_n hx hb dX12_canEnd_5 rfl (lv_at hl 0 rfl) ?_
    refine xg_r C hW fg_12_106 KM_0 rfl dX12_canEnd_6 ?_
    refine lv_iload_n hx hb dX12_canEnd_9 rfl (lv_at hl 3 rfl) ?_
    obtain ⟨g1, h⟩ := xgd h
    refine xa_i C hW KM_31 g1 (x := σ.1 31 x3.toNatClampNeg) rfl dX12_canEnd_10 ?_
    refine lv_icmp_gt (tgt := 69) hx hb dX12_canEnd_11 (by decide) (fun c2 => ?_) (fun c2 => ?_)
    · have h := xit c2 h
      refine lv_iconst (v := 0) hx hb dX12_canEnd_69 rfl ?_
      cases h
      exact xr_z C hW (by decide) dX12_canEnd_70
    · have h := xif c2 h
      refine lv_aload_n hx hb dX12_canEnd_14 rfl (lv_at hl 0 rfl) ?_
      refine xg_r C hW fg_12_124 KM_0 rfl dX12_canEnd_15 ?_
      refine lv_bipush (v := 18) hx hb dX12_canEnd_18 rfl ?_
      refine lv_iload_n hx hb dX12_canEnd_20 rfl (lv_at hl 1 rfl) ?_
      refine lv_imul hx hb dX12_canEnd_21 ?_
      refine lv_iconst (v := 2) hx hb dX12_canEnd_22 rfl ?_
      refine lv_iload hx hb dX12_canEnd_23 (lv_at hl 4 rfl) ?_
      refine lv_imul hx hb dX12_canEnd_25 ?_
      refine lv_iadd hx hb dX12_canEnd_26 ?_
      obtain ⟨g3, h⟩ := xgd h
      refine xa_i C hW KM_37 g3 (x := σ.1 37 ((18 * x1) + (2 * x4)).toNatClampNeg) rfl dX12_canEnd_27 ?_
      refine lv_aload_n hx hb dX12_canEnd_28 rfl (lv_at hl 0 rfl) ?_
      refine xg_r C hW fg_12_124 KM_0 rfl dX12_canEnd_29 ?_
      refine lv_bipush (v := 18) hx hb dX12_canEnd_32 rfl ?_
      refine lv_iload_n hx hb dX12_canEnd_34 rfl (lv_at hl 1 rfl) ?_
      refine lv_imul hx hb dX12_canEnd_35 ?_
      refine lv_iconst (v := 2) hx hb dX12_canEnd_36 rfl ?_
      refine lv_iload hx hb dX12_canEnd_37 (lv_at hl 4 rfl) ?_
      refine lv_imul hx hb dX12_canEnd_39 ?_
      refine lv_iadd hx hb dX12_canEnd_40 ?_
      refine lv_iconst (v := 1) hx hb dX12_canEnd_41 rfl ?_
      refine lv_iadd hx hb dX12_canEnd_42 ?_
      obtain ⟨g4, h⟩ := xgd h
      refine xa_i C hW KM_37 g4 (x := σ.1 37 (((18 * x1) + (2 * x4)) + 1).toNatClampNeg) rfl dX12_canEnd_43 ?_
      refine lv_ior hx hb dX12_canEnd_44 ?_
      refine lv_if_eq (tgt := 63) hx hb dX12_canEnd_45 (by decide) (fun c5 => ?_) (fun c5 => ?_)
      · have h := xit c5 h
        refine lv_iinc (v := x4 + 1) (lv' := [(4, .int (x4 + 1)), (0, .ref (g.q 0)), (1, .int x1), (2, .int x2), (3, .int x3)]) hx hb dX12_canEnd_63 hl (k := 4) rfl rfl (Nat.le_of_ble_eq_true rfl) rfl (fun ls hl => ?_)
        refine lv_goto (tgt := 3) hx hb dX12_canEnd_66 (by decide) ?_
        exact ih x1 x2 x3 (x4 + 1) _ _ _ hW (lv_sub hl [1, 2, 3, 4, 0] rfl) h
      · have h := xif c5 h
        refine lv_iload_n hx hb dX12_canEnd_48 rfl (lv_at hl 1 rfl) ?_
        refine lv_aload_n hx hb dX12_canEnd_49 rfl (lv_at hl 0 rfl) ?_
        refine xg_r C hW fg_12_127 KM_0 rfl dX12_canEnd_50 ?_
        refine lv_iload hx hb dX12_canEnd_53 (lv_at hl 4 rfl) ?_
        obtain ⟨g6, h⟩ := xgd h
        refine xa_i C hW KM_38 g6 (x := σ.1 38 x4.toNatClampNeg) rfl dX12_canEnd_55 ?_
        refine lv_iadd hx hb dX12_canEnd_56 ?_
        refine lv_iload_n hx hb dX12_canEnd_57 rfl (lv_at hl 2 rfl) ?_
        refine lv_icmp_gt (tgt := 63) hx hb dX12_canEnd_58 (by decide) (fun c7 => ?_) (fun c7 => ?_)
        · have h := xit c7 h
          refine lv_iinc (v := x4 + 1) (lv' := [(4, .int (x4 + 1)), (0, .ref (g.q 0)), (1, .int x1), (2, .int x2), (3, .int x3)]) hx hb dX12_canEnd_63 hl (k := 4) rfl rfl (Nat.le_of_ble_eq_true rfl) rfl (fun ls hl => ?_)
          refine lv_goto (tgt := 3) hx hb dX12_canEnd_66 (by decide) ?_
          exact ih x1 x2 x3 (x4 + 1) _ _ _ hW (lv_sub hl [1, 2, 3, 4, 0] rfl) h
        · have h := xif c7 h
          refine lv_iconst (v := 1) hx hb dX12_canEnd_61 rfl ?_
          cases h
          exact xr_z C hW (by decide) dX12_canEnd_62
set_option maxRecDepth 4000 in
theorem m_X12_canEnd (N : Nat) (x1 : Int32) (x2 : Int32) (x3 : Int32) (σ : St) {r : Int32} (h : f_X12_canEnd N x1 x2 x3 σ = some r) : xM l KM g yX12_canEnd cX12_canEnd 5 (some .boolean) rm_X12_canEnd [.ref (g.q 0), .int x1, .int x2, .int x3] σ (some (.int r)) σ := by
  refine xmet pn_X12 rfl (Nat.le_of_ble_eq_true rfl) (lv := [(0, .ref (g.q 0)), (1, .int x1), (2, .int x2), (3, .int x3)]) rfl (fun p e s m args below meth c ls C hW hl => ?_)
  have hx := C.1
  have hb := C.2.1
  unfold f_X12_canEnd at h
  refine lv_iconst (v := 0) hx hb dX12_canEnd_0 rfl ?_
  refine lv_istore (lv' := [(4, .int 0), (0, .ref (g.q 0)), (1, .int x1), (2, .int x2), (3, .int x3)]) hx hb dX12_canEnd_1 hl (Nat.le_of_ble_eq_true rfl) rfl (fun ls hl => ?_)
  exact w_X12_canEnd_3 N σ C N x1 x2 x3 0 _ _ _ hW (lv_sub hl [1, 2, 3, 4, 0] rfl) h
end
theorem dX12_beside_0 : decode cX12_beside 0 = .ok (.iload_n 1, 1) := by decide +kernel
theorem dX12_beside_1 : decode cX12_beside 1 = .ok (.iload_n 2, 1) := by decide +kernel
theorem dX12_beside_2 : decode cX12_beside 2 = .ok (.iadd, 1) := by decide +kernel
theorem dX12_beside_3 : decode cX12_beside 3 = .ok (.aload_n 0, 1) := by decide +kernel
theorem dX12_beside_4 : decode cX12_beside 4 = .ok (.getfield 17, 3) := by decide +kernel
theorem dX12_beside_7 : decode cX12_beside 7 = .ok (.iconst 0, 1) := by decide +kernel
theorem dX12_beside_8 : decode cX12_beside 8 = .ok (.iaload, 1) := by decide +kernel
theorem dX12_beside_9 : decode cX12_beside 9 = .ok (.iadd, 1) := by decide +kernel
theorem dX12_beside_10 : decode cX12_beside 10 = .ok (.ireturn, 1) := by decide +kernel
abbrev rm_X12_beside : Room := { frames := 0, cells := 0, slots := 0, locals := 0 }
def f_X12_beside (x1 : Int32) (x2 : Int32) (σ : St) : Option Int32 := grd (ib 0 8) (some ((x1 + x2) + (σ.1 2 0)))
section
variable {p : Program} {l : Launch} {e : Env} {s : State} {m : MethodId} {args : Array Value} {below : List Frame} {meth : Method} {c : Code} {g : XG}
set_option maxRecDepth 4000 in
theorem m_X12_beside (x1 : Int32) (x2 : Int32) (σ : St) {r : Int32} (h : f_X12_beside x1 x2 σ = some r) : xM l KM g yX12_beside cX12_beside 3 (some .int) rm_X12_beside [.ref (g.q 0), .int x1, .int x2] σ (some (.int r)) σ := by
  refine xmet pn_X12 rfl (Nat.le_of_ble_eq_true rfl) (lv := [(0, .ref (g.q 0)), (1, .int x1), (2, .int x2)]) rfl (fun p e s m args below meth c ls C hW hl => ?_)
  have hx := C.1
  have hb := C.2.1
  unfold f_X12_beside at h
  refine lv_iload_n hx hb dX12_beside_0 rfl (lv_at hl 1 rfl) ?_
  refine lv_iload_n hx hb dX12_beside_1 rfl (lv_at hl 2 rfl) ?_
  refine lv_iadd hx hb dX12_beside_2 ?_
  refine lv_aload_n hx hb dX12_beside_3 rfl (lv_at hl 0 rfl) ?_
  refine xg_r C hW fg_12_17 KM_0 rfl dX12_beside_4 ?_
  refine lv_iconst (v := 0) hx hb dX12_beside_7 rfl ?_
  obtain ⟨g1, h⟩ := xgd h
  refine xa_i C hW KM_2 g1 (x := σ.1 2 0) rfl dX12_beside_8 ?_
  refine lv_iadd hx hb dX12_beside_9 ?_
  cases h
  exact xr_i C hW dX12_beside_10
end
