theorem dX12_block_0 : decode cX12_block 0 = .ok (.iload_n 1, 1) := by decide +kernel
theorem dX12_block_1 : decode cX12_block 1 = .ok (.iconst 0, 1) := by decide +kernel
theorem dX12_block_2 : decode cX12_block 2 = .ok (.aload_n 0, 1) := by decide +kernel
theorem dX12_block_3 : decode cX12_block 3 = .ok (.getfield 326, 3) := by decide +kernel
theorem dX12_block_6 : decode cX12_block 6 = .ok (.iconst 1, 1) := by decide +kernel
theorem dX12_block_7 : decode cX12_block 7 = .ok (.isub, 1) := by decide +kernel
theorem dX12_block_8 : decode cX12_block 8 = .ok (.invokestatic 295, 3) := by decide +kernel
theorem dX12_block_11 : decode cX12_block 11 = .ok (.ifCond .ne 6, 3) := by decide +kernel
theorem dX12_block_14 : decode cX12_block 14 = .ok (.bipush (-9), 2) := by decide +kernel
theorem dX12_block_16 : decode cX12_block 16 = .ok (.ireturn, 1) := by decide +kernel
theorem dX12_block_17 : decode cX12_block 17 = .ok (.iload_n 2, 1) := by decide +kernel
theorem dX12_block_18 : decode cX12_block 18 = .ok (.tableswitch 135 0 6 #[42, 49, 56, 63, 80, 111, 123], 42) := by decide +kernel
theorem dX12_block_60 : decode cX12_block 60 = .ok (.aload_n 0, 1) := by decide +kernel
theorem dX12_block_61 : decode cX12_block 61 = .ok (.getfield 73, 3) := by decide +kernel
theorem dX12_block_64 : decode cX12_block 64 = .ok (.iload_n 1, 1) := by decide +kernel
theorem dX12_block_65 : decode cX12_block 65 = .ok (.iaload, 1) := by decide +kernel
theorem dX12_block_66 : decode cX12_block 66 = .ok (.ireturn, 1) := by decide +kernel
theorem dX12_block_67 : decode cX12_block 67 = .ok (.aload_n 0, 1) := by decide +kernel
theorem dX12_block_68 : decode cX12_block 68 = .ok (.getfield 76, 3) := by decide +kernel
theorem dX12_block_71 : decode cX12_block 71 = .ok (.iload_n 1, 1) := by decide +kernel
theorem dX12_block_72 : decode cX12_block 72 = .ok (.iaload, 1) := by decide +kernel
theorem dX12_block_73 : decode cX12_block 73 = .ok (.ireturn, 1) := by decide +kernel
theorem dX12_block_74 : decode cX12_block 74 = .ok (.aload_n 0, 1) := by decide +kernel
theorem dX12_block_75 : decode cX12_block 75 = .ok (.getfield 79, 3) := by decide +kernel
theorem dX12_block_78 : decode cX12_block 78 = .ok (.iload_n 1, 1) := by decide +kernel
theorem dX12_block_79 : decode cX12_block 79 = .ok (.iaload, 1) := by decide +kernel
theorem dX12_block_80 : decode cX12_block 80 = .ok (.ireturn, 1) := by decide +kernel
theorem dX12_block_81 : decode cX12_block 81 = .ok (.aload_n 0, 1) := by decide +kernel
theorem dX12_block_82 : decode cX12_block 82 = .ok (.aload_n 0, 1) := by decide +kernel
theorem dX12_block_83 : decode cX12_block 83 = .ok (.getfield 73, 3) := by decide +kernel
theorem dX12_block_86 : decode cX12_block 86 = .ok (.iload_n 1, 1) := by decide +kernel
theorem dX12_block_87 : decode cX12_block 87 = .ok (.iaload, 1) := by decide +kernel
theorem dX12_block_88 : decode cX12_block 88 = .ok (.aload_n 0, 1) := by decide +kernel
theorem dX12_block_89 : decode cX12_block 89 = .ok (.getfield 76, 3) := by decide +kernel
theorem dX12_block_92 : decode cX12_block 92 = .ok (.iload_n 1, 1) := by decide +kernel
theorem dX12_block_93 : decode cX12_block 93 = .ok (.iaload, 1) := by decide +kernel
theorem dX12_block_94 : decode cX12_block 94 = .ok (.invokevirtual 398, 3) := by decide +kernel
theorem dX12_block_97 : decode cX12_block 97 = .ok (.ireturn, 1) := by decide +kernel
theorem dX12_block_98 : decode cX12_block 98 = .ok (.aload_n 0, 1) := by decide +kernel
theorem dX12_block_99 : decode cX12_block 99 = .ok (.aload_n 0, 1) := by decide +kernel
theorem dX12_block_100 : decode cX12_block 100 = .ok (.getfield 73, 3) := by decide +kernel
theorem dX12_block_103 : decode cX12_block 103 = .ok (.iload_n 1, 1) := by decide +kernel
theorem dX12_block_104 : decode cX12_block 104 = .ok (.iaload, 1) := by decide +kernel
theorem dX12_block_105 : decode cX12_block 105 = .ok (.aload_n 0, 1) := by decide +kernel
theorem dX12_block_106 : decode cX12_block 106 = .ok (.getfield 76, 3) := by decide +kernel
theorem dX12_block_109 : decode cX12_block 109 = .ok (.iload_n 1, 1) := by decide +kernel
theorem dX12_block_110 : decode cX12_block 110 = .ok (.iaload, 1) := by decide +kernel
theorem dX12_block_111 : decode cX12_block 111 = .ok (.invokevirtual 398, 3) := by decide +kernel
theorem dX12_block_114 : decode cX12_block 114 = .ok (.aload_n 0, 1) := by decide +kernel
theorem dX12_block_115 : decode cX12_block 115 = .ok (.getfield 17, 3) := by decide +kernel
theorem dX12_block_118 : decode cX12_block 118 = .ok (.iconst 2, 1) := by decide +kernel
theorem dX12_block_119 : decode cX12_block 119 = .ok (.iaload, 1) := by decide +kernel
theorem dX12_block_120 : decode cX12_block 120 = .ok (.if_icmp .lt 7, 3) := by decide +kernel
theorem dX12_block_123 : decode cX12_block 123 = .ok (.iconst 1, 1) := by decide +kernel
theorem dX12_block_124 : decode cX12_block 124 = .ok (.goto 4, 3) := by decide +kernel
theorem dX12_block_127 : decode cX12_block 127 = .ok (.iconst 0, 1) := by decide +kernel
theorem dX12_block_128 : decode cX12_block 128 = .ok (.ireturn, 1) := by decide +kernel
theorem dX12_block_129 : decode cX12_block 129 = .ok (.aload_n 0, 1) := by decide +kernel
theorem dX12_block_130 : decode cX12_block 130 = .ok (.aload_n 0, 1) := by decide +kernel
theorem dX12_block_131 : decode cX12_block 131 = .ok (.getfield 73, 3) := by decide +kernel
theorem dX12_block_134 : decode cX12_block 134 = .ok (.iload_n 1, 1) := by decide +kernel
theorem dX12_block_135 : decode cX12_block 135 = .ok (.iaload, 1) := by decide +kernel
theorem dX12_block_136 : decode cX12_block 136 = .ok (.iload_n 1, 1) := by decide +kernel
theorem dX12_block_137 : decode cX12_block 137 = .ok (.invokevirtual 401, 3) := by decide +kernel
theorem dX12_block_140 : decode cX12_block 140 = .ok (.ireturn, 1) := by decide +kernel
theorem dX12_block_141 : decode cX12_block 141 = .ok (.aload_n 0, 1) := by decide +kernel
theorem dX12_block_142 : decode cX12_block 142 = .ok (.aload_n 0, 1) := by decide +kernel
theorem dX12_block_143 : decode cX12_block 143 = .ok (.getfield 76, 3) := by decide +kernel
theorem dX12_block_146 : decode cX12_block 146 = .ok (.iload_n 1, 1) := by decide +kernel
theorem dX12_block_147 : decode cX12_block 147 = .ok (.iaload, 1) := by decide +kernel
theorem dX12_block_148 : decode cX12_block 148 = .ok (.iload_n 1, 1) := by decide +kernel
theorem dX12_block_149 : decode cX12_block 149 = .ok (.invokevirtual 401, 3) := by decide +kernel
theorem dX12_block_152 : decode cX12_block 152 = .ok (.ireturn, 1) := by decide +kernel
theorem dX12_block_153 : decode cX12_block 153 = .ok (.bipush (-9), 2) := by decide +kernel
theorem dX12_block_155 : decode cX12_block 155 = .ok (.ireturn, 1) := by decide +kernel
abbrev rm_X12_block : Room := { frames := 3, cells := 0, slots := 0, locals := 65 }
def f_X12_block (x1 : Int32) (x2 : Int32) (σ : St) : Option Int32 := (if (f_X12_in x1 0 ((σ.1 1035 0) - 1) σ) = 0 then some ((-9)) else (if x2 = 0 then grd (ib x1 12) (some (σ.1 20 x1.toNatClampNeg)) else (if x2 = 1 then grd (ib x1 12) (some (σ.1 21 x1.toNatClampNeg)) else (if x2 = 2 then grd (ib x1 12) (some (σ.1 22 x1.toNatClampNeg)) else (if x2 = 3 then grd (ib x1 12) (grd (ib x1 12) (bo (f_X12_percent (σ.1 20 x1.toNatClampNeg) (σ.1 21 x1.toNatClampNeg) σ) (fun r11_ => some r11_))) else (if x2 = 4 then grd (ib x1 12) (grd (ib x1 12) (bo (f_X12_percent (σ.1 20 x1.toNatClampNeg) (σ.1 21 x1.toNatClampNeg) σ) (fun r15_ => grd (ib 2 8) ((if r15_ < (σ.1 2 2) then some 0 else some 1))))) else (if x2 = 5 then grd (ib x1 12) (bo (f_X12_shrunk (σ.1 20 x1.toNatClampNeg) x1 σ) (fun r20_ => some r20_)) else (if x2 = 6 then grd (ib x1 12) (bo (f_X12_shrunk (σ.1 21 x1.toNatClampNeg) x1 σ) (fun r23_ => some r23_)) else some ((-9))))))))))
section
variable {p : Program} {l : Launch} {e : Env} {s : State} {m : MethodId} {args : Array Value} {below : List Frame} {meth : Method} {c : Code} {g : XG}
set_option maxRecDepth 4000 in
theorem m_X12_block (x1 : Int32) (x2 : Int32) (σ : St) {r : Int32} (h : f_X12_block x1 x2 σ = some r) : xM l KM g yX12_block cX12_block 3 (some .int) rm_X12_block [.ref (g.q 0), .int x1, .int x2] σ (some (.int r)) σ := by
  refine xmet pn_X12 rfl (Nat.le_of_ble_eq_true rfl) (lv := [(0, .ref (g.q 0)), (1, .int x1), (2, .int x2)]) rfl (fun p e s m args below meth c ls C hW hl => ?_)
  have hx := C.1
  have hb := C.2.1
  unfold f_X12_block at h
  refine lv_iload_n hx hb dX12_block_0 rfl (lv_at hl 1 rfl) ?_
  refine lv_iconst (v := 0) hx hb dX12_block_1 rfl ?_
  refine lv_aload_n hx hb dX12_block_2 rfl (lv_at hl 0 rfl) ?_
  refine xg_i C hW fg_12_326 KM_0 rfl (v := 1035) rfl (x := σ.1 1035 0) rfl dX12_block_3 ?_
  refine lv_iconst (v := 1) hx hb dX12_block_6 rfl ?_
  refine lv_isub hx hb dX12_block_7 ?_
  refine xc_S (As := [.int x1, .int 0, .int ((σ.1 1035 0) - 1)]) (rest := []) C hW (m_X12_in x1 0 ((σ.1 1035 0) - 1) _ rfl) mf_X12_in mt_X12_in ml_X12_295 ⟨rfl, rfl⟩ ⟨Nat.le_of_ble_eq_true rfl, Nat.le_of_ble_eq_true rfl⟩ hl.1 rfl rfl (Nat.le_of_ble_eq_true rfl) dX12_block_8 (fun H locs hW => W.eq (g2 := F0 m 11 ls [.int (f_X12_in x1 0 ((σ.1 1035 0) - 1) σ)]) rfl ?_)
  refine lv_if_ne (tgt := 17) hx hb dX12_block_11 (by decide) (fun c1 => ?_) (fun c1 => ?_)
  · have h := xif c1 h
    refine lv_iload_n hx hb dX12_block_17 rfl (lv_at hl 2 rfl) ?_
    by_cases c2 : x2 = 0
    · have h := xit c2 h
      refine lv_tableIn (off := 42) (tgt := 60) hx hb dX12_block_18 (by rw [c2]; decide) (by rw [c2]; decide) (by rw [c2]; rfl) (by decide) ?_
      refine lv_aload_n hx hb dX12_block_60 rfl (lv_at hl 0 rfl) ?_
      refine xg_r C hW fg_12_73 KM_0 rfl dX12_block_61 ?_
      refine lv_iload_n hx hb dX12_block_64 rfl (lv_at hl 1 rfl) ?_
      obtain ⟨g3, h⟩ := xgd h
      refine xa_i C hW KM_20 g3 (x := σ.1 20 x1.toNatClampNeg) rfl dX12_block_65 ?_
      cases h
      exact xr_i C hW dX12_block_66
    · have h := xif c2 h
      by_cases c4 : x2 = 1
      · have h := xit c4 h
        refine lv_tableIn (off := 49) (tgt := 67) hx hb dX12_block_18 (by rw [c4]; decide) (by rw [c4]; decide) (by rw [c4]; rfl) (by decide) ?_
        refine lv_aload_n hx hb dX12_block_67 rfl (lv_at hl 0 rfl) ?_
        refine xg_r C hW fg_12_76 KM_0 rfl dX12_block_68 ?_
        refine lv_iload_n hx hb dX12_block_71 rfl (lv_at hl 1 rfl) ?_
        obtain ⟨g5, h⟩ := xgd h
        refine xa_i C hW KM_21 g5 (x := σ.1 21 x1.toNatClampNeg) rfl dX12_block_72 ?_
        cases h
        exact xr_i C hW dX12_block_73
      · have h := xif c4 h
        by_cases c6 : x2 = 2
        · have h := xit c6 h
          refine lv_tableIn (off := 56) (tgt := 74) hx hb dX12_block_18 (by rw [c6]; decide) (by rw [c6]; decide) (by rw [c6]; rfl) (by decide) ?_
          refine lv_aload_n hx hb dX12_block_74 rfl (lv_at hl 0 rfl) ?_
          refine xg_r C hW fg_12_79 KM_0 rfl dX12_block_75 ?_
          refine lv_iload_n hx hb dX12_block_78 rfl (lv_at hl 1 rfl) ?_
          obtain ⟨g7, h⟩ := xgd h
          refine xa_i C hW KM_22 g7 (x := σ.1 22 x1.toNatClampNeg) rfl dX12_block_79 ?_
          cases h
          exact xr_i C hW dX12_block_80
        · have h := xif c6 h
          by_cases c8 : x2 = 3
          · have h := xit c8 h
            refine lv_tableIn (off := 63) (tgt := 81) hx hb dX12_block_18 (by rw [c8]; decide) (by rw [c8]; decide) (by rw [c8]; rfl) (by decide) ?_
            refine lv_aload_n hx hb dX12_block_81 rfl (lv_at hl 0 rfl) ?_
            refine lv_aload_n hx hb dX12_block_82 rfl (lv_at hl 0 rfl) ?_
            refine xg_r C hW fg_12_73 KM_0 rfl dX12_block_83 ?_
            refine lv_iload_n hx hb dX12_block_86 rfl (lv_at hl 1 rfl) ?_
            obtain ⟨g9, h⟩ := xgd h
            refine xa_i C hW KM_20 g9 (x := σ.1 20 x1.toNatClampNeg) rfl dX12_block_87 ?_
            refine lv_aload_n hx hb dX12_block_88 rfl (lv_at hl 0 rfl) ?_
            refine xg_r C hW fg_12_76 KM_0 rfl dX12_block_89 ?_
            refine lv_iload_n hx hb dX12_block_92 rfl (lv_at hl 1 rfl) ?_
            obtain ⟨g10, h⟩ := xgd h
            refine xa_i C hW KM_21 g10 (x := σ.1 21 x1.toNatClampNeg) rfl dX12_block_93 ?_
            obtain ⟨r11_, e11, h⟩ := xbo h
            refine xc_V (As := [.int (σ.1 20 x1.toNatClampNeg), .int (σ.1 21 x1.toNatClampNeg)]) (rest := []) C hW (m_X12_percent (σ.1 20 x1.toNatClampNeg) (σ.1 21 x1.toNatClampNeg) _ e11) mf_X12_percent mv_X12_percent ml_X12_398 ⟨rfl, rfl⟩ ⟨Nat.le_of_ble_eq_true rfl, Nat.le_of_ble_eq_true rfl⟩ KM_0 rfl hl.1 rfl rfl (Nat.le_of_ble_eq_true rfl) dX12_block_94 (fun H locs hW => W.eq (g2 := F0 m 97 ls [.int r11_]) rfl ?_)
            cases h
            exact xr_i C hW dX12_block_97
          · have h := xif c8 h
            by_cases c12 : x2 = 4
            · have h := xit c12 h
              refine lv_tableIn (off := 80) (tgt := 98) hx hb dX12_block_18 (by rw [c12]; decide) (by rw [c12]; decide) (by rw [c12]; rfl) (by decide) ?_
              refine lv_aload_n hx hb dX12_block_98 rfl (lv_at hl 0 rfl) ?_
              refine lv_aload_n hx hb dX12_block_99 rfl (lv_at hl 0 rfl) ?_
              refine xg_r C hW fg_12_73 KM_0 rfl dX12_block_100 ?_
              refine lv_iload_n hx hb dX12_block_103 rfl (lv_at hl 1 rfl) ?_
              obtain ⟨g13, h⟩ := xgd h
              refine xa_i C hW KM_20 g13 (x := σ.1 20 x1.toNatClampNeg) rfl dX12_block_104 ?_
              refine lv_aload_n hx hb dX12_block_105 rfl (lv_at hl 0 rfl) ?_
              refine xg_r C hW fg_12_76 KM_0 rfl dX12_block_106 ?_
              refine lv_iload_n hx hb dX12_block_109 rfl (lv_at hl 1 rfl) ?_
              obtain ⟨g14, h⟩ := xgd h
              refine xa_i C hW KM_21 g14 (x := σ.1 21 x1.toNatClampNeg) rfl dX12_block_110 ?_
              obtain ⟨r15_, e15, h⟩ := xbo h
              refine xc_V (As := [.int (σ.1 20 x1.toNatClampNeg), .int (σ.1 21 x1.toNatClampNeg)]) (rest := []) C hW (m_X12_percent (σ.1 20 x1.toNatClampNeg) (σ.1 21 x1.toNatClampNeg) _ e15) mf_X12_percent mv_X12_percent ml_X12_398 ⟨rfl, rfl⟩ ⟨Nat.le_of_ble_eq_true rfl, Nat.le_of_ble_eq_true rfl⟩ KM_0 rfl hl.1 rfl rfl (Nat.le_of_ble_eq_true rfl) dX12_block_111 (fun H locs hW => W.eq (g2 := F0 m 114 ls [.int r15_]) rfl ?_)
              refine lv_aload_n hx hb dX12_block_114 rfl (lv_at hl 0 rfl) ?_
              refine xg_r C hW fg_12_17 KM_0 rfl dX12_block_115 ?_
              refine lv_iconst (v := 2) hx hb dX12_block_118 rfl ?_
              obtain ⟨g16, h⟩ := xgd h
              refine xa_i C hW KM_2 g16 (x := σ.1 2 2) rfl dX12_block_119 ?_
              refine lv_icmp_lt (tgt := 127) hx hb dX12_block_120 (by decide) (fun c17 => ?_) (fun c17 => ?_)
              · have h := xit c17 h
                refine lv_iconst (v := 0) hx hb dX12_block_127 rfl ?_
                cases h
                exact xr_i C hW dX12_block_128
              · have h := xif c17 h
                refine lv_iconst (v := 1) hx hb dX12_block_123 rfl ?_
                refine lv_goto (tgt := 128) hx hb dX12_block_124 (by decide) ?_
                cases h
                exact xr_i C hW dX12_block_128
            · have h := xif c12 h
              by_cases c18 : x2 = 5
              · have h := xit c18 h
                refine lv_tableIn (off := 111) (tgt := 129) hx hb dX12_block_18 (by rw [c18]; decide) (by rw [c18]; decide) (by rw [c18]; rfl) (by decide) ?_
                refine lv_aload_n hx hb dX12_block_129 rfl (lv_at hl 0 rfl) ?_
                refine lv_aload_n hx hb dX12_block_130 rfl (lv_at hl 0 rfl) ?_
                refine xg_r C hW fg_12_73 KM_0 rfl dX12_block_131 ?_
                refine lv_iload_n hx hb dX12_block_134 rfl (lv_at hl 1 rfl) ?_
                obtain ⟨g19, h⟩ := xgd h
                refine xa_i C hW KM_20 g19 (x := σ.1 20 x1.toNatClampNeg) rfl dX12_block_135 ?_
                refine lv_iload_n hx hb dX12_block_136 rfl (lv_at hl 1 rfl) ?_
                obtain ⟨r20_, e20, h⟩ := xbo h
                refine xc_V (As := [.int (σ.1 20 x1.toNatClampNeg), .int x1]) (rest := []) C hW (m_X12_shrunk (σ.1 20 x1.toNatClampNeg) x1 _ e20) mf_X12_shrunk mv_X12_shrunk ml_X12_401 ⟨rfl, rfl⟩ ⟨Nat.le_of_ble_eq_true rfl, Nat.le_of_ble_eq_true rfl⟩ KM_0 rfl hl.1 rfl rfl (Nat.le_of_ble_eq_true rfl) dX12_block_137 (fun H locs hW => W.eq (g2 := F0 m 140 ls [.int r20_]) rfl ?_)
                cases h
                exact xr_i C hW dX12_block_140
              · have h := xif c18 h
                by_cases c21 : x2 = 6
                · have h := xit c21 h
                  refine lv_tableIn (off := 123) (tgt := 141) hx hb dX12_block_18 (by rw [c21]; decide) (by rw [c21]; decide) (by rw [c21]; rfl) (by decide) ?_
                  refine lv_aload_n hx hb dX12_block_141 rfl (lv_at hl 0 rfl) ?_
                  refine lv_aload_n hx hb dX12_block_142 rfl (lv_at hl 0 rfl) ?_
                  refine xg_r C hW fg_12_76 KM_0 rfl dX12_block_143 ?_
                  refine lv_iload_n hx hb dX12_block_146 rfl (lv_at hl 1 rfl) ?_
                  obtain ⟨g22, h⟩ := xgd h
                  refine xa_i C hW KM_21 g22 (x := σ.1 21 x1.toNatClampNeg) rfl dX12_block_147 ?_
                  refine lv_iload_n hx hb dX12_block_148 rfl (lv_at hl 1 rfl) ?_
                  obtain ⟨r23_, e23, h⟩ := xbo h
                  refine xc_V (As := [.int (σ.1 21 x1.toNatClampNeg), .int x1]) (rest := []) C hW (m_X12_shrunk (σ.1 21 x1.toNatClampNeg) x1 _ e23) mf_X12_shrunk mv_X12_shrunk ml_X12_401 ⟨rfl, rfl⟩ ⟨Nat.le_of_ble_eq_true rfl, Nat.le_of_ble_eq_true rfl⟩ KM_0 rfl hl.1 rfl rfl (Nat.le_of_ble_eq_true rfl) dX12_block_149 (fun H locs hW => W.eq (g2 := F0 m 152 ls [.int r23_]) rfl ?_)
                  cases h
                  exact xr_i C hW dX12_block_152
                · have h := xif c21 h
                  refine lv_tableOut (tgt := 153) hx hb dX12_block_18 (xsw_out (fun k h1 h2 => ?_)) (by decide) ?_
                  · rcases (show k = 0 ∨ k = 1 ∨ k = 2 ∨ k = 3 ∨ k = 4 ∨ k = 5 ∨ k = 6 by omega) with rfl | rfl | rfl | rfl | rfl | rfl | rfl
                    · exact c2
                    · exact c4
                    · exact c6
                    · exact c8
                    · exact c12
                    · exact c18
                    · exact c21
                  · refine lv_bipush (v := (-9)) hx hb dX12_block_153 rfl ?_
                    cases h
                    exact xr_i C hW dX12_block_155
  · have h := xit c1 h
    refine lv_bipush (v := (-9)) hx hb dX12_block_14 rfl ?_
    cases h
    exact xr_i C hW dX12_block_16
end
theorem dX12_box_0 : decode cX12_box 0 = .ok (.iload_n 1, 1) := by decide +kernel
theorem dX12_box_1 : decode cX12_box 1 = .ok (.iconst 0, 1) := by decide +kernel
theorem dX12_box_2 : decode cX12_box 2 = .ok (.aload_n 0, 1) := by decide +kernel
theorem dX12_box_3 : decode cX12_box 3 = .ok (.getfield 329, 3) := by decide +kernel
theorem dX12_box_6 : decode cX12_box 6 = .ok (.iconst 1, 1) := by decide +kernel
theorem dX12_box_7 : decode cX12_box 7 = .ok (.isub, 1) := by decide +kernel
theorem dX12_box_8 : decode cX12_box 8 = .ok (.invokestatic 295, 3) := by decide +kernel
theorem dX12_box_11 : decode cX12_box 11 = .ok (.ifCond .ne 6, 3) := by decide +kernel
theorem dX12_box_14 : decode cX12_box 14 = .ok (.bipush (-9), 2) := by decide +kernel
theorem dX12_box_16 : decode cX12_box 16 = .ok (.ireturn, 1) := by decide +kernel
theorem dX12_box_17 : decode cX12_box 17 = .ok (.aload_n 0, 1) := by decide +kernel
theorem dX12_box_18 : decode cX12_box 18 = .ok (.getfield 85, 3) := by decide +kernel
theorem dX12_box_21 : decode cX12_box 21 = .ok (.iload_n 1, 1) := by decide +kernel
theorem dX12_box_22 : decode cX12_box 22 = .ok (.iaload, 1) := by decide +kernel
theorem dX12_box_23 : decode cX12_box 23 = .ok (.istore_n 3, 1) := by decide +kernel
theorem dX12_box_24 : decode cX12_box 24 = .ok (.aload_n 0, 1) := by decide +kernel
theorem dX12_box_25 : decode cX12_box 25 = .ok (.aload_n 0, 1) := by decide +kernel
theorem dX12_box_26 : decode cX12_box 26 = .ok (.getfield 88, 3) := by decide +kernel
theorem dX12_box_29 : decode cX12_box 29 = .ok (.iload_n 1, 1) := by decide +kernel
theorem dX12_box_30 : decode cX12_box 30 = .ok (.iaload, 1) := by decide +kernel
theorem dX12_box_31 : decode cX12_box 31 = .ok (.iload_n 3, 1) := by decide +kernel
theorem dX12_box_32 : decode cX12_box 32 = .ok (.invokevirtual 401, 3) := by decide +kernel
theorem dX12_box_35 : decode cX12_box 35 = .ok (.aload_n 0, 1) := by decide +kernel
theorem dX12_box_36 : decode cX12_box 36 = .ok (.getfield 17, 3) := by decide +kernel
theorem dX12_box_39 : decode cX12_box 39 = .ok (.iconst 1, 1) := by decide +kernel
theorem dX12_box_40 : decode cX12_box 40 = .ok (.iaload, 1) := by decide +kernel
theorem dX12_box_41 : decode cX12_box 41 = .ok (.aload_n 0, 1) := by decide +kernel
theorem dX12_box_42 : decode cX12_box 42 = .ok (.aload_n 0, 1) := by decide +kernel
theorem dX12_box_43 : decode cX12_box 43 = .ok (.getfield 73, 3) := by decide +kernel
theorem dX12_box_46 : decode cX12_box 46 = .ok (.iload_n 3, 1) := by decide +kernel
theorem dX12_box_47 : decode cX12_box 47 = .ok (.iaload, 1) := by decide +kernel
theorem dX12_box_48 : decode cX12_box 48 = .ok (.iload_n 3, 1) := by decide +kernel
theorem dX12_box_49 : decode cX12_box 49 = .ok (.invokevirtual 401, 3) := by decide +kernel
theorem dX12_box_52 : decode cX12_box 52 = .ok (.isub, 1) := by decide +kernel
theorem dX12_box_53 : decode cX12_box 53 = .ok (.iconst 2, 1) := by decide +kernel
theorem dX12_box_54 : decode cX12_box 54 = .ok (.idiv, 1) := by decide +kernel
theorem dX12_box_55 : decode cX12_box 55 = .ok (.iadd, 1) := by decide +kernel
theorem dX12_box_56 : decode cX12_box 56 = .ok (.istore 4, 2) := by decide +kernel
theorem dX12_box_58 : decode cX12_box 58 = .ok (.iload_n 2, 1) := by decide +kernel
theorem dX12_box_59 : decode cX12_box 59 = .ok (.tableswitch 137 0 5 #[37, 44, 46, 80, 113, 125], 37) := by decide +kernel
theorem dX12_box_96 : decode cX12_box 96 = .ok (.aload_n 0, 1) := by decide +kernel
theorem dX12_box_97 : decode cX12_box 97 = .ok (.getfield 82, 3) := by decide +kernel
theorem dX12_box_100 : decode cX12_box 100 = .ok (.iload_n 1, 1) := by decide +kernel
theorem dX12_box_101 : decode cX12_box 101 = .ok (.iaload, 1) := by decide +kernel
theorem dX12_box_102 : decode cX12_box 102 = .ok (.ireturn, 1) := by decide +kernel
theorem dX12_box_103 : decode cX12_box 103 = .ok (.iload_n 3, 1) := by decide +kernel
theorem dX12_box_104 : decode cX12_box 104 = .ok (.ireturn, 1) := by decide +kernel
theorem dX12_box_105 : decode cX12_box 105 = .ok (.aload_n 0, 1) := by decide +kernel
theorem dX12_box_106 : decode cX12_box 106 = .ok (.getfield 404, 3) := by decide +kernel
theorem dX12_box_109 : decode cX12_box 109 = .ok (.ifCond .eq 27, 3) := by decide +kernel
theorem dX12_box_112 : decode cX12_box 112 = .ok (.aload_n 0, 1) := by decide +kernel
theorem dX12_box_113 : decode cX12_box 113 = .ok (.getfield 17, 3) := by decide +kernel
theorem dX12_box_116 : decode cX12_box 116 = .ok (.iconst 1, 1) := by decide +kernel
theorem dX12_box_117 : decode cX12_box 117 = .ok (.iaload, 1) := by decide +kernel
theorem dX12_box_118 : decode cX12_box 118 = .ok (.iload 4, 2) := by decide +kernel
theorem dX12_box_120 : decode cX12_box 120 = .ok (.isub, 1) := by decide +kernel
theorem dX12_box_121 : decode cX12_box 121 = .ok (.aload_n 0, 1) := by decide +kernel
theorem dX12_box_122 : decode cX12_box 122 = .ok (.aload_n 0, 1) := by decide +kernel
theorem dX12_box_123 : decode cX12_box 123 = .ok (.getfield 94, 3) := by decide +kernel
theorem dX12_box_126 : decode cX12_box 126 = .ok (.iload_n 1, 1) := by decide +kernel
theorem dX12_box_127 : decode cX12_box 127 = .ok (.iaload, 1) := by decide +kernel
theorem dX12_box_128 : decode cX12_box 128 = .ok (.iload_n 3, 1) := by decide +kernel
theorem dX12_box_129 : decode cX12_box 129 = .ok (.invokevirtual 401, 3) := by decide +kernel
theorem dX12_box_132 : decode cX12_box 132 = .ok (.isub, 1) := by decide +kernel
theorem dX12_box_133 : decode cX12_box 133 = .ok (.goto 5, 3) := by decide +kernel
theorem dX12_box_136 : decode cX12_box 136 = .ok (.iload 4, 2) := by decide +kernel
theorem dX12_box_138 : decode cX12_box 138 = .ok (.ireturn, 1) := by decide +kernel
theorem dX12_box_139 : decode cX12_box 139 = .ok (.aload_n 0, 1) := by decide +kernel
theorem dX12_box_140 : decode cX12_box 140 = .ok (.aload_n 0, 1) := by decide +kernel
theorem dX12_box_141 : decode cX12_box 141 = .ok (.getfield 91, 3) := by decide +kernel
theorem dX12_box_144 : decode cX12_box 144 = .ok (.iload_n 1, 1) := by decide +kernel
theorem dX12_box_145 : decode cX12_box 145 = .ok (.iaload, 1) := by decide +kernel
theorem dX12_box_146 : decode cX12_box 146 = .ok (.iload_n 3, 1) := by decide +kernel
theorem dX12_box_147 : decode cX12_box 147 = .ok (.invokevirtual 401, 3) := by decide +kernel
theorem dX12_box_150 : decode cX12_box 150 = .ok (.aload_n 0, 1) := by decide +kernel
theorem dX12_box_151 : decode cX12_box 151 = .ok (.getfield 17, 3) := by decide +kernel
theorem dX12_box_154 : decode cX12_box 154 = .ok (.iconst 1, 1) := by decide +kernel
theorem dX12_box_155 : decode cX12_box 155 = .ok (.iaload, 1) := by decide +kernel
theorem dX12_box_156 : decode cX12_box 156 = .ok (.aload_n 0, 1) := by decide +kernel
theorem dX12_box_157 : decode cX12_box 157 = .ok (.aload_n 0, 1) := by decide +kernel
theorem dX12_box_158 : decode cX12_box 158 = .ok (.getfield 76, 3) := by decide +kernel
theorem dX12_box_161 : decode cX12_box 161 = .ok (.iload_n 3, 1) := by decide +kernel
theorem dX12_box_162 : decode cX12_box 162 = .ok (.iaload, 1) := by decide +kernel
theorem dX12_box_163 : decode cX12_box 163 = .ok (.iload_n 3, 1) := by decide +kernel
theorem dX12_box_164 : decode cX12_box 164 = .ok (.invokevirtual 401, 3) := by decide +kernel
theorem dX12_box_167 : decode cX12_box 167 = .ok (.isub, 1) := by decide +kernel
theorem dX12_box_168 : decode cX12_box 168 = .ok (.iconst 2, 1) := by decide +kernel
theorem dX12_box_169 : decode cX12_box 169 = .ok (.idiv, 1) := by decide +kernel
theorem dX12_box_170 : decode cX12_box 170 = .ok (.iadd, 1) := by decide +kernel
theorem dX12_box_171 : decode cX12_box 171 = .ok (.ireturn, 1) := by decide +kernel
theorem dX12_box_172 : decode cX12_box 172 = .ok (.aload_n 0, 1) := by decide +kernel
theorem dX12_box_173 : decode cX12_box 173 = .ok (.aload_n 0, 1) := by decide +kernel
theorem dX12_box_174 : decode cX12_box 174 = .ok (.getfield 94, 3) := by decide +kernel
theorem dX12_box_177 : decode cX12_box 177 = .ok (.iload_n 1, 1) := by decide +kernel
theorem dX12_box_178 : decode cX12_box 178 = .ok (.iaload, 1) := by decide +kernel
theorem dX12_box_179 : decode cX12_box 179 = .ok (.iload_n 3, 1) := by decide +kernel
theorem dX12_box_180 : decode cX12_box 180 = .ok (.invokevirtual 401, 3) := by decide +kernel
theorem dX12_box_183 : decode cX12_box 183 = .ok (.ireturn, 1) := by decide +kernel
theorem dX12_box_184 : decode cX12_box 184 = .ok (.aload_n 0, 1) := by decide +kernel
theorem dX12_box_185 : decode cX12_box 185 = .ok (.aload_n 0, 1) := by decide +kernel
theorem dX12_box_186 : decode cX12_box 186 = .ok (.getfield 97, 3) := by decide +kernel
theorem dX12_box_189 : decode cX12_box 189 = .ok (.iload_n 1, 1) := by decide +kernel
theorem dX12_box_190 : decode cX12_box 190 = .ok (.iaload, 1) := by decide +kernel
theorem dX12_box_191 : decode cX12_box 191 = .ok (.iload_n 3, 1) := by decide +kernel
theorem dX12_box_192 : decode cX12_box 192 = .ok (.invokevirtual 401, 3) := by decide +kernel
theorem dX12_box_195 : decode cX12_box 195 = .ok (.ireturn, 1) := by decide +kernel
theorem dX12_box_196 : decode cX12_box 196 = .ok (.bipush (-9), 2) := by decide +kernel
theorem dX12_box_198 : decode cX12_box 198 = .ok (.ireturn, 1) := by decide +kernel
abbrev rm_X12_box : Room := { frames := 3, cells := 0, slots := 0, locals := 65 }
def f_X12_box (x1 : Int32) (x2 : Int32) (σ : St) : Option Int32 := (if (f_X12_in x1 0 ((σ.1 1036 0) - 1) σ) = 0 then some ((-9)) else grd (ib x1 24) (grd (ib x1 24) (bo (f_X12_shrunk (σ.1 25 x1.toNatClampNeg) (σ.1 24 x1.toNatClampNeg) σ) (fun r4_ => grd (ib 1 8) (grd (ib (σ.1 24 x1.toNatClampNeg) 12) (bo (f_X12_shrunk (σ.1 20 (σ.1 24 x1.toNatClampNeg).toNatClampNeg) (σ.1 24 x1.toNatClampNeg) σ) (fun r7_ => (if x2 = 0 then grd (ib x1 24) (some (σ.1 23 x1.toNatClampNeg)) else (if x2 = 1 then some (σ.1 24 x1.toNatClampNeg) else (if x2 = 2 then (if (σ.1 1048 0) = 0 then some (r4_ + (((σ.1 2 1) - r7_) / 2)) else grd (ib 1 8) (grd (ib x1 24) (bo (f_X12_shrunk (σ.1 27 x1.toNatClampNeg) (σ.1 24 x1.toNatClampNeg) σ) (fun r16_ => some (((σ.1 2 1) - (r4_ + (((σ.1 2 1) - r7_) / 2))) - r16_))))) else (if x2 = 3 then grd (ib x1 24) (bo (f_X12_shrunk (σ.1 26 x1.toNatClampNeg) (σ.1 24 x1.toNatClampNeg) σ) (fun r19_ => grd (ib 1 8) (grd (ib (σ.1 24 x1.toNatClampNeg) 12) (bo (f_X12_shrunk (σ.1 21 (σ.1 24 x1.toNatClampNeg).toNatClampNeg) (σ.1 24 x1.toNatClampNeg) σ) (fun r22_ => some (r19_ + (((σ.1 2 1) - r22_) / 2))))))) else (if x2 = 4 then grd (ib x1 24) (bo (f_X12_shrunk (σ.1 27 x1.toNatClampNeg) (σ.1 24 x1.toNatClampNeg) σ) (fun r26_ => some r26_)) else (if x2 = 5 then grd (ib x1 24) (bo (f_X12_shrunk (σ.1 28 x1.toNatClampNeg) (σ.1 24 x1.toNatClampNeg) σ) (fun r29_ => some r29_)) else some ((-9)))))))))))))))
section
variable {p : Program} {l : Launch} {e : Env} {s : State} {m : MethodId} {args : Array Value} {below : List Frame} {meth : Method} {c : Code} {g : XG}
set_option maxRecDepth 4000 in
theorem m_X12_box (x1 : Int32) (x2 : Int32) (σ : St) {r : Int32} (h : f_X12_box x1 x2 σ = some r) : xM l KM g yX12_box cX12_box 5 (some .int) rm_X12_box [.ref (g.q 0), .int x1, .int x2] σ (some (.int r)) σ := by
  refine xmet pn_X12 rfl (Nat.le_of_ble_eq_true rfl) (lv := [(0, .ref (g.q 0)), (1, .int x1), (2, .int x2)]) rfl (fun p e s m args below meth c ls C hW hl => ?_)
  have hx := C.1
  have hb := C.2.1
  unfold f_X12_box at h
  refine lv_iload_n hx hb dX12_box_0 rfl (lv_at hl 1 rfl) ?_
  refine lv_iconst (v := 0) hx hb dX12_box_1 rfl ?_
  refine lv_aload_n hx hb dX12_box_2 rfl (lv_at hl 0 rfl) ?_
  refine xg_i C hW fg_12_329 KM_0 rfl (v := 1036) rfl (x := σ.1 1036 0) rfl dX12_box_3 ?_
  refine lv_iconst (v := 1) hx hb dX12_box_6 rfl ?_
  refine lv_isub hx hb dX12_box_7 ?_
  refine xc_S (As := [.int x1, .int 0, .int ((σ.1 1036 0) - 1)]) (rest := []) C hW (m_X12_in x1 0 ((σ.1 1036 0) - 1) _ rfl) mf_X12_in mt_X12_in ml_X12_295 ⟨rfl, rfl⟩ ⟨Nat.le_of_ble_eq_true rfl, Nat.le_of_ble_eq_true rfl⟩ hl.1 rfl rfl (Nat.le_of_ble_eq_true rfl) dX12_box_8 (fun H locs hW => W.eq (g2 := F0 m 11 ls [.int (f_X12_in x1 0 ((σ.1 1036 0) - 1) σ)]) rfl ?_)
  refine lv_if_ne (tgt := 17) hx hb dX12_box_11 (by decide) (fun c1 => ?_) (fun c1 => ?_)
  · have h := xif c1 h
    refine lv_aload_n hx hb dX12_box_17 rfl (lv_at hl 0 rfl) ?_
    refine xg_r C hW fg_12_85 KM_0 rfl dX12_box_18 ?_
    refine lv_iload_n hx hb dX12_box_21 rfl (lv_at hl 1 rfl) ?_
    obtain ⟨g2, h⟩ := xgd h
    refine xa_i C hW KM_24 g2 (x := σ.1 24 x1.toNatClampNeg) rfl dX12_box_22 ?_
    refine lv_istore_n (lv' := [(3, .int (σ.1 24 x1.toNatClampNeg)), (0, .ref (g.q 0)), (1, .int x1), (2, .int x2)]) hx hb dX12_box_23 rfl hl (Nat.le_of_ble_eq_true rfl) rfl (fun ls hl => ?_)
    refine lv_aload_n hx hb dX12_box_24 rfl (lv_at hl 1 rfl) ?_
    refine lv_aload_n hx hb dX12_box_25 rfl (lv_at hl 1 rfl) ?_
    refine xg_r C hW fg_12_88 KM_0 rfl dX12_box_26 ?_
    refine lv_iload_n hx hb dX12_box_29 rfl (lv_at hl 2 rfl) ?_
    obtain ⟨g3, h⟩ := xgd h
    refine xa_i C hW KM_25 g3 (x := σ.1 25 x1.toNatClampNeg) rfl dX12_box_30 ?_
    refine lv_iload_n hx hb dX12_box_31 rfl (lv_at hl 0 rfl) ?_
    obtain ⟨r4_, e4, h⟩ := xbo h
    refine xc_V (As := [.int (σ.1 25 x1.toNatClampNeg), .int (σ.1 24 x1.toNatClampNeg)]) (rest := []) C hW (m_X12_shrunk (σ.1 25 x1.toNatClampNeg) (σ.1 24 x1.toNatClampNeg) _ e4) mf_X12_shrunk mv_X12_shrunk ml_X12_401 ⟨rfl, rfl⟩ ⟨Nat.le_of_ble_eq_true rfl, Nat.le_of_ble_eq_true rfl⟩ KM_0 rfl hl.1 rfl rfl (Nat.le_of_ble_eq_true rfl) dX12_box_32 (fun H locs hW => W.eq (g2 := F0 m 35 ls [.int r4_]) rfl ?_)
    refine lv_aload_n hx hb dX12_box_35 rfl (lv_at hl 1 rfl) ?_
    refine xg_r C hW fg_12_17 KM_0 rfl dX12_box_36 ?_
    refine lv_iconst (v := 1) hx hb dX12_box_39 rfl ?_
    obtain ⟨g5, h⟩ := xgd h
    refine xa_i C hW KM_2 g5 (x := σ.1 2 1) rfl dX12_box_40 ?_
    refine lv_aload_n hx hb dX12_box_41 rfl (lv_at hl 1 rfl) ?_
    refine lv_aload_n hx hb dX12_box_42 rfl (lv_at hl 1 rfl) ?_
    refine xg_r C hW fg_12_73 KM_0 rfl dX12_box_43 ?_
    refine lv_iload_n hx hb dX12_box_46 rfl (lv_at hl 0 rfl) ?_
    obtain ⟨g6, h⟩ := xgd h
    refine xa_i C hW KM_20 g6 (x := σ.1 20 (σ.1 24 x1.toNatClampNeg).toNatClampNeg) rfl dX12_box_47 ?_
    refine lv_iload_n hx hb dX12_box_48 rfl (lv_at hl 0 rfl) ?_
    obtain ⟨r7_, e7, h⟩ := xbo h
    refine xc_V (As := [.int (σ.1 20 (σ.1 24 x1.toNatClampNeg).toNatClampNeg), .int (σ.1 24 x1.toNatClampNeg)]) (rest := [.int (σ.1 2 1), .int r4_]) C hW (m_X12_shrunk (σ.1 20 (σ.1 24 x1.toNatClampNeg).toNatClampNeg) (σ.1 24 x1.toNatClampNeg) _ e7) mf_X12_shrunk mv_X12_shrunk ml_X12_401 ⟨rfl, rfl⟩ ⟨Nat.le_of_ble_eq_true rfl, Nat.le_of_ble_eq_true rfl⟩ KM_0 rfl hl.1 rfl rfl (Nat.le_of_ble_eq_true rfl) dX12_box_49 (fun H locs hW => W.eq (g2 := F0 m 52 ls [.int r7_, .int (σ.1 2 1), .int r4_]) rfl ?_)
    refine lv_isub hx hb dX12_box_52 ?_
    refine lv_iconst (v := 2) hx hb dX12_box_53 rfl ?_
    refine lv_idiv hx hb dX12_box_54 (by decide) ?_
    refine lv_iadd hx hb dX12_box_55 ?_
    refine lv_istore (lv' := [(4, .int (r4_ + (((σ.1 2 1) - r7_) / 2))), (3, .int (σ.1 24 x1.toNatClampNeg)), (0, .ref (g.q 0)), (1, .int x1), (2, .int x2)]) hx hb dX12_box_56 hl (Nat.le_of_ble_eq_true rfl) rfl (fun ls hl => ?_)
    refine lv_iload_n hx hb dX12_box_58 rfl (lv_at hl 4 rfl) ?_
    by_cases c9 : x2 = 0
    · have h := xit c9 h
      refine lv_tableIn (off := 37) (tgt := 96) hx hb dX12_box_59 (by rw [c9]; decide) (by rw [c9]; decide) (by rw [c9]; rfl) (by decide) ?_
      refine lv_aload_n hx hb dX12_box_96 rfl (lv_at hl 2 rfl) ?_
      refine xg_r C hW fg_12_82 KM_0 rfl dX12_box_97 ?_
      refine lv_iload_n hx hb dX12_box_100 rfl (lv_at hl 3 rfl) ?_
      obtain ⟨g10, h⟩ := xgd h
      refine xa_i C hW KM_23 g10 (x := σ.1 23 x1.toNatClampNeg) rfl dX12_box_101 ?_
      cases h
      exact xr_i C hW dX12_box_102
    · have h := xif c9 h
      by_cases c11 : x2 = 1
      · have h := xit c11 h
        refine lv_tableIn (off := 44) (tgt := 103) hx hb dX12_box_59 (by rw [c11]; decide) (by rw [c11]; decide) (by rw [c11]; rfl) (by decide) ?_
        refine lv_iload_n hx hb dX12_box_103 rfl (lv_at hl 1 rfl) ?_
        cases h
        exact xr_i C hW dX12_box_104
      · have h := xif c11 h
        by_cases c12 : x2 = 2
        · have h := xit c12 h
          refine lv_tableIn (off := 46) (tgt := 105) hx hb dX12_box_59 (by rw [c12]; decide) (by rw [c12]; decide) (by rw [c12]; rfl) (by decide) ?_
          refine lv_aload_n hx hb dX12_box_105 rfl (lv_at hl 2 rfl) ?_
          refine xg_i C hW fg_12_404 KM_0 rfl (v := 1048) rfl (x := σ.1 1048 0) rfl dX12_box_106 ?_
          refine lv_if_eq (tgt := 136) hx hb dX12_box_109 (by decide) (fun c13 => ?_) (fun c13 => ?_)
          · have h := xit c13 h
            refine lv_iload hx hb dX12_box_136 (lv_at hl 0 rfl) ?_
            cases h
            exact xr_i C hW dX12_box_138
          · have h := xif c13 h
            refine lv_aload_n hx hb dX12_box_112 rfl (lv_at hl 2 rfl) ?_
            refine xg_r C hW fg_12_17 KM_0 rfl dX12_box_113 ?_
            refine lv_iconst (v := 1) hx hb dX12_box_116 rfl ?_
            obtain ⟨g14, h⟩ := xgd h
            refine xa_i C hW KM_2 g14 (x := σ.1 2 1) rfl dX12_box_117 ?_
            refine lv_iload hx hb dX12_box_118 (lv_at hl 0 rfl) ?_
            refine lv_isub hx hb dX12_box_120 ?_
            refine lv_aload_n hx hb dX12_box_121 rfl (lv_at hl 2 rfl) ?_
            refine lv_aload_n hx hb dX12_box_122 rfl (lv_at hl 2 rfl) ?_
            refine xg_r C hW fg_12_94 KM_0 rfl dX12_box_123 ?_
            refine lv_iload_n hx hb dX12_box_126 rfl (lv_at hl 3 rfl) ?_
            obtain ⟨g15, h⟩ := xgd h
            refine xa_i C hW KM_27 g15 (x := σ.1 27 x1.toNatClampNeg) rfl dX12_box_127 ?_
            refine lv_iload_n hx hb dX12_box_128 rfl (lv_at hl 1 rfl) ?_
            obtain ⟨r16_, e16, h⟩ := xbo h
            refine xc_V (As := [.int (σ.1 27 x1.toNatClampNeg), .int (σ.1 24 x1.toNatClampNeg)]) (rest := [.int ((σ.1 2 1) - (r4_ + (((σ.1 2 1) - r7_) / 2)))]) C hW (m_X12_shrunk (σ.1 27 x1.toNatClampNeg) (σ.1 24 x1.toNatClampNeg) _ e16) mf_X12_shrunk mv_X12_shrunk ml_X12_401 ⟨rfl, rfl⟩ ⟨Nat.le_of_ble_eq_true rfl, Nat.le_of_ble_eq_true rfl⟩ KM_0 rfl hl.1 rfl rfl (Nat.le_of_ble_eq_true rfl) dX12_box_129 (fun H locs hW => W.eq (g2 := F0 m 132 ls [.int r16_, .int ((σ.1 2 1) - (r4_ + (((σ.1 2 1) - r7_) / 2)))]) rfl ?_)
            refine lv_isub hx hb dX12_box_132 ?_
            refine lv_goto (tgt := 138) hx hb dX12_box_133 (by decide) ?_
            cases h
            exact xr_i C hW dX12_box_138
        · have h := xif c12 h
          by_cases c17 : x2 = 3
          · have h := xit c17 h
            refine lv_tableIn (off := 80) (tgt := 139) hx hb dX12_box_59 (by rw [c17]; decide) (by rw [c17]; decide) (by rw [c17]; rfl) (by decide) ?_
            refine lv_aload_n hx hb dX12_box_139 rfl (lv_at hl 2 rfl) ?_
            refine lv_aload_n hx hb dX12_box_140 rfl (lv_at hl 2 rfl) ?_
            refine xg_r C hW fg_12_91 KM_0 rfl dX12_box_141 ?_
            refine lv_iload_n hx hb dX12_box_144 rfl (lv_at hl 3 rfl) ?_
            obtain ⟨g18, h⟩ := xgd h
            refine xa_i C hW KM_26 g18 (x := σ.1 26 x1.toNatClampNeg) rfl dX12_box_145 ?_
            refine lv_iload_n hx hb dX12_box_146 rfl (lv_at hl 1 rfl) ?_
            obtain ⟨r19_, e19, h⟩ := xbo h
            refine xc_V (As := [.int (σ.1 26 x1.toNatClampNeg), .int (σ.1 24 x1.toNatClampNeg)]) (rest := []) C hW (m_X12_shrunk (σ.1 26 x1.toNatClampNeg) (σ.1 24 x1.toNatClampNeg) _ e19) mf_X12_shrunk mv_X12_shrunk ml_X12_401 ⟨rfl, rfl⟩ ⟨Nat.le_of_ble_eq_true rfl, Nat.le_of_ble_eq_true rfl⟩ KM_0 rfl hl.1 rfl rfl (Nat.le_of_ble_eq_true rfl) dX12_box_147 (fun H locs hW => W.eq (g2 := F0 m 150 ls [.int r19_]) rfl ?_)
            refine lv_aload_n hx hb dX12_box_150 rfl (lv_at hl 2 rfl) ?_
            refine xg_r C hW fg_12_17 KM_0 rfl dX12_box_151 ?_
            refine lv_iconst (v := 1) hx hb dX12_box_154 rfl ?_
            obtain ⟨g20, h⟩ := xgd h
            refine xa_i C hW KM_2 g20 (x := σ.1 2 1) rfl dX12_box_155 ?_
            refine lv_aload_n hx hb dX12_box_156 rfl (lv_at hl 2 rfl) ?_
            refine lv_aload_n hx hb dX12_box_157 rfl (lv_at hl 2 rfl) ?_
            refine xg_r C hW fg_12_76 KM_0 rfl dX12_box_158 ?_
            refine lv_iload_n hx hb dX12_box_161 rfl (lv_at hl 1 rfl) ?_
            obtain ⟨g21, h⟩ := xgd h
            refine xa_i C hW KM_21 g21 (x := σ.1 21 (σ.1 24 x1.toNatClampNeg).toNatClampNeg) rfl dX12_box_162 ?_
            refine lv_iload_n hx hb dX12_box_163 rfl (lv_at hl 1 rfl) ?_
            obtain ⟨r22_, e22, h⟩ := xbo h
            refine xc_V (As := [.int (σ.1 21 (σ.1 24 x1.toNatClampNeg).toNatClampNeg), .int (σ.1 24 x1.toNatClampNeg)]) (rest := [.int (σ.1 2 1), .int r19_]) C hW (m_X12_shrunk (σ.1 21 (σ.1 24 x1.toNatClampNeg).toNatClampNeg) (σ.1 24 x1.toNatClampNeg) _ e22) mf_X12_shrunk mv_X12_shrunk ml_X12_401 ⟨rfl, rfl⟩ ⟨Nat.le_of_ble_eq_true rfl, Nat.le_of_ble_eq_true rfl⟩ KM_0 rfl hl.1 rfl rfl (Nat.le_of_ble_eq_true rfl) dX12_box_164 (fun H locs hW => W.eq (g2 := F0 m 167 ls [.int r22_, .int (σ.1 2 1), .int r19_]) rfl ?_)
            refine lv_isub hx hb dX12_box_167 ?_
            refine lv_iconst (v := 2) hx hb dX12_box_168 rfl ?_
            refine lv_idiv hx hb dX12_box_169 (by decide) ?_
            refine lv_iadd hx hb dX12_box_170 ?_
            cases h
            exact xr_i C hW dX12_box_171
          · have h := xif c17 h
            by_cases c24 : x2 = 4
            · have h := xit c24 h
              refine lv_tableIn (off := 113) (tgt := 172) hx hb dX12_box_59 (by rw [c24]; decide) (by rw [c24]; decide) (by rw [c24]; rfl) (by decide) ?_
              refine lv_aload_n hx hb dX12_box_172 rfl (lv_at hl 2 rfl) ?_
              refine lv_aload_n hx hb dX12_box_173 rfl (lv_at hl 2 rfl) ?_
              refine xg_r C hW fg_12_94 KM_0 rfl dX12_box_174 ?_
              refine lv_iload_n hx hb dX12_box_177 rfl (lv_at hl 3 rfl) ?_
              obtain ⟨g25, h⟩ := xgd h
              refine xa_i C hW KM_27 g25 (x := σ.1 27 x1.toNatClampNeg) rfl dX12_box_178 ?_
              refine lv_iload_n hx hb dX12_box_179 rfl (lv_at hl 1 rfl) ?_
              obtain ⟨r26_, e26, h⟩ := xbo h
              refine xc_V (As := [.int (σ.1 27 x1.toNatClampNeg), .int (σ.1 24 x1.toNatClampNeg)]) (rest := []) C hW (m_X12_shrunk (σ.1 27 x1.toNatClampNeg) (σ.1 24 x1.toNatClampNeg) _ e26) mf_X12_shrunk mv_X12_shrunk ml_X12_401 ⟨rfl, rfl⟩ ⟨Nat.le_of_ble_eq_true rfl, Nat.le_of_ble_eq_true rfl⟩ KM_0 rfl hl.1 rfl rfl (Nat.le_of_ble_eq_true rfl) dX12_box_180 (fun H locs hW => W.eq (g2 := F0 m 183 ls [.int r26_]) rfl ?_)
              cases h
              exact xr_i C hW dX12_box_183
            · have h := xif c24 h
              by_cases c27 : x2 = 5
              · have h := xit c27 h
                refine lv_tableIn (off := 125) (tgt := 184) hx hb dX12_box_59 (by rw [c27]; decide) (by rw [c27]; decide) (by rw [c27]; rfl) (by decide) ?_
                refine lv_aload_n hx hb dX12_box_184 rfl (lv_at hl 2 rfl) ?_
                refine lv_aload_n hx hb dX12_box_185 rfl (lv_at hl 2 rfl) ?_
                refine xg_r C hW fg_12_97 KM_0 rfl dX12_box_186 ?_
                refine lv_iload_n hx hb dX12_box_189 rfl (lv_at hl 3 rfl) ?_
                obtain ⟨g28, h⟩ := xgd h
                refine xa_i C hW KM_28 g28 (x := σ.1 28 x1.toNatClampNeg) rfl dX12_box_190 ?_
                refine lv_iload_n hx hb dX12_box_191 rfl (lv_at hl 1 rfl) ?_
                obtain ⟨r29_, e29, h⟩ := xbo h
                refine xc_V (As := [.int (σ.1 28 x1.toNatClampNeg), .int (σ.1 24 x1.toNatClampNeg)]) (rest := []) C hW (m_X12_shrunk (σ.1 28 x1.toNatClampNeg) (σ.1 24 x1.toNatClampNeg) _ e29) mf_X12_shrunk mv_X12_shrunk ml_X12_401 ⟨rfl, rfl⟩ ⟨Nat.le_of_ble_eq_true rfl, Nat.le_of_ble_eq_true rfl⟩ KM_0 rfl hl.1 rfl rfl (Nat.le_of_ble_eq_true rfl) dX12_box_192 (fun H locs hW => W.eq (g2 := F0 m 195 ls [.int r29_]) rfl ?_)
                cases h
                exact xr_i C hW dX12_box_195
              · have h := xif c27 h
                refine lv_tableOut (tgt := 196) hx hb dX12_box_59 (xsw_out (fun k h1 h2 => ?_)) (by decide) ?_
                · rcases (show k = 0 ∨ k = 1 ∨ k = 2 ∨ k = 3 ∨ k = 4 ∨ k = 5 by omega) with rfl | rfl | rfl | rfl | rfl | rfl
                  · exact c9
                  · exact c11
                  · exact c12
                  · exact c17
                  · exact c24
                  · exact c27
                · refine lv_bipush (v := (-9)) hx hb dX12_box_196 rfl ?_
                  cases h
                  exact xr_i C hW dX12_box_198
  · have h := xit c1 h
    refine lv_bipush (v := (-9)) hx hb dX12_box_14 rfl ?_
    cases h
    exact xr_i C hW dX12_box_16
end
theorem dX12_face_0 : decode cX12_face 0 = .ok (.aload_n 0, 1) := by decide +kernel
theorem dX12_face_1 : decode cX12_face 1 = .ok (.getfield 404, 3) := by decide +kernel
theorem dX12_face_4 : decode cX12_face 4 = .ok (.istore_n 2, 1) := by decide +kernel
theorem dX12_face_5 : decode cX12_face 5 = .ok (.aload_n 0, 1) := by decide +kernel
theorem dX12_face_6 : decode cX12_face 6 = .ok (.iload_n 1, 1) := by decide +kernel
theorem dX12_face_7 : decode cX12_face 7 = .ok (.putfield 404, 3) := by decide +kernel
theorem dX12_face_10 : decode cX12_face 10 = .ok (.iload_n 2, 1) := by decide +kernel
theorem dX12_face_11 : decode cX12_face 11 = .ok (.iload_n 1, 1) := by decide +kernel
theorem dX12_face_12 : decode cX12_face 12 = .ok (.if_icmp .eq 7, 3) := by decide +kernel
theorem dX12_face_15 : decode cX12_face 15 = .ok (.iconst 1, 1) := by decide +kernel
theorem dX12_face_16 : decode cX12_face 16 = .ok (.goto 4, 3) := by decide +kernel
theorem dX12_face_19 : decode cX12_face 19 = .ok (.iconst 0, 1) := by decide +kernel
theorem dX12_face_20 : decode cX12_face 20 = .ok (.ireturn, 1) := by decide +kernel
abbrev rm_X12_face : Room := { frames := 0, cells := 0, slots := 0, locals := 0 }
def f_X12_face (x1 : Int32) (σ : St) : Option (Int32 × St) := grd (zbb x1) ((if (σ.1 1048 0) = x1 then some (0, (si σ 1048 0 x1)) else some (1, (si σ 1048 0 x1))))
section
variable {p : Program} {l : Launch} {e : Env} {s : State} {m : MethodId} {args : Array Value} {below : List Frame} {meth : Method} {c : Code} {g : XG}
set_option maxRecDepth 4000 in
theorem m_X12_face (x1 : Int32) (σ : St) {r : Int32} {σ' : St} (h : f_X12_face x1 σ = some (r, σ')) : xM l KM g yX12_face cX12_face 3 (some .int) rm_X12_face [.ref (g.q 0), .int x1] σ (some (.int r)) σ' := by
  refine xmet pn_X12 rfl (Nat.le_of_ble_eq_true rfl) (lv := [(0, .ref (g.q 0)), (1, .int x1)]) rfl (fun p e s m args below meth c ls C hW hl => ?_)
  have hx := C.1
  have hb := C.2.1
  unfold f_X12_face at h
  refine lv_aload_n hx hb dX12_face_0 rfl (lv_at hl 0 rfl) ?_
  refine xg_i C hW fg_12_404 KM_0 rfl (v := 1048) rfl (x := σ.1 1048 0) rfl dX12_face_1 ?_
  refine lv_istore_n (lv' := [(2, .int (σ.1 1048 0)), (0, .ref (g.q 0)), (1, .int x1)]) hx hb dX12_face_4 rfl hl (Nat.le_of_ble_eq_true rfl) rfl (fun ls hl => ?_)
  refine lv_aload_n hx hb dX12_face_5 rfl (lv_at hl 1 rfl) ?_
  refine lv_iload_n hx hb dX12_face_6 rfl (lv_at hl 2 rfl) ?_
  obtain ⟨g1, h⟩ := xgd h
  refine xp_i C hW fp_12_404 KM_0 rfl (v := 1048) rfl (zbb_n g1) (zbb_f g1) dX12_face_7 (fun H locs hW => ?_)
  refine lv_iload_n hx hb dX12_face_10 rfl (lv_at hl 0 rfl) ?_
  refine lv_iload_n hx hb dX12_face_11 rfl (lv_at hl 2 rfl) ?_
  refine lv_icmp_eq (tgt := 19) hx hb dX12_face_12 (by decide) (fun c2 => ?_) (fun c2 => ?_)
  · have h := xit c2 h
    refine lv_iconst (v := 0) hx hb dX12_face_19 rfl ?_
    cases h
    exact xr_i C hW dX12_face_20
  · have h := xif c2 h
    refine lv_iconst (v := 1) hx hb dX12_face_15 rfl ?_
    refine lv_goto (tgt := 20) hx hb dX12_face_16 (by decide) ?_
    cases h
    exact xr_i C hW dX12_face_20
end
theorem dX12_term_0 : decode cX12_term 0 = .ok (.aload_n 0, 1) := by decide +kernel
theorem dX12_term_1 : decode cX12_term 1 = .ok (.invokevirtual 320, 3) := by decide +kernel
theorem dX12_term_4 : decode cX12_term 4 = .ok (.aload_n 0, 1) := by decide +kernel
theorem dX12_term_5 : decode cX12_term 5 = .ok (.getfield 264, 3) := by decide +kernel
theorem dX12_term_8 : decode cX12_term 8 = .ok (.iconst 1, 1) := by decide +kernel
theorem dX12_term_9 : decode cX12_term 9 = .ok (.if_icmp .eq 5, 3) := by decide +kernel
theorem dX12_term_12 : decode cX12_term 12 = .ok (.iconst (-1), 1) := by decide +kernel
theorem dX12_term_13 : decode cX12_term 13 = .ok (.ireturn, 1) := by decide +kernel
theorem dX12_term_14 : decode cX12_term 14 = .ok (.aload_n 0, 1) := by decide +kernel
theorem dX12_term_15 : decode cX12_term 15 = .ok (.getfield 271, 3) := by decide +kernel
theorem dX12_term_18 : decode cX12_term 18 = .ok (.lstore_n 1, 1) := by decide +kernel
theorem dX12_term_19 : decode cX12_term 19 = .ok (.aload_n 0, 1) := by decide +kernel
theorem dX12_term_20 : decode cX12_term 20 = .ok (.invokevirtual 239, 3) := by decide +kernel
theorem dX12_term_23 : decode cX12_term 23 = .ok (.aload_n 0, 1) := by decide +kernel
theorem dX12_term_24 : decode cX12_term 24 = .ok (.invokevirtual 310, 3) := by decide +kernel
theorem dX12_term_27 : decode cX12_term 27 = .ok (.ifCond .eq 17, 3) := by decide +kernel
theorem dX12_term_30 : decode cX12_term 30 = .ok (.aload_n 0, 1) := by decide +kernel
theorem dX12_term_31 : decode cX12_term 31 = .ok (.getfield 236, 3) := by decide +kernel
theorem dX12_term_34 : decode cX12_term 34 = .ok (.aload_n 0, 1) := by decide +kernel
theorem dX12_term_35 : decode cX12_term 35 = .ok (.getfield 258, 3) := by decide +kernel
theorem dX12_term_38 : decode cX12_term 38 = .ok (.isub, 1) := by decide +kernel
theorem dX12_term_39 : decode cX12_term 39 = .ok (.bipush 8, 2) := by decide +kernel
theorem dX12_term_41 : decode cX12_term 41 = .ok (.if_icmp .le 5, 3) := by decide +kernel
theorem dX12_term_44 : decode cX12_term 44 = .ok (.iconst (-1), 1) := by decide +kernel
theorem dX12_term_45 : decode cX12_term 45 = .ok (.ireturn, 1) := by decide +kernel
theorem dX12_term_46 : decode cX12_term 46 = .ok (.aload_n 0, 1) := by decide +kernel
theorem dX12_term_47 : decode cX12_term 47 = .ok (.getfield 258, 3) := by decide +kernel
theorem dX12_term_50 : decode cX12_term 50 = .ok (.istore_n 3, 1) := by decide +kernel
theorem dX12_term_51 : decode cX12_term 51 = .ok (.aload_n 0, 1) := by decide +kernel
theorem dX12_term_52 : decode cX12_term 52 = .ok (.getfield 236, 3) := by decide +kernel
theorem dX12_term_55 : decode cX12_term 55 = .ok (.aload_n 0, 1) := by decide +kernel
theorem dX12_term_56 : decode cX12_term 56 = .ok (.getfield 258, 3) := by decide +kernel
theorem dX12_term_59 : decode cX12_term 59 = .ok (.isub, 1) := by decide +kernel
theorem dX12_term_60 : decode cX12_term 60 = .ok (.istore 4, 2) := by decide +kernel
theorem dX12_term_62 : decode cX12_term 62 = .ok (.aload_n 0, 1) := by decide +kernel
theorem dX12_term_63 : decode cX12_term 63 = .ok (.invokevirtual 239, 3) := by decide +kernel
theorem dX12_term_66 : decode cX12_term 66 = .ok (.lconst 0, 1) := by decide +kernel
theorem dX12_term_67 : decode cX12_term 67 = .ok (.lstore 5, 2) := by decide +kernel
theorem dX12_term_69 : decode cX12_term 69 = .ok (.aload_n 0, 1) := by decide +kernel
theorem dX12_term_70 : decode cX12_term 70 = .ok (.getfield 264, 3) := by decide +kernel
theorem dX12_term_73 : decode cX12_term 73 = .ok (.iconst 1, 1) := by decide +kernel
theorem dX12_term_74 : decode cX12_term 74 = .ok (.if_icmp .ne 13, 3) := by decide +kernel
theorem dX12_term_77 : decode cX12_term 77 = .ok (.aload_n 0, 1) := by decide +kernel
theorem dX12_term_78 : decode cX12_term 78 = .ok (.getfield 271, 3) := by decide +kernel
theorem dX12_term_81 : decode cX12_term 81 = .ok (.lstore 5, 2) := by decide +kernel
theorem dX12_term_83 : decode cX12_term 83 = .ok (.aload_n 0, 1) := by decide +kernel
theorem dX12_term_84 : decode cX12_term 84 = .ok (.invokevirtual 239, 3) := by decide +kernel
theorem dX12_term_87 : decode cX12_term 87 = .ok (.aload_n 0, 1) := by decide +kernel
theorem dX12_term_88 : decode cX12_term 88 = .ok (.getfield 264, 3) := by decide +kernel
theorem dX12_term_91 : decode cX12_term 91 = .ok (.bipush 10, 2) := by decide +kernel
theorem dX12_term_93 : decode cX12_term 93 = .ok (.if_icmp .eq 5, 3) := by decide +kernel
theorem dX12_term_96 : decode cX12_term 96 = .ok (.iconst (-1), 1) := by decide +kernel
theorem dX12_term_97 : decode cX12_term 97 = .ok (.ireturn, 1) := by decide +kernel
theorem dX12_term_98 : decode cX12_term 98 = .ok (.iconst 0, 1) := by decide +kernel
theorem dX12_term_99 : decode cX12_term 99 = .ok (.istore 7, 2) := by decide +kernel
theorem dX12_term_101 : decode cX12_term 101 = .ok (.iload 7, 2) := by decide +kernel
theorem dX12_term_103 : decode cX12_term 103 = .ok (.aload_n 0, 1) := by decide +kernel
theorem dX12_term_104 : decode cX12_term 104 = .ok (.getfield 408, 3) := by decide +kernel
theorem dX12_term_107 : decode cX12_term 107 = .ok (.if_icmp .ge 24, 3) := by decide +kernel
theorem dX12_term_110 : decode cX12_term 110 = .ok (.aload_n 0, 1) := by decide +kernel
theorem dX12_term_111 : decode cX12_term 111 = .ok (.getfield 103, 3) := by decide +kernel
theorem dX12_term_114 : decode cX12_term 114 = .ok (.iload 7, 2) := by decide +kernel
theorem dX12_term_116 : decode cX12_term 116 = .ok (.laload, 1) := by decide +kernel
theorem dX12_term_117 : decode cX12_term 117 = .ok (.lload_n 1, 1) := by decide +kernel
theorem dX12_term_118 : decode cX12_term 118 = .ok (.lcmp, 1) := by decide +kernel
theorem dX12_term_119 : decode cX12_term 119 = .ok (.ifCond .ne 6, 3) := by decide +kernel
theorem dX12_term_122 : decode cX12_term 122 = .ok (.bipush (-4), 2) := by decide +kernel
theorem dX12_term_124 : decode cX12_term 124 = .ok (.ireturn, 1) := by decide +kernel
theorem dX12_term_125 : decode cX12_term 125 = .ok (.iinc 7 1, 3) := by decide +kernel
theorem dX12_term_128 : decode cX12_term 128 = .ok (.goto (-27), 3) := by decide +kernel
theorem dX12_term_131 : decode cX12_term 131 = .ok (.aload_n 0, 1) := by decide +kernel
theorem dX12_term_132 : decode cX12_term 132 = .ok (.getfield 408, 3) := by decide +kernel
theorem dX12_term_135 : decode cX12_term 135 = .ok (.bipush 40, 2) := by decide +kernel
theorem dX12_term_137 : decode cX12_term 137 = .ok (.if_icmp .ne 6, 3) := by decide +kernel
theorem dX12_term_140 : decode cX12_term 140 = .ok (.bipush (-3), 2) := by decide +kernel
theorem dX12_term_142 : decode cX12_term 142 = .ok (.ireturn, 1) := by decide +kernel
theorem dX12_term_143 : decode cX12_term 143 = .ok (.aload_n 0, 1) := by decide +kernel
theorem dX12_term_144 : decode cX12_term 144 = .ok (.getfield 103, 3) := by decide +kernel
theorem dX12_term_147 : decode cX12_term 147 = .ok (.aload_n 0, 1) := by decide +kernel
theorem dX12_term_148 : decode cX12_term 148 = .ok (.getfield 408, 3) := by decide +kernel
theorem dX12_term_151 : decode cX12_term 151 = .ok (.lload_n 1, 1) := by decide +kernel
theorem dX12_term_152 : decode cX12_term 152 = .ok (.lastore, 1) := by decide +kernel
theorem dX12_term_153 : decode cX12_term 153 = .ok (.aload_n 0, 1) := by decide +kernel
theorem dX12_term_154 : decode cX12_term 154 = .ok (.getfield 106, 3) := by decide +kernel
theorem dX12_term_157 : decode cX12_term 157 = .ok (.aload_n 0, 1) := by decide +kernel
theorem dX12_term_158 : decode cX12_term 158 = .ok (.getfield 408, 3) := by decide +kernel
theorem dX12_term_161 : decode cX12_term 161 = .ok (.iload 4, 2) := by decide +kernel
theorem dX12_term_163 : decode cX12_term 163 = .ok (.iastore, 1) := by decide +kernel
theorem dX12_term_164 : decode cX12_term 164 = .ok (.iconst 0, 1) := by decide +kernel
theorem dX12_term_165 : decode cX12_term 165 = .ok (.istore 7, 2) := by decide +kernel
theorem dX12_term_167 : decode cX12_term 167 = .ok (.iload 7, 2) := by decide +kernel
theorem dX12_term_169 : decode cX12_term 169 = .ok (.iload 4, 2) := by decide +kernel
theorem dX12_term_171 : decode cX12_term 171 = .ok (.if_icmp .ge 35, 3) := by decide +kernel
theorem dX12_term_174 : decode cX12_term 174 = .ok (.aload_n 0, 1) := by decide +kernel
theorem dX12_term_175 : decode cX12_term 175 = .ok (.getfield 109, 3) := by decide +kernel
theorem dX12_term_178 : decode cX12_term 178 = .ok (.bipush 8, 2) := by decide +kernel
theorem dX12_term_180 : decode cX12_term 180 = .ok (.aload_n 0, 1) := by decide +kernel
theorem dX12_term_181 : decode cX12_term 181 = .ok (.getfield 408, 3) := by decide +kernel
theorem dX12_term_184 : decode cX12_term 184 = .ok (.imul, 1) := by decide +kernel
theorem dX12_term_185 : decode cX12_term 185 = .ok (.iload 7, 2) := by decide +kernel
theorem dX12_term_187 : decode cX12_term 187 = .ok (.iadd, 1) := by decide +kernel
theorem dX12_term_188 : decode cX12_term 188 = .ok (.aload_n 0, 1) := by decide +kernel
theorem dX12_term_189 : decode cX12_term 189 = .ok (.iload_n 3, 1) := by decide +kernel
theorem dX12_term_190 : decode cX12_term 190 = .ok (.iload 7, 2) := by decide +kernel
theorem dX12_term_192 : decode cX12_term 192 = .ok (.iadd, 1) := by decide +kernel
theorem dX12_term_193 : decode cX12_term 193 = .ok (.invokevirtual 254, 3) := by decide +kernel
theorem dX12_term_196 : decode cX12_term 196 = .ok (.bipush 97, 2) := by decide +kernel
theorem dX12_term_198 : decode cX12_term 198 = .ok (.isub, 1) := by decide +kernel
theorem dX12_term_199 : decode cX12_term 199 = .ok (.iastore, 1) := by decide +kernel
theorem dX12_term_200 : decode cX12_term 200 = .ok (.iinc 7 1, 3) := by decide +kernel
theorem dX12_term_203 : decode cX12_term 203 = .ok (.goto (-36), 3) := by decide +kernel
theorem dX12_term_206 : decode cX12_term 206 = .ok (.aload_n 0, 1) := by decide +kernel
theorem dX12_term_207 : decode cX12_term 207 = .ok (.getfield 112, 3) := by decide +kernel
theorem dX12_term_210 : decode cX12_term 210 = .ok (.aload_n 0, 1) := by decide +kernel
theorem dX12_term_211 : decode cX12_term 211 = .ok (.getfield 408, 3) := by decide +kernel
theorem dX12_term_214 : decode cX12_term 214 = .ok (.lload 5, 2) := by decide +kernel
theorem dX12_term_216 : decode cX12_term 216 = .ok (.lastore, 1) := by decide +kernel
theorem dX12_term_217 : decode cX12_term 217 = .ok (.aload_n 0, 1) := by decide +kernel
theorem dX12_term_218 : decode cX12_term 218 = .ok (.dup, 1) := by decide +kernel
theorem dX12_term_219 : decode cX12_term 219 = .ok (.getfield 408, 3) := by decide +kernel
theorem dX12_term_222 : decode cX12_term 222 = .ok (.iconst 1, 1) := by decide +kernel
theorem dX12_term_223 : decode cX12_term 223 = .ok (.iadd, 1) := by decide +kernel
theorem dX12_term_224 : decode cX12_term 224 = .ok (.putfield 408, 3) := by decide +kernel
theorem dX12_term_227 : decode cX12_term 227 = .ok (.aload_n 0, 1) := by decide +kernel
theorem dX12_term_228 : decode cX12_term 228 = .ok (.getfield 408, 3) := by decide +kernel
theorem dX12_term_231 : decode cX12_term 231 = .ok (.iconst 1, 1) := by decide +kernel
theorem dX12_term_232 : decode cX12_term 232 = .ok (.isub, 1) := by decide +kernel
theorem dX12_term_233 : decode cX12_term 233 = .ok (.ireturn, 1) := by decide +kernel
abbrev rm_X12_term : Room := { frames := 7, cells := 0, slots := 0, locals := 190 }
def f_X12_term_167 (N : Nat) : Nat → Int32 → Int32 → Int64 → Int32 → St → Option (Int32 × St)
  | 0, _, _, _, _, _ => none
  | n + 1, x3, x4, x5, x7, σ => (if x4 ≤ x7 then grd (ib (σ.1 1049 0) 40) (some (((σ.1 1049 0) + 1) - 1, (si (sl σ 33 (σ.1 1049 0).toNatClampNeg x5) 1049 0 ((σ.1 1049 0) + 1)))) else bo (f_X12_see (x3 + x7) σ) (fun r19_ => grd (ib ((8 * (σ.1 1049 0)) + x7) 320) (f_X12_term_167 N n x3 x4 x5 (x7 + 1) (si σ 32 ((8 * (σ.1 1049 0)) + x7).toNatClampNeg (r19_ - 97)))))
def f_X12_term_101 (N : Nat) : Nat → Int64 → Int32 → Int32 → Int64 → Int32 → St → Option (Int32 × St)
  | 0, _, _, _, _, _, _ => none
  | n + 1, x1, x3, x4, x5, x7, σ => (if (σ.1 1049 0) ≤ x7 then (if (σ.1 1049 0) = 40 then some ((-3), σ) else grd (ib (σ.1 1049 0) 40) (grd (ib (σ.1 1049 0) 40) (f_X12_term_167 N N x3 x4 x5 0 (si (sl σ 30 (σ.1 1049 0).toNatClampNeg x1) 31 (σ.1 1049 0).toNatClampNeg x4)))) else grd (ib x7 40) ((if (lg_cmp (σ.2 30 x7.toNatClampNeg) x1) = 0 then some ((-4), σ) else f_X12_term_101 N n x1 x3 x4 x5 (x7 + 1) σ)))
def f_X12_term_87 (N : Nat) (x1 : Int64) (x3 : Int32) (x4 : Int32) (x5 : Int64) (σ : St) : Option (Int32 × St) := (if (σ.1 1003 0) = 10 then f_X12_term_101 N N x1 x3 x4 x5 0 σ else some ((-1), σ))
def f_X12_term (N : Nat) (σ : St) : Option (Int32 × St) := bo (f_X12_take N σ) (fun σ1 => (if (σ1.1 1003 0) = 1 then bo (f_X12_scan N σ1) (fun σ3 => bo (f_X12_isRow N σ3) (fun r4_ => (if r4_ = 0 then some ((-1), σ3) else (if ((σ3.1 1006 0) - (σ3.1 1005 0)) ≤ 8 then bo (f_X12_scan N σ3) (fun σ7 => (if (σ7.1 1003 0) = 1 then bo (f_X12_scan N σ7) (fun σ9 => f_X12_term_87 N (σ1.2 1010 0) (σ3.1 1005 0) ((σ3.1 1006 0) - (σ3.1 1005 0)) (σ7.2 1010 0) σ9) else f_X12_term_87 N (σ1.2 1010 0) (σ3.1 1005 0) ((σ3.1 1006 0) - (σ3.1 1005 0)) 0 σ7)) else some ((-1), σ3))))) else some ((-1), σ1)))
section
variable {p : Program} {l : Launch} {e : Env} {s : State} {m : MethodId} {args : Array Value} {below : List Frame} {meth : Method} {c : Code} {g : XG}
set_option maxRecDepth 4000 in
theorem w_X12_term_167 (N : Nat) {r : Int32} {σ' : St} (C : xC KM g RX12 cX12_term 8 (some .int) p s m args meth c) : ∀ (n : Nat), ∀ (x3 : Int32) (x4 : Int32) (x5 : Int64) (x7 : Int32) (σ : St) (H : Heap) (locs : List Loc) (ls : Array Slot), xW KM g s σ H locs → lv_has ls 8 [(0, .ref (g.q 0)), (3, .int x3), (4, .int x4), (5, .long x5), (7, .int x7)] → f_X12_term_167 N n x3 x4 x5 x7 σ = some (r, σ') → W p l e rm_X12_term s m args below meth c H locs 0 0 (MQ below (xPost KM g (some (.int r)) σ') args s 0 0 (xA KM g.q)) (F0 m 167 ls []) := by
  have hx := C.1
  have hb := C.2.1
  intro n
  induction n with
  | zero => intro x3 x4 x5 x7 σ H locs ls hW hl h; rw [f_X12_term_167] at h; cases h
  | succ n ih =>
    intro x3 x4 x5 x7 σ H locs ls hW hl h
    rw [f_X12_term_167] at h
    refine lv_iload hx hb dX12_term_167 (lv_at hl 4 rfl) ?_
    refine lv_iload hx hb dX12_term_169 (lv_at hl 2 rfl) ?_
    refine lv_icmp_ge (tgt := 206) hx hb dX12_term_171 (by decide) (fun c17 => ?_) (fun c17 => ?_)
    · have h := xit c17 h
      refine lv_aload_n hx hb dX12_term_206 rfl (lv_at hl 0 rfl) ?_
      refine xg_r C hW fg_12_112 KM_0 rfl dX12_term_207 ?_
      refine lv_aload_n hx hb dX12_term_210 rfl (lv_at hl 0 rfl) ?_
      refine xg_i C hW fg_12_408 KM_0 rfl (v := 1049) rfl (x := σ.1 1049 0) rfl dX12_term_211 ?_
      refine lv_lload hx hb dX12_term_214 (lv_at hl 3 rfl) ?_
      obtain ⟨g18, h⟩ := xgd h
      refine xs_l C hW KM_33 g18 dX12_term_216 (fun H locs hW => ?_)
      refine lv_aload_n hx hb dX12_term_217 rfl (lv_at hl 0 rfl) ?_
      refine lv_dup hx hb dX12_term_218 rfl ?_
      refine xg_i C hW fg_12_408 KM_0 rfl (v := 1049) rfl (x := σ.1 1049 0) rfl dX12_term_219 ?_
      refine lv_iconst (v := 1) hx hb dX12_term_222 rfl ?_
      refine lv_iadd hx hb dX12_term_223 ?_
      refine xp_i C hW fp_12_408 KM_0 rfl (v := 1049) rfl rfl rfl dX12_term_224 (fun H locs hW => ?_)
      refine lv_aload_n hx hb dX12_term_227 rfl (lv_at hl 0 rfl) ?_
      refine xg_i C hW fg_12_408 KM_0 rfl (v := 1049) rfl (x := (σ.1 1049 0) + 1) rfl dX12_term_228 ?_
      refine lv_iconst (v := 1) hx hb dX12_term_231 rfl ?_
      refine lv_isub hx hb dX12_term_232 ?_
      cases h
      exact xr_i C hW dX12_term_233
    · have h := xif c17 h
      refine lv_aload_n hx hb dX12_term_174 rfl (lv_at hl 0 rfl) ?_
      refine xg_r C hW fg_12_109 KM_0 rfl dX12_term_175 ?_
      refine lv_bipush (v := 8) hx hb dX12_term_178 rfl ?_
      refine lv_aload_n hx hb dX12_term_180 rfl (lv_at hl 0 rfl) ?_
      refine xg_i C hW fg_12_408 KM_0 rfl (v := 1049) rfl (x := σ.1 1049 0) rfl dX12_term_181 ?_
      refine lv_imul hx hb dX12_term_184 ?_
      refine lv_iload hx hb dX12_term_185 (lv_at hl 4 rfl) ?_
      refine lv_iadd hx hb dX12_term_187 ?_
      refine lv_aload_n hx hb dX12_term_188 rfl (lv_at hl 0 rfl) ?_
      refine lv_iload_n hx hb dX12_term_189 rfl (lv_at hl 1 rfl) ?_
      refine lv_iload hx hb dX12_term_190 (lv_at hl 4 rfl) ?_
      refine lv_iadd hx hb dX12_term_192 ?_
      obtain ⟨r19_, e19, h⟩ := xbo h
      refine xc_V (As := [.int (x3 + x7)]) (rest := [.int ((8 * (σ.1 1049 0)) + x7), .ref (g.q 32)]) C hW (m_X12_see (x3 + x7) _ e19) mf_X12_see mv_X12_see ml_X12_254 ⟨rfl, rfl⟩ ⟨Nat.le_of_ble_eq_true rfl, Nat.le_of_ble_eq_true rfl⟩ KM_0 rfl hl.1 rfl rfl (Nat.le_of_ble_eq_true rfl) dX12_term_193 (fun H locs hW => W.eq (g2 := F0 m 196 ls [.int r19_, .int ((8 * (σ.1 1049 0)) + x7), .ref (g.q 32)]) rfl ?_)
      refine lv_bipush (v := 97) hx hb dX12_term_196 rfl ?_
      refine lv_isub hx hb dX12_term_198 ?_
      obtain ⟨g20, h⟩ := xgd h
      refine xs_i C hW KM_32 g20 dX12_term_199 (fun H locs hW => ?_)
      refine lv_iinc (v := x7 + 1) (lv' := [(7, .int (x7 + 1)), (0, .ref (g.q 0)), (3, .int x3), (4, .int x4), (5, .long x5)]) hx hb dX12_term_200 hl (k := 4) rfl rfl (Nat.le_of_ble_eq_true rfl) rfl (fun ls hl => ?_)
      refine lv_goto (tgt := 167) hx hb dX12_term_203 (by decide) ?_
      exact ih x3 x4 x5 (x7 + 1) _ _ _ _ hW (lv_sub hl [1, 2, 3, 4, 0] rfl) h
set_option maxRecDepth 4000 in
theorem w_X12_term_101 (N : Nat) {r : Int32} {σ' : St} (C : xC KM g RX12 cX12_term 8 (some .int) p s m args meth c) : ∀ (n : Nat), ∀ (x1 : Int64) (x3 : Int32) (x4 : Int32) (x5 : Int64) (x7 : Int32) (σ : St) (H : Heap) (locs : List Loc) (ls : Array Slot), xW KM g s σ H locs → lv_has ls 8 [(0, .ref (g.q 0)), (1, .long x1), (3, .int x3), (4, .int x4), (5, .long x5), (7, .int x7)] → f_X12_term_101 N n x1 x3 x4 x5 x7 σ = some (r, σ') → W p l e rm_X12_term s m args below meth c H locs 0 0 (MQ below (xPost KM g (some (.int r)) σ') args s 0 0 (xA KM g.q)) (F0 m 101 ls []) := by
  have hx := C.1
  have hb := C.2.1
  intro n
  induction n with
  | zero => intro x1 x3 x4 x5 x7 σ H locs ls hW hl h; rw [f_X12_term_101] at h; cases h
  | succ n ih =>
    intro x1 x3 x4 x5 x7 σ H locs ls hW hl h
    rw [f_X12_term_101] at h
    refine lv_iload hx hb dX12_term_101 (lv_at hl 5 rfl) ?_
    refine lv_aload_n hx hb dX12_term_103 rfl (lv_at hl 0 rfl) ?_
    refine xg_i C hW fg_12_408 KM_0 rfl (v := 1049) rfl (x := σ.1 1049 0) rfl dX12_term_104 ?_
    refine lv_icmp_ge (tgt := 131) hx hb dX12_term_107 (by decide) (fun c11 => ?_) (fun c11 => ?_)
    · have h := xit c11 h
      refine lv_aload_n hx hb dX12_term_131 rfl (lv_at hl 0 rfl) ?_
      refine xg_i C hW fg_12_408 KM_0 rfl (v := 1049) rfl (x := σ.1 1049 0) rfl dX12_term_132 ?_
      refine lv_bipush (v := 40) hx hb dX12_term_135 rfl ?_
      refine lv_icmp_ne (tgt := 143) hx hb dX12_term_137 (by decide) (fun c12 => ?_) (fun c12 => ?_)
      · have h := xif c12 h
        refine lv_aload_n hx hb dX12_term_143 rfl (lv_at hl 0 rfl) ?_
        refine xg_r C hW fg_12_103 KM_0 rfl dX12_term_144 ?_
        refine lv_aload_n hx hb dX12_term_147 rfl (lv_at hl 0 rfl) ?_
        refine xg_i C hW fg_12_408 KM_0 rfl (v := 1049) rfl (x := σ.1 1049 0) rfl dX12_term_148 ?_
        refine lv_lload_n hx hb dX12_term_151 rfl (lv_at hl 1 rfl) ?_
        obtain ⟨g13, h⟩ := xgd h
        refine xs_l C hW KM_30 g13 dX12_term_152 (fun H locs hW => ?_)
        refine lv_aload_n hx hb dX12_term_153 rfl (lv_at hl 0 rfl) ?_
        refine xg_r C hW fg_12_106 KM_0 rfl dX12_term_154 ?_
        refine lv_aload_n hx hb dX12_term_157 rfl (lv_at hl 0 rfl) ?_
        refine xg_i C hW fg_12_408 KM_0 rfl (v := 1049) rfl (x := σ.1 1049 0) rfl dX12_term_158 ?_
        refine lv_iload hx hb dX12_term_161 (lv_at hl 3 rfl) ?_
        obtain ⟨g14, h⟩ := xgd h
        refine xs_i C hW KM_31 g14 dX12_term_163 (fun H locs hW => ?_)
        refine lv_iconst (v := 0) hx hb dX12_term_164 rfl ?_
        refine lv_istore (lv' := [(7, .int 0), (0, .ref (g.q 0)), (1, .long x1), (3, .int x3), (4, .int x4), (5, .long x5)]) hx hb dX12_term_165 hl (Nat.le_of_ble_eq_true rfl) rfl (fun ls hl => ?_)
        exact w_X12_term_167 N C N x3 x4 x5 0 _ _ _ _ hW (lv_sub hl [1, 3, 4, 5, 0] rfl) h
      · have h := xit c12 h
        refine lv_bipush (v := (-3)) hx hb dX12_term_140 rfl ?_
        cases h
        exact xr_i C hW dX12_term_142
    · have h := xif c11 h
      refine lv_aload_n hx hb dX12_term_110 rfl (lv_at hl 0 rfl) ?_
      refine xg_r C hW fg_12_103 KM_0 rfl dX12_term_111 ?_
      refine lv_iload hx hb dX12_term_114 (lv_at hl 5 rfl) ?_
      obtain ⟨g15, h⟩ := xgd h
      refine xa_l C hW KM_30 g15 (x := σ.2 30 x7.toNatClampNeg) rfl dX12_term_116 ?_
      refine lv_lload_n hx hb dX12_term_117 rfl (lv_at hl 1 rfl) ?_
      refine W.lcmp hx hb dX12_term_118 ?_
      refine lv_if_ne (tgt := 125) hx hb dX12_term_119 (by decide) (fun c16 => ?_) (fun c16 => ?_)
      · have h := xif c16 h
        refine lv_iinc (v := x7 + 1) (lv' := [(7, .int (x7 + 1)), (0, .ref (g.q 0)), (1, .long x1), (3, .int x3), (4, .int x4), (5, .long x5)]) hx hb dX12_term_125 hl (k := 5) rfl rfl (Nat.le_of_ble_eq_true rfl) rfl (fun ls hl => ?_)
        refine lv_goto (tgt := 101) hx hb dX12_term_128 (by decide) ?_
        exact ih x1 x3 x4 x5 (x7 + 1) _ _ _ _ hW (lv_sub hl [1, 2, 3, 4, 5, 0] rfl) h
      · have h := xit c16 h
        refine lv_bipush (v := (-4)) hx hb dX12_term_122 rfl ?_
        cases h
        exact xr_i C hW dX12_term_124
set_option maxRecDepth 4000 in
theorem w_X12_term_87 (N : Nat) {r : Int32} {σ' : St} (C : xC KM g RX12 cX12_term 8 (some .int) p s m args meth c) : ∀ (x1 : Int64) (x3 : Int32) (x4 : Int32) (x5 : Int64) (σ : St) (H : Heap) (locs : List Loc) (ls : Array Slot), xW KM g s σ H locs → lv_has ls 8 [(0, .ref (g.q 0)), (1, .long x1), (3, .int x3), (4, .int x4), (5, .long x5)] → f_X12_term_87 N x1 x3 x4 x5 σ = some (r, σ') → W p l e rm_X12_term s m args below meth c H locs 0 0 (MQ below (xPost KM g (some (.int r)) σ') args s 0 0 (xA KM g.q)) (F0 m 87 ls []) := by
  have hx := C.1
  have hb := C.2.1
  intro x1 x3 x4 x5 σ H locs ls hW hl h
  unfold f_X12_term_87 at h
  refine lv_aload_n hx hb dX12_term_87 rfl (lv_at hl 0 rfl) ?_
  refine xg_i C hW fg_12_264 KM_0 rfl (v := 1003) rfl (x := σ.1 1003 0) rfl dX12_term_88 ?_
  refine lv_bipush (v := 10) hx hb dX12_term_91 rfl ?_
  refine lv_icmp_eq (tgt := 98) hx hb dX12_term_93 (by decide) (fun c10 => ?_) (fun c10 => ?_)
  · have h := xit c10 h
    refine lv_iconst (v := 0) hx hb dX12_term_98 rfl ?_
    refine lv_istore (lv' := [(7, .int 0), (0, .ref (g.q 0)), (1, .long x1), (3, .int x3), (4, .int x4), (5, .long x5)]) hx hb dX12_term_99 hl (Nat.le_of_ble_eq_true rfl) rfl (fun ls hl => ?_)
    exact w_X12_term_101 N C N x1 x3 x4 x5 0 _ _ _ _ hW (lv_sub hl [1, 2, 3, 4, 5, 0] rfl) h
  · have h := xif c10 h
    refine lv_iconst (v := (-1)) hx hb dX12_term_96 rfl ?_
    cases h
    exact xr_i C hW dX12_term_97
set_option maxRecDepth 4000 in
theorem m_X12_term (N : Nat) (σ : St) {r : Int32} {σ' : St} (h : f_X12_term N σ = some (r, σ')) : xM l KM g yX12_term cX12_term 8 (some .int) rm_X12_term [.ref (g.q 0)] σ (some (.int r)) σ' := by
  refine xmet pn_X12 rfl (Nat.le_of_ble_eq_true rfl) (lv := [(0, .ref (g.q 0))]) rfl (fun p e s m args below meth c ls C hW hl => ?_)
  have hx := C.1
  have hb := C.2.1
  unfold f_X12_term at h
  refine lv_aload_n hx hb dX12_term_0 rfl (lv_at hl 0 rfl) ?_
  obtain ⟨σ1, e1, h⟩ := xbo h
  refine xc_V (As := []) (rest := []) C hW (m_X12_take N _ e1) mf_X12_take mv_X12_take ml_X12_320 ⟨rfl, rfl⟩ ⟨Nat.le_of_ble_eq_true rfl, Nat.le_of_ble_eq_true rfl⟩ KM_0 rfl hl.1 rfl rfl (Nat.le_of_ble_eq_true rfl) dX12_term_1 (fun H locs hW => W.eq (g2 := F0 m 4 ls []) rfl ?_)
  refine lv_aload_n hx hb dX12_term_4 rfl (lv_at hl 0 rfl) ?_
  refine xg_i C hW fg_12_264 KM_0 rfl (v := 1003) rfl (x := σ1.1 1003 0) rfl dX12_term_5 ?_
  refine lv_iconst (v := 1) hx hb dX12_term_8 rfl ?_
  refine lv_icmp_eq (tgt := 14) hx hb dX12_term_9 (by decide) (fun c2 => ?_) (fun c2 => ?_)
  · have h := xit c2 h
    refine lv_aload_n hx hb dX12_term_14 rfl (lv_at hl 0 rfl) ?_
    refine xg_l C hW fg_12_271 KM_0 rfl (v := 1010) rfl (x := σ1.2 1010 0) rfl dX12_term_15 ?_
    refine lv_lstore_n (lv' := [(1, .long (σ1.2 1010 0)), (0, .ref (g.q 0))]) hx hb dX12_term_18 rfl hl (Nat.le_of_ble_eq_true rfl) rfl (fun ls hl => ?_)
    refine lv_aload_n hx hb dX12_term_19 rfl (lv_at hl 1 rfl) ?_
    obtain ⟨σ3, e3, h⟩ := xbo h
    refine xc_V (As := []) (rest := []) C hW (m_X12_scan N _ e3) mf_X12_scan mv_X12_scan ml_X12_239 ⟨rfl, rfl⟩ ⟨Nat.le_of_ble_eq_true rfl, Nat.le_of_ble_eq_true rfl⟩ KM_0 rfl hl.1 rfl rfl (Nat.le_of_ble_eq_true rfl) dX12_term_20 (fun H locs hW => W.eq (g2 := F0 m 23 ls []) rfl ?_)
    refine lv_aload_n hx hb dX12_term_23 rfl (lv_at hl 1 rfl) ?_
    obtain ⟨r4_, e4, h⟩ := xbo h
    refine xc_V (As := []) (rest := []) C hW (m_X12_isRow N _ e4) mf_X12_isRow mv_X12_isRow ml_X12_310 ⟨rfl, rfl⟩ ⟨Nat.le_of_ble_eq_true rfl, Nat.le_of_ble_eq_true rfl⟩ KM_0 rfl hl.1 rfl rfl (Nat.le_of_ble_eq_true rfl) dX12_term_24 (fun H locs hW => W.eq (g2 := F0 m 27 ls [.int r4_]) rfl ?_)
    refine lv_if_eq (tgt := 44) hx hb dX12_term_27 (by decide) (fun c5 => ?_) (fun c5 => ?_)
    · have h := xit c5 h
      refine lv_iconst (v := (-1)) hx hb dX12_term_44 rfl ?_
      cases h
      exact xr_i C hW dX12_term_45
    · have h := xif c5 h
      refine lv_aload_n hx hb dX12_term_30 rfl (lv_at hl 1 rfl) ?_
      refine xg_i C hW fg_12_236 KM_0 rfl (v := 1006) rfl (x := σ3.1 1006 0) rfl dX12_term_31 ?_
      refine lv_aload_n hx hb dX12_term_34 rfl (lv_at hl 1 rfl) ?_
      refine xg_i C hW fg_12_258 KM_0 rfl (v := 1005) rfl (x := σ3.1 1005 0) rfl dX12_term_35 ?_
      refine lv_isub hx hb dX12_term_38 ?_
      refine lv_bipush (v := 8) hx hb dX12_term_39 rfl ?_
      refine lv_icmp_le (tgt := 46) hx hb dX12_term_41 (by decide) (fun c6 => ?_) (fun c6 => ?_)
      · have h := xit c6 h
        refine lv_aload_n hx hb dX12_term_46 rfl (lv_at hl 1 rfl) ?_
        refine xg_i C hW fg_12_258 KM_0 rfl (v := 1005) rfl (x := σ3.1 1005 0) rfl dX12_term_47 ?_
        refine lv_istore_n (lv' := [(3, .int (σ3.1 1005 0)), (1, .long (σ1.2 1010 0)), (0, .ref (g.q 0))]) hx hb dX12_term_50 rfl hl (Nat.le_of_ble_eq_true rfl) rfl (fun ls hl => ?_)
        refine lv_aload_n hx hb dX12_term_51 rfl (lv_at hl 2 rfl) ?_
        refine xg_i C hW fg_12_236 KM_0 rfl (v := 1006) rfl (x := σ3.1 1006 0) rfl dX12_term_52 ?_
        refine lv_aload_n hx hb dX12_term_55 rfl (lv_at hl 2 rfl) ?_
        refine xg_i C hW fg_12_258 KM_0 rfl (v := 1005) rfl (x := σ3.1 1005 0) rfl dX12_term_56 ?_
        refine lv_isub hx hb dX12_term_59 ?_
        refine lv_istore (lv' := [(4, .int ((σ3.1 1006 0) - (σ3.1 1005 0))), (3, .int (σ3.1 1005 0)), (1, .long (σ1.2 1010 0)), (0, .ref (g.q 0))]) hx hb dX12_term_60 hl (Nat.le_of_ble_eq_true rfl) rfl (fun ls hl => ?_)
        refine lv_aload_n hx hb dX12_term_62 rfl (lv_at hl 3 rfl) ?_
        obtain ⟨σ7, e7, h⟩ := xbo h
        refine xc_V (As := []) (rest := []) C hW (m_X12_scan N _ e7) mf_X12_scan mv_X12_scan ml_X12_239 ⟨rfl, rfl⟩ ⟨Nat.le_of_ble_eq_true rfl, Nat.le_of_ble_eq_true rfl⟩ KM_0 rfl hl.1 rfl rfl (Nat.le_of_ble_eq_true rfl) dX12_term_63 (fun H locs hW => W.eq (g2 := F0 m 66 ls []) rfl ?_)
        refine lv_lconst (v := 0) hx hb dX12_term_66 rfl ?_
        refine lv_lstore (lv' := [(5, .long 0), (4, .int ((σ3.1 1006 0) - (σ3.1 1005 0))), (3, .int (σ3.1 1005 0)), (1, .long (σ1.2 1010 0)), (0, .ref (g.q 0))]) hx hb dX12_term_67 hl (Nat.le_of_ble_eq_true rfl) rfl (fun ls hl => ?_)
        refine lv_aload_n hx hb dX12_term_69 rfl (lv_at hl 4 rfl) ?_
        refine xg_i C hW fg_12_264 KM_0 rfl (v := 1003) rfl (x := σ7.1 1003 0) rfl dX12_term_70 ?_
        refine lv_iconst (v := 1) hx hb dX12_term_73 rfl ?_
        refine lv_icmp_ne (tgt := 87) hx hb dX12_term_74 (by decide) (fun c8 => ?_) (fun c8 => ?_)
        · have h := xif c8 h
          exact w_X12_term_87 N C (σ1.2 1010 0) (σ3.1 1005 0) ((σ3.1 1006 0) - (σ3.1 1005 0)) 0 _ _ _ _ hW (lv_sub hl [4, 3, 2, 1, 0] rfl) h
        · have h := xit c8 h
          refine lv_aload_n hx hb dX12_term_77 rfl (lv_at hl 4 rfl) ?_
          refine xg_l C hW fg_12_271 KM_0 rfl (v := 1010) rfl (x := σ7.2 1010 0) rfl dX12_term_78 ?_
          refine lv_lstore (lv' := [(5, .long (σ7.2 1010 0)), (4, .int ((σ3.1 1006 0) - (σ3.1 1005 0))), (3, .int (σ3.1 1005 0)), (1, .long (σ1.2 1010 0)), (0, .ref (g.q 0))]) hx hb dX12_term_81 hl (Nat.le_of_ble_eq_true rfl) rfl (fun ls hl => ?_)
          refine lv_aload_n hx hb dX12_term_83 rfl (lv_at hl 4 rfl) ?_
          obtain ⟨σ9, e9, h⟩ := xbo h
          refine xc_V (As := []) (rest := []) C hW (m_X12_scan N _ e9) mf_X12_scan mv_X12_scan ml_X12_239 ⟨rfl, rfl⟩ ⟨Nat.le_of_ble_eq_true rfl, Nat.le_of_ble_eq_true rfl⟩ KM_0 rfl hl.1 rfl rfl (Nat.le_of_ble_eq_true rfl) dX12_term_84 (fun H locs hW => W.eq (g2 := F0 m 87 ls []) rfl ?_)
          exact w_X12_term_87 N C (σ1.2 1010 0) (σ3.1 1005 0) ((σ3.1 1006 0) - (σ3.1 1005 0)) (σ7.2 1010 0) _ _ _ _ hW (lv_sub hl [4, 3, 2, 1, 0] rfl) h
      · have h := xif c6 h
        refine lv_iconst (v := (-1)) hx hb dX12_term_44 rfl ?_
        cases h
        exact xr_i C hW dX12_term_45
  · have h := xif c2 h
    refine lv_iconst (v := (-1)) hx hb dX12_term_12 rfl ?_
    cases h
    exact xr_i C hW dX12_term_13
end
theorem dX12_isTerm_0 : decode cX12_isTerm 0 = .ok (.iload_n 1, 1) := by decide +kernel
theorem dX12_isTerm_1 : decode cX12_isTerm 1 = .ok (.iconst 0, 1) := by decide +kernel
theorem dX12_isTerm_2 : decode cX12_isTerm 2 = .ok (.aload_n 0, 1) := by decide +kernel
theorem dX12_isTerm_3 : decode cX12_isTerm 3 = .ok (.getfield 408, 3) := by decide +kernel
theorem dX12_isTerm_6 : decode cX12_isTerm 6 = .ok (.iconst 1, 1) := by decide +kernel
theorem dX12_isTerm_7 : decode cX12_isTerm 7 = .ok (.isub, 1) := by decide +kernel
theorem dX12_isTerm_8 : decode cX12_isTerm 8 = .ok (.invokestatic 295, 3) := by decide +kernel
theorem dX12_isTerm_11 : decode cX12_isTerm 11 = .ok (.ireturn, 1) := by decide +kernel
abbrev rm_X12_isTerm : Room := { frames := 1, cells := 0, slots := 0, locals := 22 }
def f_X12_isTerm (x1 : Int32) (σ : St) : Option Int32 := grd (zbb (f_X12_in x1 0 ((σ.1 1049 0) - 1) σ)) (some (f_X12_in x1 0 ((σ.1 1049 0) - 1) σ))
section
variable {p : Program} {l : Launch} {e : Env} {s : State} {m : MethodId} {args : Array Value} {below : List Frame} {meth : Method} {c : Code} {g : XG}
set_option maxRecDepth 4000 in
theorem m_X12_isTerm (x1 : Int32) (σ : St) {r : Int32} (h : f_X12_isTerm x1 σ = some r) : xM l KM g yX12_isTerm cX12_isTerm 2 (some .boolean) rm_X12_isTerm [.ref (g.q 0), .int x1] σ (some (.int r)) σ := by
  refine xmet pn_X12 rfl (Nat.le_of_ble_eq_true rfl) (lv := [(0, .ref (g.q 0)), (1, .int x1)]) rfl (fun p e s m args below meth c ls C hW hl => ?_)
  have hx := C.1
  have hb := C.2.1
  unfold f_X12_isTerm at h
  refine lv_iload_n hx hb dX12_isTerm_0 rfl (lv_at hl 1 rfl) ?_
  refine lv_iconst (v := 0) hx hb dX12_isTerm_1 rfl ?_
  refine lv_aload_n hx hb dX12_isTerm_2 rfl (lv_at hl 0 rfl) ?_
  refine xg_i C hW fg_12_408 KM_0 rfl (v := 1049) rfl (x := σ.1 1049 0) rfl dX12_isTerm_3 ?_
  refine lv_iconst (v := 1) hx hb dX12_isTerm_6 rfl ?_
  refine lv_isub hx hb dX12_isTerm_7 ?_
  refine xc_S (As := [.int x1, .int 0, .int ((σ.1 1049 0) - 1)]) (rest := []) C hW (m_X12_in x1 0 ((σ.1 1049 0) - 1) _ rfl) mf_X12_in mt_X12_in ml_X12_295 ⟨rfl, rfl⟩ ⟨Nat.le_of_ble_eq_true rfl, Nat.le_of_ble_eq_true rfl⟩ hl.1 rfl rfl (Nat.le_of_ble_eq_true rfl) dX12_isTerm_8 (fun H locs hW => W.eq (g2 := F0 m 11 ls [.int (f_X12_in x1 0 ((σ.1 1049 0) - 1) σ)]) rfl ?_)
  obtain ⟨g1, h⟩ := xgd h
  cases h
  exact xr_z C hW g1 dX12_isTerm_11
end
theorem dX12_about_0 : decode cX12_about 0 = .ok (.aload_n 0, 1) := by decide +kernel
theorem dX12_about_1 : decode cX12_about 1 = .ok (.iload_n 1, 1) := by decide +kernel
theorem dX12_about_2 : decode cX12_about 2 = .ok (.invokevirtual 411, 3) := by decide +kernel
theorem dX12_about_5 : decode cX12_about 5 = .ok (.ifCond .ne 6, 3) := by decide +kernel
theorem dX12_about_8 : decode cX12_about 8 = .ok (.bipush (-9), 2) := by decide +kernel
theorem dX12_about_10 : decode cX12_about 10 = .ok (.ireturn, 1) := by decide +kernel
theorem dX12_about_11 : decode cX12_about 11 = .ok (.iload_n 2, 1) := by decide +kernel
theorem dX12_about_12 : decode cX12_about 12 = .ok (.ifCond .eq 8, 3) := by decide +kernel
theorem dX12_about_15 : decode cX12_about 15 = .ok (.iload_n 2, 1) := by decide +kernel
theorem dX12_about_16 : decode cX12_about 16 = .ok (.iconst 1, 1) := by decide +kernel
theorem dX12_about_17 : decode cX12_about 17 = .ok (.if_icmp .ne 33, 3) := by decide +kernel
theorem dX12_about_20 : decode cX12_about 20 = .ok (.iload_n 2, 1) := by decide +kernel
theorem dX12_about_21 : decode cX12_about 21 = .ok (.ifCond .ne 12, 3) := by decide +kernel
theorem dX12_about_24 : decode cX12_about 24 = .ok (.aload_n 0, 1) := by decide +kernel
theorem dX12_about_25 : decode cX12_about 25 = .ok (.getfield 106, 3) := by decide +kernel
theorem dX12_about_28 : decode cX12_about 28 = .ok (.iload_n 1, 1) := by decide +kernel
theorem dX12_about_29 : decode cX12_about 29 = .ok (.iaload, 1) := by decide +kernel
theorem dX12_about_30 : decode cX12_about 30 = .ok (.goto 19, 3) := by decide +kernel
theorem dX12_about_33 : decode cX12_about 33 = .ok (.aload_n 0, 1) := by decide +kernel
theorem dX12_about_34 : decode cX12_about 34 = .ok (.getfield 112, 3) := by decide +kernel
theorem dX12_about_37 : decode cX12_about 37 = .ok (.iload_n 1, 1) := by decide +kernel
theorem dX12_about_38 : decode cX12_about 38 = .ok (.laload, 1) := by decide +kernel
theorem dX12_about_39 : decode cX12_about 39 = .ok (.lconst 0, 1) := by decide +kernel
theorem dX12_about_40 : decode cX12_about 40 = .ok (.lcmp, 1) := by decide +kernel
theorem dX12_about_41 : decode cX12_about 41 = .ok (.ifCond .ne 7, 3) := by decide +kernel
theorem dX12_about_44 : decode cX12_about 44 = .ok (.iconst 0, 1) := by decide +kernel
theorem dX12_about_45 : decode cX12_about 45 = .ok (.goto 4, 3) := by decide +kernel
theorem dX12_about_48 : decode cX12_about 48 = .ok (.iconst 1, 1) := by decide +kernel
theorem dX12_about_49 : decode cX12_about 49 = .ok (.ireturn, 1) := by decide +kernel
theorem dX12_about_50 : decode cX12_about 50 = .ok (.iload_n 2, 1) := by decide +kernel
theorem dX12_about_51 : decode cX12_about 51 = .ok (.bipush 10, 2) := by decide +kernel
theorem dX12_about_53 : decode cX12_about 53 = .ok (.bipush 9, 2) := by decide +kernel
theorem dX12_about_55 : decode cX12_about 55 = .ok (.aload_n 0, 1) := by decide +kernel
theorem dX12_about_56 : decode cX12_about 56 = .ok (.getfield 106, 3) := by decide +kernel
theorem dX12_about_59 : decode cX12_about 59 = .ok (.iload_n 1, 1) := by decide +kernel
theorem dX12_about_60 : decode cX12_about 60 = .ok (.iaload, 1) := by decide +kernel
theorem dX12_about_61 : decode cX12_about 61 = .ok (.iadd, 1) := by decide +kernel
theorem dX12_about_62 : decode cX12_about 62 = .ok (.invokestatic 295, 3) := by decide +kernel
theorem dX12_about_65 : decode cX12_about 65 = .ok (.ifCond .eq 20, 3) := by decide +kernel
theorem dX12_about_68 : decode cX12_about 68 = .ok (.aload_n 0, 1) := by decide +kernel
theorem dX12_about_69 : decode cX12_about 69 = .ok (.getfield 109, 3) := by decide +kernel
theorem dX12_about_72 : decode cX12_about 72 = .ok (.bipush 8, 2) := by decide +kernel
theorem dX12_about_74 : decode cX12_about 74 = .ok (.iload_n 1, 1) := by decide +kernel
theorem dX12_about_75 : decode cX12_about 75 = .ok (.imul, 1) := by decide +kernel
theorem dX12_about_76 : decode cX12_about 76 = .ok (.iload_n 2, 1) := by decide +kernel
theorem dX12_about_77 : decode cX12_about 77 = .ok (.iadd, 1) := by decide +kernel
theorem dX12_about_78 : decode cX12_about 78 = .ok (.bipush 10, 2) := by decide +kernel
theorem dX12_about_80 : decode cX12_about 80 = .ok (.isub, 1) := by decide +kernel
theorem dX12_about_81 : decode cX12_about 81 = .ok (.iaload, 1) := by decide +kernel
theorem dX12_about_82 : decode cX12_about 82 = .ok (.goto 5, 3) := by decide +kernel
theorem dX12_about_85 : decode cX12_about 85 = .ok (.bipush (-9), 2) := by decide +kernel
theorem dX12_about_87 : decode cX12_about 87 = .ok (.ireturn, 1) := by decide +kernel
abbrev rm_X12_about : Room := { frames := 2, cells := 0, slots := 0, locals := 43 }
def f_X12_about_20 (x1 : Int32) (x2 : Int32) (σ : St) : Option Int32 := (if x2 = 0 then grd (ib x1 40) (some (σ.1 31 x1.toNatClampNeg)) else grd (ib x1 40) ((if (lg_cmp (σ.2 33 x1.toNatClampNeg) 0) = 0 then some 0 else some 1)))
def f_X12_about (x1 : Int32) (x2 : Int32) (σ : St) : Option Int32 := bo (f_X12_isTerm x1 σ) (fun r1_ => (if r1_ = 0 then some ((-9)) else (if x2 = 0 then f_X12_about_20 x1 x2 σ else (if x2 = 1 then f_X12_about_20 x1 x2 σ else grd (ib x1 40) ((if (f_X12_in x2 10 (9 + (σ.1 31 x1.toNatClampNeg)) σ) = 0 then some ((-9)) else grd (ib (((8 * x1) + x2) - 10) 320) (some (σ.1 32 (((8 * x1) + x2) - 10).toNatClampNeg))))))))
section
variable {p : Program} {l : Launch} {e : Env} {s : State} {m : MethodId} {args : Array Value} {below : List Frame} {meth : Method} {c : Code} {g : XG}
set_option maxRecDepth 4000 in
theorem w_X12_about_20 (σ : St) {r : Int32} (C : xC KM g RX12 cX12_about 3 (some .int) p s m args meth c) : ∀ (x1 : Int32) (x2 : Int32) (H : Heap) (locs : List Loc) (ls : Array Slot), xW KM g s σ H locs → lv_has ls 3 [(0, .ref (g.q 0)), (1, .int x1), (2, .int x2)] → f_X12_about_20 x1 x2 σ = some r → W p l e rm_X12_about s m args below meth c H locs 0 0 (MQ below (xPost KM g (some (.int r)) σ) args s 0 0 (xA KM g.q)) (F0 m 20 ls []) := by
  have hx := C.1
  have hb := C.2.1
  intro x1 x2 H locs ls hW hl h
  unfold f_X12_about_20 at h
  refine lv_iload_n hx hb dX12_about_20 rfl (lv_at hl 2 rfl) ?_
  refine lv_if_ne (tgt := 33) hx hb dX12_about_21 (by decide) (fun c8 => ?_) (fun c8 => ?_)
  · have h := xif c8 h
    refine lv_aload_n hx hb dX12_about_33 rfl (lv_at hl 0 rfl) ?_
    refine xg_r C hW fg_12_112 KM_0 rfl dX12_about_34 ?_
    refine lv_iload_n hx hb dX12_about_37 rfl (lv_at hl 1 rfl) ?_
    obtain ⟨g9, h⟩ := xgd h
    refine xa_l C hW KM_33 g9 (x := σ.2 33 x1.toNatClampNeg) rfl dX12_about_38 ?_
    refine lv_lconst (v := 0) hx hb dX12_about_39 rfl ?_
    refine W.lcmp hx hb dX12_about_40 ?_
    refine lv_if_ne (tgt := 48) hx hb dX12_about_41 (by decide) (fun c10 => ?_) (fun c10 => ?_)
    · have h := xif c10 h
      refine lv_iconst (v := 1) hx hb dX12_about_48 rfl ?_
      cases h
      exact xr_i C hW dX12_about_49
    · have h := xit c10 h
      refine lv_iconst (v := 0) hx hb dX12_about_44 rfl ?_
      refine lv_goto (tgt := 49) hx hb dX12_about_45 (by decide) ?_
      cases h
      exact xr_i C hW dX12_about_49
  · have h := xit c8 h
    refine lv_aload_n hx hb dX12_about_24 rfl (lv_at hl 0 rfl) ?_
    refine xg_r C hW fg_12_106 KM_0 rfl dX12_about_25 ?_
    refine lv_iload_n hx hb dX12_about_28 rfl (lv_at hl 1 rfl) ?_
    obtain ⟨g11, h⟩ := xgd h
    refine xa_i C hW KM_31 g11 (x := σ.1 31 x1.toNatClampNeg) rfl dX12_about_29 ?_
    refine lv_goto (tgt := 49) hx hb dX12_about_30 (by decide) ?_
    cases h
    exact xr_i C hW dX12_about_49
set_option maxRecDepth 4000 in
theorem m_X12_about (x1 : Int32) (x2 : Int32) (σ : St) {r : Int32} (h : f_X12_about x1 x2 σ = some r) : xM l KM g yX12_about cX12_about 3 (some .int) rm_X12_about [.ref (g.q 0), .int x1, .int x2] σ (some (.int r)) σ := by
  refine xmet pn_X12 rfl (Nat.le_of_ble_eq_true rfl) (lv := [(0, .ref (g.q 0)), (1, .int x1), (2, .int x2)]) rfl (fun p e s m args below meth c ls C hW hl => ?_)
  have hx := C.1
  have hb := C.2.1
  unfold f_X12_about at h
  refine lv_aload_n hx hb dX12_about_0 rfl (lv_at hl 0 rfl) ?_
  refine lv_iload_n hx hb dX12_about_1 rfl (lv_at hl 1 rfl) ?_
  obtain ⟨r1_, e1, h⟩ := xbo h
  refine xc_V (As := [.int x1]) (rest := []) C hW (m_X12_isTerm x1 _ e1) mf_X12_isTerm mv_X12_isTerm ml_X12_411 ⟨rfl, rfl⟩ ⟨Nat.le_of_ble_eq_true rfl, Nat.le_of_ble_eq_true rfl⟩ KM_0 rfl hl.1 rfl rfl (Nat.le_of_ble_eq_true rfl) dX12_about_2 (fun H locs hW => W.eq (g2 := F0 m 5 ls [.int r1_]) rfl ?_)
  refine lv_if_ne (tgt := 11) hx hb dX12_about_5 (by decide) (fun c2 => ?_) (fun c2 => ?_)
  · have h := xif c2 h
    refine lv_iload_n hx hb dX12_about_11 rfl (lv_at hl 2 rfl) ?_
    refine lv_if_eq (tgt := 20) hx hb dX12_about_12 (by decide) (fun c3 => ?_) (fun c3 => ?_)
    · have h := xit c3 h
      exact w_X12_about_20 σ C x1 x2 _ _ _ hW (lv_sub hl [0, 1, 2] rfl) h
    · have h := xif c3 h
      refine lv_iload_n hx hb dX12_about_15 rfl (lv_at hl 2 rfl) ?_
      refine lv_iconst (v := 1) hx hb dX12_about_16 rfl ?_
      refine lv_icmp_ne (tgt := 50) hx hb dX12_about_17 (by decide) (fun c4 => ?_) (fun c4 => ?_)
      · have h := xif c4 h
        refine lv_iload_n hx hb dX12_about_50 rfl (lv_at hl 2 rfl) ?_
        refine lv_bipush (v := 10) hx hb dX12_about_51 rfl ?_
        refine lv_bipush (v := 9) hx hb dX12_about_53 rfl ?_
        refine lv_aload_n hx hb dX12_about_55 rfl (lv_at hl 0 rfl) ?_
        refine xg_r C hW fg_12_106 KM_0 rfl dX12_about_56 ?_
        refine lv_iload_n hx hb dX12_about_59 rfl (lv_at hl 1 rfl) ?_
        obtain ⟨g5, h⟩ := xgd h
        refine xa_i C hW KM_31 g5 (x := σ.1 31 x1.toNatClampNeg) rfl dX12_about_60 ?_
        refine lv_iadd hx hb dX12_about_61 ?_
        refine xc_S (As := [.int x2, .int 10, .int (9 + (σ.1 31 x1.toNatClampNeg))]) (rest := []) C hW (m_X12_in x2 10 (9 + (σ.1 31 x1.toNatClampNeg)) _ rfl) mf_X12_in mt_X12_in ml_X12_295 ⟨rfl, rfl⟩ ⟨Nat.le_of_ble_eq_true rfl, Nat.le_of_ble_eq_true rfl⟩ hl.1 rfl rfl (Nat.le_of_ble_eq_true rfl) dX12_about_62 (fun H locs hW => W.eq (g2 := F0 m 65 ls [.int (f_X12_in x2 10 (9 + (σ.1 31 x1.toNatClampNeg)) σ)]) rfl ?_)
        refine lv_if_eq (tgt := 85) hx hb dX12_about_65 (by decide) (fun c6 => ?_) (fun c6 => ?_)
        · have h := xit c6 h
          refine lv_bipush (v := (-9)) hx hb dX12_about_85 rfl ?_
          cases h
          exact xr_i C hW dX12_about_87
        · have h := xif c6 h
          refine lv_aload_n hx hb dX12_about_68 rfl (lv_at hl 0 rfl) ?_
          refine xg_r C hW fg_12_109 KM_0 rfl dX12_about_69 ?_
          refine lv_bipush (v := 8) hx hb dX12_about_72 rfl ?_
          refine lv_iload_n hx hb dX12_about_74 rfl (lv_at hl 1 rfl) ?_
          refine lv_imul hx hb dX12_about_75 ?_
          refine lv_iload_n hx hb dX12_about_76 rfl (lv_at hl 2 rfl) ?_
          refine lv_iadd hx hb dX12_about_77 ?_
          refine lv_bipush (v := 10) hx hb dX12_about_78 rfl ?_
          refine lv_isub hx hb dX12_about_80 ?_
          obtain ⟨g7, h⟩ := xgd h
          refine xa_i C hW KM_32 g7 (x := σ.1 32 (((8 * x1) + x2) - 10).toNatClampNeg) rfl dX12_about_81 ?_
          refine lv_goto (tgt := 87) hx hb dX12_about_82 (by decide) ?_
          cases h
          exact xr_i C hW dX12_about_87
      · have h := xit c4 h
        exact w_X12_about_20 σ C x1 x2 _ _ _ hW (lv_sub hl [0, 1, 2] rfl) h
  · have h := xit c2 h
    refine lv_bipush (v := (-9)) hx hb dX12_about_8 rfl ?_
    cases h
    exact xr_i C hW dX12_about_10
end
