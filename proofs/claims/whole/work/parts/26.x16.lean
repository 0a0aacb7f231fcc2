theorem dX11_count_0 : decode cX11_count 0 = .ok (.iload_n 1, 1) := by decide +kernel
theorem dX11_count_1 : decode cX11_count 1 = .ok (.tableswitch 111 0 7 #[47, 55, 63, 71, 79, 87, 95, 103], 47) := by decide +kernel
theorem dX11_count_48 : decode cX11_count 48 = .ok (.aload_n 0, 1) := by decide +kernel
theorem dX11_count_49 : decode cX11_count 49 = .ok (.getfield 19, 3) := by decide +kernel
theorem dX11_count_52 : decode cX11_count 52 = .ok (.getfield 141, 3) := by decide +kernel
theorem dX11_count_55 : decode cX11_count 55 = .ok (.ireturn, 1) := by decide +kernel
theorem dX11_count_56 : decode cX11_count 56 = .ok (.aload_n 0, 1) := by decide +kernel
theorem dX11_count_57 : decode cX11_count 57 = .ok (.getfield 47, 3) := by decide +kernel
theorem dX11_count_60 : decode cX11_count 60 = .ok (.getfield 375, 3) := by decide +kernel
theorem dX11_count_63 : decode cX11_count 63 = .ok (.ireturn, 1) := by decide +kernel
theorem dX11_count_64 : decode cX11_count 64 = .ok (.aload_n 0, 1) := by decide +kernel
theorem dX11_count_65 : decode cX11_count 65 = .ok (.getfield 40, 3) := by decide +kernel
theorem dX11_count_68 : decode cX11_count 68 = .ok (.getfield 189, 3) := by decide +kernel
theorem dX11_count_71 : decode cX11_count 71 = .ok (.ireturn, 1) := by decide +kernel
theorem dX11_count_72 : decode cX11_count 72 = .ok (.aload_n 0, 1) := by decide +kernel
theorem dX11_count_73 : decode cX11_count 73 = .ok (.getfield 40, 3) := by decide +kernel
theorem dX11_count_76 : decode cX11_count 76 = .ok (.getfield 216, 3) := by decide +kernel
theorem dX11_count_79 : decode cX11_count 79 = .ok (.ireturn, 1) := by decide +kernel
theorem dX11_count_80 : decode cX11_count 80 = .ok (.aload_n 0, 1) := by decide +kernel
theorem dX11_count_81 : decode cX11_count 81 = .ok (.getfield 81, 3) := by decide +kernel
theorem dX11_count_84 : decode cX11_count 84 = .ok (.getfield 260, 3) := by decide +kernel
theorem dX11_count_87 : decode cX11_count 87 = .ok (.ireturn, 1) := by decide +kernel
theorem dX11_count_88 : decode cX11_count 88 = .ok (.aload_n 0, 1) := by decide +kernel
theorem dX11_count_89 : decode cX11_count 89 = .ok (.getfield 90, 3) := by decide +kernel
theorem dX11_count_92 : decode cX11_count 92 = .ok (.getfield 304, 3) := by decide +kernel
theorem dX11_count_95 : decode cX11_count 95 = .ok (.ireturn, 1) := by decide +kernel
theorem dX11_count_96 : decode cX11_count 96 = .ok (.aload_n 0, 1) := by decide +kernel
theorem dX11_count_97 : decode cX11_count 97 = .ok (.getfield 97, 3) := by decide +kernel
theorem dX11_count_100 : decode cX11_count 100 = .ok (.getfield 361, 3) := by decide +kernel
theorem dX11_count_103 : decode cX11_count 103 = .ok (.ireturn, 1) := by decide +kernel
theorem dX11_count_104 : decode cX11_count 104 = .ok (.aload_n 0, 1) := by decide +kernel
theorem dX11_count_105 : decode cX11_count 105 = .ok (.getfield 10, 3) := by decide +kernel
theorem dX11_count_108 : decode cX11_count 108 = .ok (.getfield 101, 3) := by decide +kernel
theorem dX11_count_111 : decode cX11_count 111 = .ok (.ireturn, 1) := by decide +kernel
theorem dX11_count_112 : decode cX11_count 112 = .ok (.iconst (-1), 1) := by decide +kernel
theorem dX11_count_113 : decode cX11_count 113 = .ok (.ireturn, 1) := by decide +kernel
abbrev rm_X11_count : Room := { frames := 0, cells := 0, slots := 0, locals := 0 }
def f_X11_count (x1 : Int32) (σ : St) : Int32 := (if x1 = 0 then σ.1 1200 0 else (if x1 = 1 then σ.1 7600 0 else (if x1 = 2 then σ.1 5602 0 else (if x1 = 3 then σ.1 5605 0 else (if x1 = 4 then σ.1 12404 0 else (if x1 = 5 then σ.1 14402 0 else (if x1 = 6 then σ.1 15600 0 else (if x1 = 7 then σ.1 4801 0 else (-1)))))))))
section
variable {p : Program} {l : Launch} {e : Env} {s : State} {m : MethodId} {args : Array Value} {below : List Frame} {meth : Method} {c : Code} {g : XG}
set_option maxRecDepth 4000 in
theorem m_X11_count (x1 : Int32) (σ : St) {r : Int32} (h : f_X11_count x1 σ = r) : xM l KX g yX11_count cX11_count 2 (some .int) rm_X11_count [.ref (g.q 0), .int x1] σ (some (.int r)) σ := by
  refine xmet pn_X11 rfl (Nat.le_of_ble_eq_true rfl) (lv := [(0, .ref (g.q 0)), (1, .int x1)]) rfl (fun p e s m args below meth c ls C hW hl => ?_)
  have hx := C.1
  have hb := C.2.1
  unfold f_X11_count at h
  refine lv_iload_n hx hb dX11_count_0 rfl (lv_at hl 1 rfl) ?_
  by_cases c1 : x1 = 0
  · have h := xit c1 h
    refine lv_tableIn (off := 47) (tgt := 48) hx hb dX11_count_1 (by rw [c1]; decide) (by rw [c1]; decide) (by rw [c1]; rfl) (by decide) ?_
    refine lv_aload_n hx hb dX11_count_48 rfl (lv_at hl 0 rfl) ?_
    refine xg_r C hW fg_11_19 KX_0 rfl dX11_count_49 ?_
    refine xg_i C hW fg_11_141 KX_1 rfl (v := 1200) rfl (x := σ.1 1200 0) rfl dX11_count_52 ?_
    cases h
    exact xr_i C hW dX11_count_55
  · have h := xif c1 h
    by_cases c2 : x1 = 1
    · have h := xit c2 h
      refine lv_tableIn (off := 55) (tgt := 56) hx hb dX11_count_1 (by rw [c2]; decide) (by rw [c2]; decide) (by rw [c2]; rfl) (by decide) ?_
      refine lv_aload_n hx hb dX11_count_56 rfl (lv_at hl 0 rfl) ?_
      refine xg_r C hW fg_11_47 KX_0 rfl dX11_count_57 ?_
      refine xg_i C hW fg_11_375 KX_33 rfl (v := 7600) rfl (x := σ.1 7600 0) rfl dX11_count_60 ?_
      cases h
      exact xr_i C hW dX11_count_63
    · have h := xif c2 h
      by_cases c3 : x1 = 2
      · have h := xit c3 h
        refine lv_tableIn (off := 63) (tgt := 64) hx hb dX11_count_1 (by rw [c3]; decide) (by rw [c3]; decide) (by rw [c3]; rfl) (by decide) ?_
        refine lv_aload_n hx hb dX11_count_64 rfl (lv_at hl 0 rfl) ?_
        refine xg_r C hW fg_11_40 KX_0 rfl dX11_count_65 ?_
        refine xg_i C hW fg_11_189 KX_23 rfl (v := 5602) rfl (x := σ.1 5602 0) rfl dX11_count_68 ?_
        cases h
        exact xr_i C hW dX11_count_71
      · have h := xif c3 h
        by_cases c4 : x1 = 3
        · have h := xit c4 h
          refine lv_tableIn (off := 71) (tgt := 72) hx hb dX11_count_1 (by rw [c4]; decide) (by rw [c4]; decide) (by rw [c4]; rfl) (by decide) ?_
          refine lv_aload_n hx hb dX11_count_72 rfl (lv_at hl 0 rfl) ?_
          refine xg_r C hW fg_11_40 KX_0 rfl dX11_count_73 ?_
          refine xg_i C hW fg_11_216 KX_23 rfl (v := 5605) rfl (x := σ.1 5605 0) rfl dX11_count_76 ?_
          cases h
          exact xr_i C hW dX11_count_79
        · have h := xif c4 h
          by_cases c5 : x1 = 4
          · have h := xit c5 h
            refine lv_tableIn (off := 79) (tgt := 80) hx hb dX11_count_1 (by rw [c5]; decide) (by rw [c5]; decide) (by rw [c5]; rfl) (by decide) ?_
            refine lv_aload_n hx hb dX11_count_80 rfl (lv_at hl 0 rfl) ?_
            refine xg_r C hW fg_11_81 KX_0 rfl dX11_count_81 ?_
            refine xg_i C hW fg_11_260 KX_57 rfl (v := 12404) rfl (x := σ.1 12404 0) rfl dX11_count_84 ?_
            cases h
            exact xr_i C hW dX11_count_87
          · have h := xif c5 h
            by_cases c6 : x1 = 5
            · have h := xit c6 h
              refine lv_tableIn (off := 87) (tgt := 88) hx hb dX11_count_1 (by rw [c6]; decide) (by rw [c6]; decide) (by rw [c6]; rfl) (by decide) ?_
              refine lv_aload_n hx hb dX11_count_88 rfl (lv_at hl 0 rfl) ?_
              refine xg_r C hW fg_11_90 KX_0 rfl dX11_count_89 ?_
              refine xg_i C hW fg_11_304 KX_67 rfl (v := 14402) rfl (x := σ.1 14402 0) rfl dX11_count_92 ?_
              cases h
              exact xr_i C hW dX11_count_95
            · have h := xif c6 h
              by_cases c7 : x1 = 6
              · have h := xit c7 h
                refine lv_tableIn (off := 95) (tgt := 96) hx hb dX11_count_1 (by rw [c7]; decide) (by rw [c7]; decide) (by rw [c7]; rfl) (by decide) ?_
                refine lv_aload_n hx hb dX11_count_96 rfl (lv_at hl 0 rfl) ?_
                refine xg_r C hW fg_11_97 KX_0 rfl dX11_count_97 ?_
                refine xg_i C hW fg_11_361 KX_73 rfl (v := 15600) rfl (x := σ.1 15600 0) rfl dX11_count_100 ?_
                cases h
                exact xr_i C hW dX11_count_103
              · have h := xif c7 h
                by_cases c8 : x1 = 7
                · have h := xit c8 h
                  refine lv_tableIn (off := 103) (tgt := 104) hx hb dX11_count_1 (by rw [c8]; decide) (by rw [c8]; decide) (by rw [c8]; rfl) (by decide) ?_
                  refine lv_aload_n hx hb dX11_count_104 rfl (lv_at hl 0 rfl) ?_
                  refine xg_r C hW fg_11_10 KX_0 rfl dX11_count_105 ?_
                  refine xg_i C hW fg_11_101 KX_19 rfl (v := 4801) rfl (x := σ.1 4801 0) rfl dX11_count_108 ?_
                  cases h
                  exact xr_i C hW dX11_count_111
                · have h := xif c8 h
                  refine lv_tableOut (tgt := 112) hx hb dX11_count_1 (xsw_out (fun k h1 h2 => ?_)) (by decide) ?_
                  · rcases (show k = 0 ∨ k = 1 ∨ k = 2 ∨ k = 3 ∨ k = 4 ∨ k = 5 ∨ k = 6 ∨ k = 7 by omega) with rfl | rfl | rfl | rfl | rfl | rfl | rfl | rfl
                    · exact c1
                    · exact c2
                    · exact c3
                    · exact c4
                    · exact c5
                    · exact c6
                    · exact c7
                    · exact c8
                  · refine lv_iconst (v := (-1)) hx hb dX11_count_112 rfl ?_
                    cases h
                    exact xr_i C hW dX11_count_113
end
