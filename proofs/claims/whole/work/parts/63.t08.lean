section LAWC
variable {p : Program} {l : Launch} {e : Env} {s : State} {m : MethodId} {below : List Frame} {meth : Method} {c : Code} {H : Heap} {locs : List Loc} {cells slots : Nat} {Q : State → Prop}
variable {g : XG} {qx qm : Nat → Nat} {b L i N : Nat} {xs : Nat → Int32} {x3 : Int32} {ls : Array Slot} {σ τ : St}
theorem lw_case_27 (hN : 802 < N) (C : LA g qx qm b L xs p s m c) (w : LWd g qx qm s σ τ H locs) (hR : RelE σ τ) (hi : i + 6 ≤ L) (hL : L ≤ 3072) (hx3 : x3 = nI i) (hl : lv_has ls 4 [(0, .ref b), (1, .ref (qx 0)), (2, .ref (qm 0)), (3, .int x3)]) (hcl : cells ≤ room_1.cells ∧ slots ≤ room_1.slots) (kend : ∀ (σ τ : St) (H : Heap) (locs : List Loc), RelE σ τ → LWd g qx qm s σ τ H locs → W p l e room_1 s m #[Value.ref b] below meth c H locs cells slots Q (F0 m 1052 ls [])) : W p l e room_1 s m #[Value.ref b] below meth c H locs cells slots Q (F0 m 851 ls []) := by
  have hx := C.1
  have hb := C.2.1
  obtain ⟨r, σ', τ', e1, e2, hR⟩ := r_fill hN hR (xs (i + 1))
  refine lv_aload_n hx hb d_law_851 rfl (lv_at hl 1 rfl) ?_
  refine lsld (k := 1) C w.2.2 hl hi hL hx3 rfl (by omega) d_law_852 d_law_853 d_law_854 d_law_855 d_law_856 ?_
  refine lcX (As := [.int (xs (i + 1))]) (rest := []) C w (m_X11_fill N _ _ e1) mf_X11_fill mv_X11_fill ml_law_126 ⟨rfl, rfl⟩ ⟨Nat.le_of_ble_eq_true rfl, Nat.le_of_ble_eq_true rfl⟩ hcl rfl hl.1 rfl rfl (Nat.le_of_ble_eq_true rfl) d_law_857 (fun H locs w => ?_)
  refine W.eq (g2 := F0 m 860 ls [.int _]) rfl ?_
  refine lv_aload_n hx hb d_law_860 rfl (lv_at hl 2 rfl) ?_
  refine lsld (k := 1) C w.2.2 hl hi hL hx3 rfl (by omega) d_law_861 d_law_862 d_law_863 d_law_864 d_law_865 ?_
  refine lcM (As := [.int (xs (i + 1))]) (rest := [.int _]) C w (m_X12_fill N _ _ e2) mf_X12_fill mv_X12_fill ml_law_129 ⟨rfl, rfl⟩ ⟨Nat.le_of_ble_eq_true rfl, Nat.le_of_ble_eq_true rfl⟩ hcl rfl hl.1 rfl rfl (Nat.le_of_ble_eq_true rfl) d_law_866 (fun H locs w => ?_)
  refine W.eq (g2 := F0 m 869 ls [.int _, .int _]) rfl ?_
  exact lv_icmp_eq (tgt := 1052) hx hb d_law_869 (by decide) (fun _ => kend σ' τ' _ _ hR w) (fun h => absurd rfl h)
theorem lw_case_28 (hN : 802 < N) (C : LA g qx qm b L xs p s m c) (w : LWd g qx qm s σ τ H locs) (hR : RelE σ τ) (hi : i + 6 ≤ L) (hL : L ≤ 3072) (hx3 : x3 = nI i) (hl : lv_has ls 4 [(0, .ref b), (1, .ref (qx 0)), (2, .ref (qm 0)), (3, .int x3)]) (hcl : cells ≤ room_1.cells ∧ slots ≤ room_1.slots) (kend : ∀ (σ τ : St) (H : Heap) (locs : List Loc), RelE σ τ → LWd g qx qm s σ τ H locs → W p l e room_1 s m #[Value.ref b] below meth c H locs cells slots Q (F0 m 1052 ls [])) : W p l e room_1 s m #[Value.ref b] below meth c H locs cells slots Q (F0 m 874 ls []) := by
  have hx := C.1
  have hb := C.2.1
  obtain ⟨r, e1, e2⟩ := r_filled hR (xs (i + 1)) (xs (i + 2))
  refine lv_aload_n hx hb d_law_874 rfl (lv_at hl 1 rfl) ?_
  refine lsld (k := 1) C w.2.2 hl hi hL hx3 rfl (by omega) d_law_875 d_law_876 d_law_877 d_law_878 d_law_879 ?_
  refine lsld (k := 2) C w.2.2 hl hi hL hx3 rfl (by omega) d_law_880 d_law_881 d_law_882 d_law_883 d_law_884 ?_
  refine lcX (As := [.int (xs (i + 1)), .int (xs (i + 2))]) (rest := []) C w (m_X11_filled _ _ _ e1) mf_X11_filled mv_X11_filled ml_law_130 ⟨rfl, rfl⟩ ⟨Nat.le_of_ble_eq_true rfl, Nat.le_of_ble_eq_true rfl⟩ hcl rfl hl.1 rfl rfl (Nat.le_of_ble_eq_true rfl) d_law_885 (fun H locs w => ?_)
  refine W.eq (g2 := F0 m 888 ls [.int _]) rfl ?_
  refine lv_aload_n hx hb d_law_888 rfl (lv_at hl 2 rfl) ?_
  refine lsld (k := 1) C w.2.2 hl hi hL hx3 rfl (by omega) d_law_889 d_law_890 d_law_891 d_law_892 d_law_893 ?_
  refine lsld (k := 2) C w.2.2 hl hi hL hx3 rfl (by omega) d_law_894 d_law_895 d_law_896 d_law_897 d_law_898 ?_
  refine lcM (As := [.int (xs (i + 1)), .int (xs (i + 2))]) (rest := [.int _]) C w (m_X12_filled _ _ _ e2) mf_X12_filled mv_X12_filled ml_law_133 ⟨rfl, rfl⟩ ⟨Nat.le_of_ble_eq_true rfl, Nat.le_of_ble_eq_true rfl⟩ hcl rfl hl.1 rfl rfl (Nat.le_of_ble_eq_true rfl) d_law_899 (fun H locs w => ?_)
  refine W.eq (g2 := F0 m 902 ls [.int _, .int _]) rfl ?_
  exact lv_icmp_eq (tgt := 1052) hx hb d_law_902 (by decide) (fun _ => kend σ τ _ _ hR w) (fun h => absurd rfl h)
theorem lw_case_29 (hN : 802 < N) (C : LA g qx qm b L xs p s m c) (w : LWd g qx qm s σ τ H locs) (hR : RelE σ τ) (hi : i + 6 ≤ L) (hL : L ≤ 3072) (hx3 : x3 = nI i) (hl : lv_has ls 4 [(0, .ref b), (1, .ref (qx 0)), (2, .ref (qm 0)), (3, .int x3)]) (hcl : cells ≤ room_1.cells ∧ slots ≤ room_1.slots) (kend : ∀ (σ τ : St) (H : Heap) (locs : List Loc), RelE σ τ → LWd g qx qm s σ τ H locs → W p l e room_1 s m #[Value.ref b] below meth c H locs cells slots Q (F0 m 1052 ls [])) : W p l e room_1 s m #[Value.ref b] below meth c H locs cells slots Q (F0 m 907 ls []) := by
  have hx := C.1
  have hb := C.2.1
  obtain ⟨r, σ', τ', e1, e2, hR⟩ := r_fills hN hR
  refine lv_aload_n hx hb d_law_907 rfl (lv_at hl 1 rfl) ?_
  refine lcX (As := []) (rest := []) C w (m_X11_fills N _ e1) mf_X11_fills mv_X11_fills ml_law_134 ⟨rfl, rfl⟩ ⟨Nat.le_of_ble_eq_true rfl, Nat.le_of_ble_eq_true rfl⟩ hcl rfl hl.1 rfl rfl (Nat.le_of_ble_eq_true rfl) d_law_908 (fun H locs w => ?_)
  refine W.eq (g2 := F0 m 911 ls [.int _]) rfl ?_
  refine lv_aload_n hx hb d_law_911 rfl (lv_at hl 2 rfl) ?_
  refine lcM (As := []) (rest := [.int _]) C w (m_X12_fills N _ e2) mf_X12_fills mv_X12_fills ml_law_137 ⟨rfl, rfl⟩ ⟨Nat.le_of_ble_eq_true rfl, Nat.le_of_ble_eq_true rfl⟩ hcl rfl hl.1 rfl rfl (Nat.le_of_ble_eq_true rfl) d_law_912 (fun H locs w => ?_)
  refine W.eq (g2 := F0 m 915 ls [.int _, .int _]) rfl ?_
  exact lv_icmp_eq (tgt := 1052) hx hb d_law_915 (by decide) (fun _ => kend σ' τ' _ _ hR w) (fun h => absurd rfl h)
theorem lw_case_30 (hN : 802 < N) (C : LA g qx qm b L xs p s m c) (w : LWd g qx qm s σ τ H locs) (hR : RelE σ τ) (hi : i + 6 ≤ L) (hL : L ≤ 3072) (hx3 : x3 = nI i) (hl : lv_has ls 4 [(0, .ref b), (1, .ref (qx 0)), (2, .ref (qm 0)), (3, .int x3)]) (hcl : cells ≤ room_1.cells ∧ slots ≤ room_1.slots) (kend : ∀ (σ τ : St) (H : Heap) (locs : List Loc), RelE σ τ → LWd g qx qm s σ τ H locs → W p l e room_1 s m #[Value.ref b] below meth c H locs cells slots Q (F0 m 1052 ls [])) : W p l e room_1 s m #[Value.ref b] below meth c H locs cells slots Q (F0 m 920 ls []) := by
  have hx := C.1
  have hb := C.2.1
  obtain ⟨r, σ', τ', e1, e2, hR⟩ := r_judge hN hR
  refine lv_aload_n hx hb d_law_920 rfl (lv_at hl 1 rfl) ?_
  refine lcX (As := []) (rest := []) C w (m_X11_judge N _ e1) mf_X11_judge mv_X11_judge ml_law_138 ⟨rfl, rfl⟩ ⟨Nat.le_of_ble_eq_true rfl, Nat.le_of_ble_eq_true rfl⟩ hcl rfl hl.1 rfl rfl (Nat.le_of_ble_eq_true rfl) d_law_921 (fun H locs w => ?_)
  refine W.eq (g2 := F0 m 924 ls [.int _]) rfl ?_
  refine lv_aload_n hx hb d_law_924 rfl (lv_at hl 2 rfl) ?_
  refine lcM (As := []) (rest := [.int _]) C w (m_X12_judge N _ e2) mf_X12_judge mv_X12_judge ml_law_141 ⟨rfl, rfl⟩ ⟨Nat.le_of_ble_eq_true rfl, Nat.le_of_ble_eq_true rfl⟩ hcl rfl hl.1 rfl rfl (Nat.le_of_ble_eq_true rfl) d_law_925 (fun H locs w => ?_)
  refine W.eq (g2 := F0 m 928 ls [.int _, .int _]) rfl ?_
  exact lv_icmp_eq (tgt := 1052) hx hb d_law_928 (by decide) (fun _ => kend σ' τ' _ _ hR w) (fun h => absurd rfl h)
theorem lw_case_31 (hN : 802 < N) (C : LA g qx qm b L xs p s m c) (w : LWd g qx qm s σ τ H locs) (hR : RelE σ τ) (hi : i + 6 ≤ L) (hL : L ≤ 3072) (hx3 : x3 = nI i) (hl : lv_has ls 4 [(0, .ref b), (1, .ref (qx 0)), (2, .ref (qm 0)), (3, .int x3)]) (hcl : cells ≤ room_1.cells ∧ slots ≤ room_1.slots) (kend : ∀ (σ τ : St) (H : Heap) (locs : List Loc), RelE σ τ → LWd g qx qm s σ τ H locs → W p l e room_1 s m #[Value.ref b] below meth c H locs cells slots Q (F0 m 1052 ls [])) : W p l e room_1 s m #[Value.ref b] below meth c H locs cells slots Q (F0 m 933 ls []) := by
  have hx := C.1
  have hb := C.2.1
  obtain ⟨r, σ', τ', e1, e2, hR⟩ := r_value hN hR (xs (i + 1)) (xs (i + 2)) (xs (i + 3))
  refine lv_aload_n hx hb d_law_933 rfl (lv_at hl 1 rfl) ?_
  refine lsld (k := 1) C w.2.2 hl hi hL hx3 rfl (by omega) d_law_934 d_law_935 d_law_936 d_law_937 d_law_938 ?_
  refine lsld (k := 2) C w.2.2 hl hi hL hx3 rfl (by omega) d_law_939 d_law_940 d_law_941 d_law_942 d_law_943 ?_
  refine lsld (k := 3) C w.2.2 hl hi hL hx3 rfl (by omega) d_law_944 d_law_945 d_law_946 d_law_947 d_law_948 ?_
  refine lcX (As := [.int (xs (i + 1)), .int (xs (i + 2)), .int (xs (i + 3))]) (rest := []) C w (m_X11_value N _ _ _ _ e1) mf_X11_value mv_X11_value ml_law_142 ⟨rfl, rfl⟩ ⟨Nat.le_of_ble_eq_true rfl, Nat.le_of_ble_eq_true rfl⟩ hcl rfl hl.1 rfl rfl (Nat.le_of_ble_eq_true rfl) d_law_949 (fun H locs w => ?_)
  refine W.eq (g2 := F0 m 952 ls [.int _]) rfl ?_
  refine lv_aload_n hx hb d_law_952 rfl (lv_at hl 2 rfl) ?_
  refine lsld (k := 1) C w.2.2 hl hi hL hx3 rfl (by omega) d_law_953 d_law_954 d_law_955 d_law_956 d_law_957 ?_
  refine lsld (k := 2) C w.2.2 hl hi hL hx3 rfl (by omega) d_law_958 d_law_959 d_law_960 d_law_961 d_law_962 ?_
  refine lsld (k := 3) C w.2.2 hl hi hL hx3 rfl (by omega) d_law_963 d_law_964 d_law_965 d_law_966 d_law_967 ?_
  refine lcM (As := [.int (xs (i + 1)), .int (xs (i + 2)), .int (xs (i + 3))]) (rest := [.int _]) C w (m_X12_value N _ _ _ _ e2) mf_X12_value mv_X12_value ml_law_146 ⟨rfl, rfl⟩ ⟨Nat.le_of_ble_eq_true rfl, Nat.le_of_ble_eq_true rfl⟩ hcl rfl hl.1 rfl rfl (Nat.le_of_ble_eq_true rfl) d_law_968 (fun H locs w => ?_)
  refine W.eq (g2 := F0 m 971 ls [.int _, .int _]) rfl ?_
  exact lv_icmp_eq (tgt := 1052) hx hb d_law_971 (by decide) (fun _ => kend σ' τ' _ _ hR w) (fun h => absurd rfl h)
theorem lw_case_32 (hN : 802 < N) (C : LA g qx qm b L xs p s m c) (w : LWd g qx qm s σ τ H locs) (hR : RelE σ τ) (hi : i + 6 ≤ L) (hL : L ≤ 3072) (hx3 : x3 = nI i) (hl : lv_has ls 4 [(0, .ref b), (1, .ref (qx 0)), (2, .ref (qm 0)), (3, .int x3)]) (hcl : cells ≤ room_1.cells ∧ slots ≤ room_1.slots) (kend : ∀ (σ τ : St) (H : Heap) (locs : List Loc), RelE σ τ → LWd g qx qm s σ τ H locs → W p l e room_1 s m #[Value.ref b] below meth c H locs cells slots Q (F0 m 1052 ls [])) : W p l e room_1 s m #[Value.ref b] below meth c H locs cells slots Q (F0 m 976 ls []) := by
  have hx := C.1
  have hb := C.2.1
  obtain ⟨r, e1, e2⟩ := r_valueOn hN hR (xs (i + 1)) (xs (i + 2)) (xs (i + 3)) (xs (i + 4))
  refine lv_aload_n hx hb d_law_976 rfl (lv_at hl 1 rfl) ?_
  refine lsld (k := 1) C w.2.2 hl hi hL hx3 rfl (by omega) d_law_977 d_law_978 d_law_979 d_law_980 d_law_981 ?_
  refine lsld (k := 2) C w.2.2 hl hi hL hx3 rfl (by omega) d_law_982 d_law_983 d_law_984 d_law_985 d_law_986 ?_
  refine lsld (k := 3) C w.2.2 hl hi hL hx3 rfl (by omega) d_law_987 d_law_988 d_law_989 d_law_990 d_law_991 ?_
  refine lsld (k := 4) C w.2.2 hl hi hL hx3 rfl (by omega) d_law_992 d_law_993 d_law_994 d_law_995 d_law_996 ?_
  refine lcX (As := [.int (xs (i + 1)), .int (xs (i + 2)), .int (xs (i + 3)), .int (xs (i + 4))]) (rest := []) C w (m_X11_valueOn N _ _ _ _ _ e1) mf_X11_valueOn mv_X11_valueOn ml_law_147 ⟨rfl, rfl⟩ ⟨Nat.le_of_ble_eq_true rfl, Nat.le_of_ble_eq_true rfl⟩ hcl rfl hl.1 rfl rfl (Nat.le_of_ble_eq_true rfl) d_law_997 (fun H locs w => ?_)
  refine W.eq (g2 := F0 m 1000 ls [.int _]) rfl ?_
  refine lv_aload_n hx hb d_law_1000 rfl (lv_at hl 2 rfl) ?_
  refine lsld (k := 1) C w.2.2 hl hi hL hx3 rfl (by omega) d_law_1001 d_law_1002 d_law_1003 d_law_1004 d_law_1005 ?_
  refine lsld (k := 2) C w.2.2 hl hi hL hx3 rfl (by omega) d_law_1006 d_law_1007 d_law_1008 d_law_1009 d_law_1010 ?_
  refine lsld (k := 3) C w.2.2 hl hi hL hx3 rfl (by omega) d_law_1011 d_law_1012 d_law_1013 d_law_1014 d_law_1015 ?_
  refine lsld (k := 4) C w.2.2 hl hi hL hx3 rfl (by omega) d_law_1016 d_law_1017 d_law_1018 d_law_1019 d_law_1020 ?_
  refine lcM (As := [.int (xs (i + 1)), .int (xs (i + 2)), .int (xs (i + 3)), .int (xs (i + 4))]) (rest := [.int _]) C w (m_X12_valueOn N _ _ _ _ _ e2) mf_X12_valueOn mv_X12_valueOn ml_law_151 ⟨rfl, rfl⟩ ⟨Nat.le_of_ble_eq_true rfl, Nat.le_of_ble_eq_true rfl⟩ hcl rfl hl.1 rfl rfl (Nat.le_of_ble_eq_true rfl) d_law_1021 (fun H locs w => ?_)
  refine W.eq (g2 := F0 m 1024 ls [.int _, .int _]) rfl ?_
  exact lv_icmp_eq (tgt := 1052) hx hb d_law_1024 (by decide) (fun _ => kend σ τ _ _ hR w) (fun h => absurd rfl h)
theorem lw_case_33 (hN : 802 < N) (C : LA g qx qm b L xs p s m c) (w : LWd g qx qm s σ τ H locs) (hR : RelE σ τ) (hi : i + 6 ≤ L) (hL : L ≤ 3072) (hx3 : x3 = nI i) (hl : lv_has ls 4 [(0, .ref b), (1, .ref (qx 0)), (2, .ref (qm 0)), (3, .int x3)]) (hcl : cells ≤ room_1.cells ∧ slots ≤ room_1.slots) (kend : ∀ (σ τ : St) (H : Heap) (locs : List Loc), RelE σ τ → LWd g qx qm s σ τ H locs → W p l e room_1 s m #[Value.ref b] below meth c H locs cells slots Q (F0 m 1052 ls [])) : W p l e room_1 s m #[Value.ref b] below meth c H locs cells slots Q (F0 m 1029 ls []) := by
  have hx := C.1
  have hb := C.2.1
  have e2 := r_count hR (xs (i + 1))
  refine lv_aload_n hx hb d_law_1029 rfl (lv_at hl 1 rfl) ?_
  refine lsld (k := 1) C w.2.2 hl hi hL hx3 rfl (by omega) d_law_1030 d_law_1031 d_law_1032 d_law_1033 d_law_1034 ?_
  refine lcX (As := [.int (xs (i + 1))]) (rest := []) C w (m_X11_count _ _ rfl) mf_X11_count mv_X11_count ml_law_152 ⟨rfl, rfl⟩ ⟨Nat.le_of_ble_eq_true rfl, Nat.le_of_ble_eq_true rfl⟩ hcl rfl hl.1 rfl rfl (Nat.le_of_ble_eq_true rfl) d_law_1035 (fun H locs w => ?_)
  refine W.eq (g2 := F0 m 1038 ls [.int _]) rfl ?_
  refine lv_aload_n hx hb d_law_1038 rfl (lv_at hl 2 rfl) ?_
  refine lsld (k := 1) C w.2.2 hl hi hL hx3 rfl (by omega) d_law_1039 d_law_1040 d_law_1041 d_law_1042 d_law_1043 ?_
  refine lcM (As := [.int (xs (i + 1))]) (rest := [.int _]) C w (m_X12_count _ _ e2) mf_X12_count mv_X12_count ml_law_155 ⟨rfl, rfl⟩ ⟨Nat.le_of_ble_eq_true rfl, Nat.le_of_ble_eq_true rfl⟩ hcl rfl hl.1 rfl rfl (Nat.le_of_ble_eq_true rfl) d_law_1044 (fun H locs w => ?_)
  refine W.eq (g2 := F0 m 1047 ls [.int _, .int _]) rfl ?_
  exact lv_icmp_eq (tgt := 1052) hx hb d_law_1047 (by decide) (fun _ => kend σ τ _ _ hR w) (fun h => absurd rfl h)
end LAWC
