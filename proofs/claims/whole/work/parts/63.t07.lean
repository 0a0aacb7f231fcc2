section LAWC
variable {p : Program} {l : Launch} {e : Env} {s : State} {m : MethodId} {below : List Frame} {meth : Method} {c : Code} {H : Heap} {locs : List Loc} {cells slots : Nat} {Q : State → Prop}
variable {g : XG} {qx qm : Nat → Nat} {b L i N : Nat} {xs : Nat → Int32} {x3 : Int32} {ls : Array Slot} {σ τ : St}
theorem lw_case_18 (hN : 802 < N) (C : LA g qx qm b L xs p s m c) (w : LWd g qx qm s σ τ H locs) (hR : RelE σ τ) (hi : i + 6 ≤ L) (hL : L ≤ 3072) (hx3 : x3 = nI i) (hl : lv_has ls 4 [(0, .ref b), (1, .ref (qx 0)), (2, .ref (qm 0)), (3, .int x3)]) (hcl : cells ≤ room_1.cells ∧ slots ≤ room_1.slots) (kend : ∀ (σ τ : St) (H : Heap) (locs : List Loc), RelE σ τ → LWd g qx qm s σ τ H locs → W p l e room_1 s m #[Value.ref b] below meth c H locs cells slots Q (F0 m 1052 ls [])) : W p l e room_1 s m #[Value.ref b] below meth c H locs cells slots Q (F0 m 654 ls []) := by
  have hx := C.1
  have hb := C.2.1
  obtain ⟨r, σ', τ', e1, e2, hR⟩ := r_ways hN hR
  refine lv_aload_n hx hb d_law_654 rfl (lv_at hl 1 rfl) ?_
  refine lcX (As := []) (rest := []) C w (m_X11_ways N _ e1) mf_X11_ways mv_X11_ways ml_law_90 ⟨rfl, rfl⟩ ⟨Nat.le_of_ble_eq_true rfl, Nat.le_of_ble_eq_true rfl⟩ hcl rfl hl.1 rfl rfl (Nat.le_of_ble_eq_true rfl) d_law_655 (fun H locs w => ?_)
  refine W.eq (g2 := F0 m 658 ls [.int _]) rfl ?_
  refine lv_aload_n hx hb d_law_658 rfl (lv_at hl 2 rfl) ?_
  refine lcM (As := []) (rest := [.int _]) C w (m_X12_ways N _ e2) mf_X12_ways mv_X12_ways ml_law_93 ⟨rfl, rfl⟩ ⟨Nat.le_of_ble_eq_true rfl, Nat.le_of_ble_eq_true rfl⟩ hcl rfl hl.1 rfl rfl (Nat.le_of_ble_eq_true rfl) d_law_659 (fun H locs w => ?_)
  refine W.eq (g2 := F0 m 662 ls [.int _, .int _]) rfl ?_
  exact lv_icmp_eq (tgt := 1052) hx hb d_law_662 (by decide) (fun _ => kend σ' τ' _ _ hR w) (fun h => absurd rfl h)
theorem lw_case_19 (hN : 802 < N) (C : LA g qx qm b L xs p s m c) (w : LWd g qx qm s σ τ H locs) (hR : RelE σ τ) (hi : i + 6 ≤ L) (hL : L ≤ 3072) (hx3 : x3 = nI i) (hl : lv_has ls 4 [(0, .ref b), (1, .ref (qx 0)), (2, .ref (qm 0)), (3, .int x3)]) (hcl : cells ≤ room_1.cells ∧ slots ≤ room_1.slots) (kend : ∀ (σ τ : St) (H : Heap) (locs : List Loc), RelE σ τ → LWd g qx qm s σ τ H locs → W p l e room_1 s m #[Value.ref b] below meth c H locs cells slots Q (F0 m 1052 ls [])) : W p l e room_1 s m #[Value.ref b] below meth c H locs cells slots Q (F0 m 667 ls []) := by
  have hx := C.1
  have hb := C.2.1
  obtain ⟨r, σ', τ', e1, e2, hR⟩ := r_waysOn hN hR (xs (i + 1)) (xs (i + 2))
  refine lv_aload_n hx hb d_law_667 rfl (lv_at hl 1 rfl) ?_
  refine lsld (k := 1) C w.2.2 hl hi hL hx3 rfl (by omega) d_law_668 d_law_669 d_law_670 d_law_671 d_law_672 ?_
  refine lsld (k := 2) C w.2.2 hl hi hL hx3 rfl (by omega) d_law_673 d_law_674 d_law_675 d_law_676 d_law_677 ?_
  refine lcX (As := [.int (xs (i + 1)), .int (xs (i + 2))]) (rest := []) C w (m_X11_waysOn N _ _ _ e1) mf_X11_waysOn mv_X11_waysOn ml_law_94 ⟨rfl, rfl⟩ ⟨Nat.le_of_ble_eq_true rfl, Nat.le_of_ble_eq_true rfl⟩ hcl rfl hl.1 rfl rfl (Nat.le_of_ble_eq_true rfl) d_law_678 (fun H locs w => ?_)
  refine W.eq (g2 := F0 m 681 ls [.int _]) rfl ?_
  refine lv_aload_n hx hb d_law_681 rfl (lv_at hl 2 rfl) ?_
  refine lsld (k := 1) C w.2.2 hl hi hL hx3 rfl (by omega) d_law_682 d_law_683 d_law_684 d_law_685 d_law_686 ?_
  refine lsld (k := 2) C w.2.2 hl hi hL hx3 rfl (by omega) d_law_687 d_law_688 d_law_689 d_law_690 d_law_691 ?_
  refine lcM (As := [.int (xs (i + 1)), .int (xs (i + 2))]) (rest := [.int _]) C w (m_X12_waysOn N _ _ _ e2) mf_X12_waysOn mv_X12_waysOn ml_law_97 ⟨rfl, rfl⟩ ⟨Nat.le_of_ble_eq_true rfl, Nat.le_of_ble_eq_true rfl⟩ hcl rfl hl.1 rfl rfl (Nat.le_of_ble_eq_true rfl) d_law_692 (fun H locs w => ?_)
  refine W.eq (g2 := F0 m 695 ls [.int _, .int _]) rfl ?_
  exact lv_icmp_eq (tgt := 1052) hx hb d_law_695 (by decide) (fun _ => kend σ' τ' _ _ hR w) (fun h => absurd rfl h)
theorem lw_case_20 (hN : 802 < N) (C : LA g qx qm b L xs p s m c) (w : LWd g qx qm s σ τ H locs) (hR : RelE σ τ) (hi : i + 6 ≤ L) (hL : L ≤ 3072) (hx3 : x3 = nI i) (hl : lv_has ls 4 [(0, .ref b), (1, .ref (qx 0)), (2, .ref (qm 0)), (3, .int x3)]) (hcl : cells ≤ room_1.cells ∧ slots ≤ room_1.slots) (kend : ∀ (σ τ : St) (H : Heap) (locs : List Loc), RelE σ τ → LWd g qx qm s σ τ H locs → W p l e room_1 s m #[Value.ref b] below meth c H locs cells slots Q (F0 m 1052 ls [])) : W p l e room_1 s m #[Value.ref b] below meth c H locs cells slots Q (F0 m 700 ls []) := by
  have hx := C.1
  have hb := C.2.1
  obtain ⟨r, σ', τ', e1, e2, hR⟩ := r_read hN hR
  refine lv_aload_n hx hb d_law_700 rfl (lv_at hl 1 rfl) ?_
  refine lcX (As := []) (rest := []) C w (m_X11_read N _ e1) mf_X11_read mv_X11_read ml_law_98 ⟨rfl, rfl⟩ ⟨Nat.le_of_ble_eq_true rfl, Nat.le_of_ble_eq_true rfl⟩ hcl rfl hl.1 rfl rfl (Nat.le_of_ble_eq_true rfl) d_law_701 (fun H locs w => ?_)
  refine W.eq (g2 := F0 m 704 ls [.int _]) rfl ?_
  refine lv_aload_n hx hb d_law_704 rfl (lv_at hl 2 rfl) ?_
  refine lcM (As := []) (rest := [.int _]) C w (m_X12_read N _ e2) mf_X12_read mv_X12_read ml_law_101 ⟨rfl, rfl⟩ ⟨Nat.le_of_ble_eq_true rfl, Nat.le_of_ble_eq_true rfl⟩ hcl rfl hl.1 rfl rfl (Nat.le_of_ble_eq_true rfl) d_law_705 (fun H locs w => ?_)
  refine W.eq (g2 := F0 m 708 ls [.int _, .int _]) rfl ?_
  exact lv_icmp_eq (tgt := 1052) hx hb d_law_708 (by decide) (fun _ => kend σ' τ' _ _ hR w) (fun h => absurd rfl h)
theorem lw_case_21 (hN : 802 < N) (C : LA g qx qm b L xs p s m c) (w : LWd g qx qm s σ τ H locs) (hR : RelE σ τ) (hi : i + 6 ≤ L) (hL : L ≤ 3072) (hx3 : x3 = nI i) (hl : lv_has ls 4 [(0, .ref b), (1, .ref (qx 0)), (2, .ref (qm 0)), (3, .int x3)]) (hcl : cells ≤ room_1.cells ∧ slots ≤ room_1.slots) (kend : ∀ (σ τ : St) (H : Heap) (locs : List Loc), RelE σ τ → LWd g qx qm s σ τ H locs → W p l e room_1 s m #[Value.ref b] below meth c H locs cells slots Q (F0 m 1052 ls [])) : W p l e room_1 s m #[Value.ref b] below meth c H locs cells slots Q (F0 m 713 ls []) := by
  have hx := C.1
  have hb := C.2.1
  obtain ⟨r, e1, e2⟩ := r_readTerm hR (xs (i + 1)) (xs (i + 2))
  refine lv_aload_n hx hb d_law_713 rfl (lv_at hl 1 rfl) ?_
  refine lsld (k := 1) C w.2.2 hl hi hL hx3 rfl (by omega) d_law_714 d_law_715 d_law_716 d_law_717 d_law_718 ?_
  refine lsld (k := 2) C w.2.2 hl hi hL hx3 rfl (by omega) d_law_719 d_law_720 d_law_721 d_law_722 d_law_723 ?_
  refine lcX (As := [.int (xs (i + 1)), .int (xs (i + 2))]) (rest := []) C w (m_X11_readTerm _ _ _ e1) mf_X11_readTerm mv_X11_readTerm ml_law_102 ⟨rfl, rfl⟩ ⟨Nat.le_of_ble_eq_true rfl, Nat.le_of_ble_eq_true rfl⟩ hcl rfl hl.1 rfl rfl (Nat.le_of_ble_eq_true rfl) d_law_724 (fun H locs w => ?_)
  refine W.eq (g2 := F0 m 727 ls [.int _]) rfl ?_
  refine lv_aload_n hx hb d_law_727 rfl (lv_at hl 2 rfl) ?_
  refine lsld (k := 1) C w.2.2 hl hi hL hx3 rfl (by omega) d_law_728 d_law_729 d_law_730 d_law_731 d_law_732 ?_
  refine lsld (k := 2) C w.2.2 hl hi hL hx3 rfl (by omega) d_law_733 d_law_734 d_law_735 d_law_736 d_law_737 ?_
  refine lcM (As := [.int (xs (i + 1)), .int (xs (i + 2))]) (rest := [.int _]) C w (m_X12_readTerm _ _ _ e2) mf_X12_readTerm mv_X12_readTerm ml_law_105 ⟨rfl, rfl⟩ ⟨Nat.le_of_ble_eq_true rfl, Nat.le_of_ble_eq_true rfl⟩ hcl rfl hl.1 rfl rfl (Nat.le_of_ble_eq_true rfl) d_law_738 (fun H locs w => ?_)
  refine W.eq (g2 := F0 m 741 ls [.int _, .int _]) rfl ?_
  exact lv_icmp_eq (tgt := 1052) hx hb d_law_741 (by decide) (fun _ => kend σ τ _ _ hR w) (fun h => absurd rfl h)
theorem lw_case_22 (hN : 802 < N) (C : LA g qx qm b L xs p s m c) (w : LWd g qx qm s σ τ H locs) (hR : RelE σ τ) (hi : i + 6 ≤ L) (hL : L ≤ 3072) (hx3 : x3 = nI i) (hl : lv_has ls 4 [(0, .ref b), (1, .ref (qx 0)), (2, .ref (qm 0)), (3, .int x3)]) (hcl : cells ≤ room_1.cells ∧ slots ≤ room_1.slots) (kend : ∀ (σ τ : St) (H : Heap) (locs : List Loc), RelE σ τ → LWd g qx qm s σ τ H locs → W p l e room_1 s m #[Value.ref b] below meth c H locs cells slots Q (F0 m 1052 ls [])) : W p l e room_1 s m #[Value.ref b] below meth c H locs cells slots Q (F0 m 746 ls []) := by
  have hx := C.1
  have hb := C.2.1
  obtain ⟨r, σ', τ', e1, e2, hR⟩ := r_spells hN hR (xs (i + 1))
  refine lv_aload_n hx hb d_law_746 rfl (lv_at hl 1 rfl) ?_
  refine lsld (k := 1) C w.2.2 hl hi hL hx3 rfl (by omega) d_law_747 d_law_748 d_law_749 d_law_750 d_law_751 ?_
  refine lcX (As := [.int (xs (i + 1))]) (rest := []) C w (m_X11_spells N _ _ e1) mf_X11_spells mv_X11_spells ml_law_106 ⟨rfl, rfl⟩ ⟨Nat.le_of_ble_eq_true rfl, Nat.le_of_ble_eq_true rfl⟩ hcl rfl hl.1 rfl rfl (Nat.le_of_ble_eq_true rfl) d_law_752 (fun H locs w => ?_)
  refine W.eq (g2 := F0 m 755 ls [.int _]) rfl ?_
  refine lv_aload_n hx hb d_law_755 rfl (lv_at hl 2 rfl) ?_
  refine lsld (k := 1) C w.2.2 hl hi hL hx3 rfl (by omega) d_law_756 d_law_757 d_law_758 d_law_759 d_law_760 ?_
  refine lcM (As := [.int (xs (i + 1))]) (rest := [.int _]) C w (m_X12_spells N _ _ e2) mf_X12_spells mv_X12_spells ml_law_109 ⟨rfl, rfl⟩ ⟨Nat.le_of_ble_eq_true rfl, Nat.le_of_ble_eq_true rfl⟩ hcl rfl hl.1 rfl rfl (Nat.le_of_ble_eq_true rfl) d_law_761 (fun H locs w => ?_)
  refine W.eq (g2 := F0 m 764 ls [.int _, .int _]) rfl ?_
  exact lv_icmp_eq (tgt := 1052) hx hb d_law_764 (by decide) (fun _ => kend σ' τ' _ _ hR w) (fun h => absurd rfl h)
theorem lw_case_23 (hN : 802 < N) (C : LA g qx qm b L xs p s m c) (w : LWd g qx qm s σ τ H locs) (hR : RelE σ τ) (hi : i + 6 ≤ L) (hL : L ≤ 3072) (hx3 : x3 = nI i) (hl : lv_has ls 4 [(0, .ref b), (1, .ref (qx 0)), (2, .ref (qm 0)), (3, .int x3)]) (hcl : cells ≤ room_1.cells ∧ slots ≤ room_1.slots) (kend : ∀ (σ τ : St) (H : Heap) (locs : List Loc), RelE σ τ → LWd g qx qm s σ τ H locs → W p l e room_1 s m #[Value.ref b] below meth c H locs cells slots Q (F0 m 1052 ls [])) : W p l e room_1 s m #[Value.ref b] below meth c H locs cells slots Q (F0 m 769 ls []) := by
  have hx := C.1
  have hb := C.2.1
  obtain ⟨r, σ', τ', e1, e2, hR⟩ := r_group hN hR
  refine lv_aload_n hx hb d_law_769 rfl (lv_at hl 1 rfl) ?_
  refine lcX (As := []) (rest := []) C w (m_X11_group N _ e1) mf_X11_group mv_X11_group ml_law_110 ⟨rfl, rfl⟩ ⟨Nat.le_of_ble_eq_true rfl, Nat.le_of_ble_eq_true rfl⟩ hcl rfl hl.1 rfl rfl (Nat.le_of_ble_eq_true rfl) d_law_770 (fun H locs w => ?_)
  refine W.eq (g2 := F0 m 773 ls [.int _]) rfl ?_
  refine lv_aload_n hx hb d_law_773 rfl (lv_at hl 2 rfl) ?_
  refine lcM (As := []) (rest := [.int _]) C w (m_X12_group N _ e2) mf_X12_group mv_X12_group ml_law_113 ⟨rfl, rfl⟩ ⟨Nat.le_of_ble_eq_true rfl, Nat.le_of_ble_eq_true rfl⟩ hcl rfl hl.1 rfl rfl (Nat.le_of_ble_eq_true rfl) d_law_774 (fun H locs w => ?_)
  refine W.eq (g2 := F0 m 777 ls [.int _, .int _]) rfl ?_
  exact lv_icmp_eq (tgt := 1052) hx hb d_law_777 (by decide) (fun _ => kend σ' τ' _ _ hR w) (fun h => absurd rfl h)
theorem lw_case_24 (hN : 802 < N) (C : LA g qx qm b L xs p s m c) (w : LWd g qx qm s σ τ H locs) (hR : RelE σ τ) (hi : i + 6 ≤ L) (hL : L ≤ 3072) (hx3 : x3 = nI i) (hl : lv_has ls 4 [(0, .ref b), (1, .ref (qx 0)), (2, .ref (qm 0)), (3, .int x3)]) (hcl : cells ≤ room_1.cells ∧ slots ≤ room_1.slots) (kend : ∀ (σ τ : St) (H : Heap) (locs : List Loc), RelE σ τ → LWd g qx qm s σ τ H locs → W p l e room_1 s m #[Value.ref b] below meth c H locs cells slots Q (F0 m 1052 ls [])) : W p l e room_1 s m #[Value.ref b] below meth c H locs cells slots Q (F0 m 782 ls []) := by
  have hx := C.1
  have hb := C.2.1
  obtain ⟨r, e1, e2⟩ := r_grouped hR (xs (i + 1)) (xs (i + 2))
  refine lv_aload_n hx hb d_law_782 rfl (lv_at hl 1 rfl) ?_
  refine lsld (k := 1) C w.2.2 hl hi hL hx3 rfl (by omega) d_law_783 d_law_784 d_law_785 d_law_786 d_law_787 ?_
  refine lsld (k := 2) C w.2.2 hl hi hL hx3 rfl (by omega) d_law_788 d_law_789 d_law_790 d_law_791 d_law_792 ?_
  refine lcX (As := [.int (xs (i + 1)), .int (xs (i + 2))]) (rest := []) C w (m_X11_grouped _ _ _ e1) mf_X11_grouped mv_X11_grouped ml_law_114 ⟨rfl, rfl⟩ ⟨Nat.le_of_ble_eq_true rfl, Nat.le_of_ble_eq_true rfl⟩ hcl rfl hl.1 rfl rfl (Nat.le_of_ble_eq_true rfl) d_law_793 (fun H locs w => ?_)
  refine W.eq (g2 := F0 m 796 ls [.int _]) rfl ?_
  refine lv_aload_n hx hb d_law_796 rfl (lv_at hl 2 rfl) ?_
  refine lsld (k := 1) C w.2.2 hl hi hL hx3 rfl (by omega) d_law_797 d_law_798 d_law_799 d_law_800 d_law_801 ?_
  refine lsld (k := 2) C w.2.2 hl hi hL hx3 rfl (by omega) d_law_802 d_law_803 d_law_804 d_law_805 d_law_806 ?_
  refine lcM (As := [.int (xs (i + 1)), .int (xs (i + 2))]) (rest := [.int _]) C w (m_X12_grouped _ _ _ e2) mf_X12_grouped mv_X12_grouped ml_law_117 ⟨rfl, rfl⟩ ⟨Nat.le_of_ble_eq_true rfl, Nat.le_of_ble_eq_true rfl⟩ hcl rfl hl.1 rfl rfl (Nat.le_of_ble_eq_true rfl) d_law_807 (fun H locs w => ?_)
  refine W.eq (g2 := F0 m 810 ls [.int _, .int _]) rfl ?_
  exact lv_icmp_eq (tgt := 1052) hx hb d_law_810 (by decide) (fun _ => kend σ τ _ _ hR w) (fun h => absurd rfl h)
theorem lw_case_25 (hN : 802 < N) (C : LA g qx qm b L xs p s m c) (w : LWd g qx qm s σ τ H locs) (hR : RelE σ τ) (hi : i + 6 ≤ L) (hL : L ≤ 3072) (hx3 : x3 = nI i) (hl : lv_has ls 4 [(0, .ref b), (1, .ref (qx 0)), (2, .ref (qm 0)), (3, .int x3)]) (hcl : cells ≤ room_1.cells ∧ slots ≤ room_1.slots) (kend : ∀ (σ τ : St) (H : Heap) (locs : List Loc), RelE σ τ → LWd g qx qm s σ τ H locs → W p l e room_1 s m #[Value.ref b] below meth c H locs cells slots Q (F0 m 1052 ls [])) : W p l e room_1 s m #[Value.ref b] below meth c H locs cells slots Q (F0 m 815 ls []) := by
  have hx := C.1
  have hb := C.2.1
  obtain ⟨r, σ', τ', e1, e2, hR⟩ := r_clear hR
  refine lv_aload_n hx hb d_law_815 rfl (lv_at hl 1 rfl) ?_
  refine lcX (As := []) (rest := []) C w (m_X11_clear _ e1) mf_X11_clear mv_X11_clear ml_law_118 ⟨rfl, rfl⟩ ⟨Nat.le_of_ble_eq_true rfl, Nat.le_of_ble_eq_true rfl⟩ hcl rfl hl.1 rfl rfl (Nat.le_of_ble_eq_true rfl) d_law_816 (fun H locs w => ?_)
  refine W.eq (g2 := F0 m 819 ls [.int _]) rfl ?_
  refine lv_aload_n hx hb d_law_819 rfl (lv_at hl 2 rfl) ?_
  refine lcM (As := []) (rest := [.int _]) C w (m_X12_clear _ e2) mf_X12_clear mv_X12_clear ml_law_121 ⟨rfl, rfl⟩ ⟨Nat.le_of_ble_eq_true rfl, Nat.le_of_ble_eq_true rfl⟩ hcl rfl hl.1 rfl rfl (Nat.le_of_ble_eq_true rfl) d_law_820 (fun H locs w => ?_)
  refine W.eq (g2 := F0 m 823 ls [.int _, .int _]) rfl ?_
  exact lv_icmp_eq (tgt := 1052) hx hb d_law_823 (by decide) (fun _ => kend σ' τ' _ _ hR w) (fun h => absurd rfl h)
theorem lw_case_26 (hN : 802 < N) (C : LA g qx qm b L xs p s m c) (w : LWd g qx qm s σ τ H locs) (hR : RelE σ τ) (hi : i + 6 ≤ L) (hL : L ≤ 3072) (hx3 : x3 = nI i) (hl : lv_has ls 4 [(0, .ref b), (1, .ref (qx 0)), (2, .ref (qm 0)), (3, .int x3)]) (hcl : cells ≤ room_1.cells ∧ slots ≤ room_1.slots) (kend : ∀ (σ τ : St) (H : Heap) (locs : List Loc), RelE σ τ → LWd g qx qm s σ τ H locs → W p l e room_1 s m #[Value.ref b] below meth c H locs cells slots Q (F0 m 1052 ls [])) : W p l e room_1 s m #[Value.ref b] below meth c H locs cells slots Q (F0 m 828 ls []) := by
  have hx := C.1
  have hb := C.2.1
  obtain ⟨r, σ', τ', e1, e2, hR⟩ := r_say hR (xs (i + 1))
  refine lv_aload_n hx hb d_law_828 rfl (lv_at hl 1 rfl) ?_
  refine lsld (k := 1) C w.2.2 hl hi hL hx3 rfl (by omega) d_law_829 d_law_830 d_law_831 d_law_832 d_law_833 ?_
  refine lcX (As := [.int (xs (i + 1))]) (rest := []) C w (m_X11_say _ _ e1) mf_X11_say mv_X11_say ml_law_122 ⟨rfl, rfl⟩ ⟨Nat.le_of_ble_eq_true rfl, Nat.le_of_ble_eq_true rfl⟩ hcl rfl hl.1 rfl rfl (Nat.le_of_ble_eq_true rfl) d_law_834 (fun H locs w => ?_)
  refine W.eq (g2 := F0 m 837 ls [.int _]) rfl ?_
  refine lv_aload_n hx hb d_law_837 rfl (lv_at hl 2 rfl) ?_
  refine lsld (k := 1) C w.2.2 hl hi hL hx3 rfl (by omega) d_law_838 d_law_839 d_law_840 d_law_841 d_law_842 ?_
  refine lcM (As := [.int (xs (i + 1))]) (rest := [.int _]) C w (m_X12_say _ _ e2) mf_X12_say mv_X12_say ml_law_125 ⟨rfl, rfl⟩ ⟨Nat.le_of_ble_eq_true rfl, Nat.le_of_ble_eq_true rfl⟩ hcl rfl hl.1 rfl rfl (Nat.le_of_ble_eq_true rfl) d_law_843 (fun H locs w => ?_)
  refine W.eq (g2 := F0 m 846 ls [.int _, .int _]) rfl ?_
  exact lv_icmp_eq (tgt := 1052) hx hb d_law_846 (by decide) (fun _ => kend σ' τ' _ _ hR w) (fun h => absurd rfl h)
end LAWC
