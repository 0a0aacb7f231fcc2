section LAWC
variable {p : Program} {l : Launch} {e : Env} {s : State} {m : MethodId} {below : List Frame} {meth : Method} {c : Code} {H : Heap} {locs : List Loc} {cells slots : Nat} {Q : State → Prop}
variable {g : XG} {qx qm : Nat → Nat} {b L i N : Nat} {xs : Nat → Int32} {x3 : Int32} {ls : Array Slot} {σ τ : St}
theorem lw_case_9 (hN : 802 < N) (C : LA g qx qm b L xs p s m c) (w : LWd g qx qm s σ τ H locs) (hR : RelE σ τ) (hi : i + 6 ≤ L) (hL : L ≤ 3072) (hx3 : x3 = nI i) (hl : lv_has ls 4 [(0, .ref b), (1, .ref (qx 0)), (2, .ref (qm 0)), (3, .int x3)]) (hcl : cells ≤ room_1.cells ∧ slots ≤ room_1.slots) (kend : ∀ (σ τ : St) (H : Heap) (locs : List Loc), RelE σ τ → LWd g qx qm s σ τ H locs → W p l e room_1 s m #[Value.ref b] below meth c H locs cells slots Q (F0 m 1052 ls [])) : W p l e room_1 s m #[Value.ref b] below meth c H locs cells slots Q (F0 m 421 ls []) := by
  have hx := C.1
  have hb := C.2.1
  obtain ⟨r, e1, e2⟩ := r_box hR (xs (i + 1)) (xs (i + 2))
  refine lv_aload_n hx hb d_law_421 rfl (lv_at hl 1 rfl) ?_
  refine lsld (k := 1) C w.2.2 hl hi hL hx3 rfl (by omega) d_law_422 d_law_423 d_law_424 d_law_425 d_law_426 ?_
  refine lsld (k := 2) C w.2.2 hl hi hL hx3 rfl (by omega) d_law_427 d_law_428 d_law_429 d_law_430 d_law_431 ?_
  refine lcX (As := [.int (xs (i + 1)), .int (xs (i + 2))]) (rest := []) C w (m_X11_box _ _ _ e1) mf_X11_box mv_X11_box ml_law_53 ⟨rfl, rfl⟩ ⟨Nat.le_of_ble_eq_true rfl, Nat.le_of_ble_eq_true rfl⟩ hcl rfl hl.1 rfl rfl (Nat.le_of_ble_eq_true rfl) d_law_432 (fun H locs w => ?_)
  refine W.eq (g2 := F0 m 435 ls [.int _]) rfl ?_
  refine lv_aload_n hx hb d_law_435 rfl (lv_at hl 2 rfl) ?_
  refine lsld (k := 1) C w.2.2 hl hi hL hx3 rfl (by omega) d_law_436 d_law_437 d_law_438 d_law_439 d_law_440 ?_
  refine lsld (k := 2) C w.2.2 hl hi hL hx3 rfl (by omega) d_law_441 d_law_442 d_law_443 d_law_444 d_law_445 ?_
  refine lcM (As := [.int (xs (i + 1)), .int (xs (i + 2))]) (rest := [.int _]) C w (m_X12_box _ _ _ e2) mf_X12_box mv_X12_box ml_law_56 ⟨rfl, rfl⟩ ⟨Nat.le_of_ble_eq_true rfl, Nat.le_of_ble_eq_true rfl⟩ hcl rfl hl.1 rfl rfl (Nat.le_of_ble_eq_true rfl) d_law_446 (fun H locs w => ?_)
  refine W.eq (g2 := F0 m 449 ls [.int _, .int _]) rfl ?_
  exact lv_icmp_eq (tgt := 1052) hx hb d_law_449 (by decide) (fun _ => kend σ τ _ _ hR w) (fun h => absurd rfl h)
theorem lw_case_10 (hN : 802 < N) (C : LA g qx qm b L xs p s m c) (w : LWd g qx qm s σ τ H locs) (hR : RelE σ τ) (hi : i + 6 ≤ L) (hL : L ≤ 3072) (hx3 : x3 = nI i) (hl : lv_has ls 4 [(0, .ref b), (1, .ref (qx 0)), (2, .ref (qm 0)), (3, .int x3)]) (hcl : cells ≤ room_1.cells ∧ slots ≤ room_1.slots) (kend : ∀ (σ τ : St) (H : Heap) (locs : List Loc), RelE σ τ → LWd g qx qm s σ τ H locs → W p l e room_1 s m #[Value.ref b] below meth c H locs cells slots Q (F0 m 1052 ls [])) : W p l e room_1 s m #[Value.ref b] below meth c H locs cells slots Q (F0 m 454 ls []) := by
  have hx := C.1
  have hb := C.2.1
  by_cases hz : xs (i + 1) = 0
  · obtain ⟨r, σ', τ', e1, e2, hR⟩ := r_face hR 0 rfl
    refine lv_aload_n hx hb d_law_454 rfl (lv_at hl 1 rfl) ?_
    refine lsld (k := 1) C w.2.2 hl hi hL hx3 rfl (by omega) d_law_455 d_law_456 d_law_457 d_law_458 d_law_459 ?_
    refine lv_if_eq (tgt := 467) hx hb d_law_460 (by decide) (fun _ => ?_) (fun h => absurd hz h)
    refine lv_iconst (v := 0) hx hb d_law_467 rfl ?_
    refine lcX (As := [.int 0]) (rest := []) C w (m_X11_face _ _ e1) mf_X11_face mv_X11_face ml_law_57 ⟨rfl, rfl⟩ ⟨Nat.le_of_ble_eq_true rfl, Nat.le_of_ble_eq_true rfl⟩ hcl rfl hl.1 rfl rfl (Nat.le_of_ble_eq_true rfl) d_law_468 (fun H locs w => ?_)
    refine W.eq (g2 := F0 m 471 ls [.int _]) rfl ?_
    refine lv_aload_n hx hb d_law_471 rfl (lv_at hl 2 rfl) ?_
    refine lsld (k := 1) C w.2.2 hl hi hL hx3 rfl (by omega) d_law_472 d_law_473 d_law_474 d_law_475 d_law_476 ?_
    refine lv_if_eq (tgt := 484) hx hb d_law_477 (by decide) (fun _ => ?_) (fun h => absurd hz h)
    refine lv_iconst (v := 0) hx hb d_law_484 rfl ?_
    refine lcM (As := [.int 0]) (rest := [.int _]) C w (m_X12_face _ _ e2) mf_X12_face mv_X12_face ml_law_61 ⟨rfl, rfl⟩ ⟨Nat.le_of_ble_eq_true rfl, Nat.le_of_ble_eq_true rfl⟩ hcl rfl hl.1 rfl rfl (Nat.le_of_ble_eq_true rfl) d_law_485 (fun H locs w => ?_)
    refine W.eq (g2 := F0 m 488 ls [.int _, .int _]) rfl ?_
    exact lv_icmp_eq (tgt := 1052) hx hb d_law_488 (by decide) (fun _ => kend σ' τ' _ _ hR w) (fun h => absurd rfl h)
  · obtain ⟨r, σ', τ', e1, e2, hR⟩ := r_face hR 1 rfl
    refine lv_aload_n hx hb d_law_454 rfl (lv_at hl 1 rfl) ?_
    refine lsld (k := 1) C w.2.2 hl hi hL hx3 rfl (by omega) d_law_455 d_law_456 d_law_457 d_law_458 d_law_459 ?_
    refine lv_if_eq (tgt := 467) hx hb d_law_460 (by decide) (fun h => absurd h hz) (fun _ => ?_)
    refine lv_iconst (v := 1) hx hb d_law_463 rfl ?_
    refine lv_goto (tgt := 468) hx hb d_law_464 (by decide) ?_
    refine lcX (As := [.int 1]) (rest := []) C w (m_X11_face _ _ e1) mf_X11_face mv_X11_face ml_law_57 ⟨rfl, rfl⟩ ⟨Nat.le_of_ble_eq_true rfl, Nat.le_of_ble_eq_true rfl⟩ hcl rfl hl.1 rfl rfl (Nat.le_of_ble_eq_true rfl) d_law_468 (fun H locs w => ?_)
    refine W.eq (g2 := F0 m 471 ls [.int _]) rfl ?_
    refine lv_aload_n hx hb d_law_471 rfl (lv_at hl 2 rfl) ?_
    refine lsld (k := 1) C w.2.2 hl hi hL hx3 rfl (by omega) d_law_472 d_law_473 d_law_474 d_law_475 d_law_476 ?_
    refine lv_if_eq (tgt := 484) hx hb d_law_477 (by decide) (fun h => absurd h hz) (fun _ => ?_)
    refine lv_iconst (v := 1) hx hb d_law_480 rfl ?_
    refine lv_goto (tgt := 485) hx hb d_law_481 (by decide) ?_
    refine lcM (As := [.int 1]) (rest := [.int _]) C w (m_X12_face _ _ e2) mf_X12_face mv_X12_face ml_law_61 ⟨rfl, rfl⟩ ⟨Nat.le_of_ble_eq_true rfl, Nat.le_of_ble_eq_true rfl⟩ hcl rfl hl.1 rfl rfl (Nat.le_of_ble_eq_true rfl) d_law_485 (fun H locs w => ?_)
    refine W.eq (g2 := F0 m 488 ls [.int _, .int _]) rfl ?_
    exact lv_icmp_eq (tgt := 1052) hx hb d_law_488 (by decide) (fun _ => kend σ' τ' _ _ hR w) (fun h => absurd rfl h)
theorem lw_case_11 (hN : 802 < N) (C : LA g qx qm b L xs p s m c) (w : LWd g qx qm s σ τ H locs) (hR : RelE σ τ) (hi : i + 6 ≤ L) (hL : L ≤ 3072) (hx3 : x3 = nI i) (hl : lv_has ls 4 [(0, .ref b), (1, .ref (qx 0)), (2, .ref (qm 0)), (3, .int x3)]) (hcl : cells ≤ room_1.cells ∧ slots ≤ room_1.slots) (kend : ∀ (σ τ : St) (H : Heap) (locs : List Loc), RelE σ τ → LWd g qx qm s σ τ H locs → W p l e room_1 s m #[Value.ref b] below meth c H locs cells slots Q (F0 m 1052 ls [])) : W p l e room_1 s m #[Value.ref b] below meth c H locs cells slots Q (F0 m 493 ls []) := by
  have hx := C.1
  have hb := C.2.1
  obtain ⟨r, σ', τ', e1, e2, hR⟩ := r_term hN hR
  refine lv_aload_n hx hb d_law_493 rfl (lv_at hl 1 rfl) ?_
  refine lcX (As := []) (rest := []) C w (m_X11_term N _ e1) mf_X11_term mv_X11_term ml_law_62 ⟨rfl, rfl⟩ ⟨Nat.le_of_ble_eq_true rfl, Nat.le_of_ble_eq_true rfl⟩ hcl rfl hl.1 rfl rfl (Nat.le_of_ble_eq_true rfl) d_law_494 (fun H locs w => ?_)
  refine W.eq (g2 := F0 m 497 ls [.int _]) rfl ?_
  refine lv_aload_n hx hb d_law_497 rfl (lv_at hl 2 rfl) ?_
  refine lcM (As := []) (rest := [.int _]) C w (m_X12_term N _ e2) mf_X12_term mv_X12_term ml_law_65 ⟨rfl, rfl⟩ ⟨Nat.le_of_ble_eq_true rfl, Nat.le_of_ble_eq_true rfl⟩ hcl rfl hl.1 rfl rfl (Nat.le_of_ble_eq_true rfl) d_law_498 (fun H locs w => ?_)
  refine W.eq (g2 := F0 m 501 ls [.int _, .int _]) rfl ?_
  exact lv_icmp_eq (tgt := 1052) hx hb d_law_501 (by decide) (fun _ => kend σ' τ' _ _ hR w) (fun h => absurd rfl h)
theorem lw_case_12 (hN : 802 < N) (C : LA g qx qm b L xs p s m c) (w : LWd g qx qm s σ τ H locs) (hR : RelE σ τ) (hi : i + 6 ≤ L) (hL : L ≤ 3072) (hx3 : x3 = nI i) (hl : lv_has ls 4 [(0, .ref b), (1, .ref (qx 0)), (2, .ref (qm 0)), (3, .int x3)]) (hcl : cells ≤ room_1.cells ∧ slots ≤ room_1.slots) (kend : ∀ (σ τ : St) (H : Heap) (locs : List Loc), RelE σ τ → LWd g qx qm s σ τ H locs → W p l e room_1 s m #[Value.ref b] below meth c H locs cells slots Q (F0 m 1052 ls [])) : W p l e room_1 s m #[Value.ref b] below meth c H locs cells slots Q (F0 m 506 ls []) := by
  have hx := C.1
  have hb := C.2.1
  obtain ⟨r, e1, e2⟩ := r_about hR (xs (i + 1)) (xs (i + 2))
  refine lv_aload_n hx hb d_law_506 rfl (lv_at hl 1 rfl) ?_
  refine lsld (k := 1) C w.2.2 hl hi hL hx3 rfl (by omega) d_law_507 d_law_508 d_law_509 d_law_510 d_law_511 ?_
  refine lsld (k := 2) C w.2.2 hl hi hL hx3 rfl (by omega) d_law_512 d_law_513 d_law_514 d_law_515 d_law_516 ?_
  refine lcX (As := [.int (xs (i + 1)), .int (xs (i + 2))]) (rest := []) C w (m_X11_about _ _ _ e1) mf_X11_about mv_X11_about ml_law_66 ⟨rfl, rfl⟩ ⟨Nat.le_of_ble_eq_true rfl, Nat.le_of_ble_eq_true rfl⟩ hcl rfl hl.1 rfl rfl (Nat.le_of_ble_eq_true rfl) d_law_517 (fun H locs w => ?_)
  refine W.eq (g2 := F0 m 520 ls [.int _]) rfl ?_
  refine lv_aload_n hx hb d_law_520 rfl (lv_at hl 2 rfl) ?_
  refine lsld (k := 1) C w.2.2 hl hi hL hx3 rfl (by omega) d_law_521 d_law_522 d_law_523 d_law_524 d_law_525 ?_
  refine lsld (k := 2) C w.2.2 hl hi hL hx3 rfl (by omega) d_law_526 d_law_527 d_law_528 d_law_529 d_law_530 ?_
  refine lcM (As := [.int (xs (i + 1)), .int (xs (i + 2))]) (rest := [.int _]) C w (m_X12_about _ _ _ e2) mf_X12_about mv_X12_about ml_law_69 ⟨rfl, rfl⟩ ⟨Nat.le_of_ble_eq_true rfl, Nat.le_of_ble_eq_true rfl⟩ hcl rfl hl.1 rfl rfl (Nat.le_of_ble_eq_true rfl) d_law_531 (fun H locs w => ?_)
  refine W.eq (g2 := F0 m 534 ls [.int _, .int _]) rfl ?_
  exact lv_icmp_eq (tgt := 1052) hx hb d_law_534 (by decide) (fun _ => kend σ τ _ _ hR w) (fun h => absurd rfl h)
theorem lw_case_13 (hN : 802 < N) (C : LA g qx qm b L xs p s m c) (w : LWd g qx qm s σ τ H locs) (hR : RelE σ τ) (hi : i + 6 ≤ L) (hL : L ≤ 3072) (hx3 : x3 = nI i) (hl : lv_has ls 4 [(0, .ref b), (1, .ref (qx 0)), (2, .ref (qm 0)), (3, .int x3)]) (hcl : cells ≤ room_1.cells ∧ slots ≤ room_1.slots) (kend : ∀ (σ τ : St) (H : Heap) (locs : List Loc), RelE σ τ → LWd g qx qm s σ τ H locs → W p l e room_1 s m #[Value.ref b] below meth c H locs cells slots Q (F0 m 1052 ls [])) : W p l e room_1 s m #[Value.ref b] below meth c H locs cells slots Q (F0 m 539 ls []) := by
  have hx := C.1
  have hb := C.2.1
  obtain ⟨r, σ', τ', e1, e2, hR⟩ := r_spellings hN hR (xs (i + 1))
  refine lv_aload_n hx hb d_law_539 rfl (lv_at hl 1 rfl) ?_
  refine lsld (k := 1) C w.2.2 hl hi hL hx3 rfl (by omega) d_law_540 d_law_541 d_law_542 d_law_543 d_law_544 ?_
  refine lcX (As := [.int (xs (i + 1))]) (rest := []) C w (m_X11_spellings N _ _ e1) mf_X11_spellings mv_X11_spellings ml_law_70 ⟨rfl, rfl⟩ ⟨Nat.le_of_ble_eq_true rfl, Nat.le_of_ble_eq_true rfl⟩ hcl rfl hl.1 rfl rfl (Nat.le_of_ble_eq_true rfl) d_law_545 (fun H locs w => ?_)
  refine W.eq (g2 := F0 m 548 ls [.int _]) rfl ?_
  refine lv_aload_n hx hb d_law_548 rfl (lv_at hl 2 rfl) ?_
  refine lsld (k := 1) C w.2.2 hl hi hL hx3 rfl (by omega) d_law_549 d_law_550 d_law_551 d_law_552 d_law_553 ?_
  refine lcM (As := [.int (xs (i + 1))]) (rest := [.int _]) C w (m_X12_spellings N _ _ e2) mf_X12_spellings mv_X12_spellings ml_law_73 ⟨rfl, rfl⟩ ⟨Nat.le_of_ble_eq_true rfl, Nat.le_of_ble_eq_true rfl⟩ hcl rfl hl.1 rfl rfl (Nat.le_of_ble_eq_true rfl) d_law_554 (fun H locs w => ?_)
  refine W.eq (g2 := F0 m 557 ls [.int _, .int _]) rfl ?_
  exact lv_icmp_eq (tgt := 1052) hx hb d_law_557 (by decide) (fun _ => kend σ' τ' _ _ hR w) (fun h => absurd rfl h)
theorem lw_case_14 (hN : 802 < N) (C : LA g qx qm b L xs p s m c) (w : LWd g qx qm s σ τ H locs) (hR : RelE σ τ) (hi : i + 6 ≤ L) (hL : L ≤ 3072) (hx3 : x3 = nI i) (hl : lv_has ls 4 [(0, .ref b), (1, .ref (qx 0)), (2, .ref (qm 0)), (3, .int x3)]) (hcl : cells ≤ room_1.cells ∧ slots ≤ room_1.slots) (kend : ∀ (σ τ : St) (H : Heap) (locs : List Loc), RelE σ τ → LWd g qx qm s σ τ H locs → W p l e room_1 s m #[Value.ref b] below meth c H locs cells slots Q (F0 m 1052 ls [])) : W p l e room_1 s m #[Value.ref b] below meth c H locs cells slots Q (F0 m 562 ls []) := by
  have hx := C.1
  have hb := C.2.1
  obtain ⟨r, σ', τ', e1, e2, hR⟩ := r_best hN hR (xs (i + 1))
  refine lv_aload_n hx hb d_law_562 rfl (lv_at hl 1 rfl) ?_
  refine lsld (k := 1) C w.2.2 hl hi hL hx3 rfl (by omega) d_law_563 d_law_564 d_law_565 d_law_566 d_law_567 ?_
  refine lcX (As := [.int (xs (i + 1))]) (rest := []) C w (m_X11_best N _ _ e1) mf_X11_best mv_X11_best ml_law_74 ⟨rfl, rfl⟩ ⟨Nat.le_of_ble_eq_true rfl, Nat.le_of_ble_eq_true rfl⟩ hcl rfl hl.1 rfl rfl (Nat.le_of_ble_eq_true rfl) d_law_568 (fun H locs w => ?_)
  refine W.eq (g2 := F0 m 571 ls [.int _]) rfl ?_
  refine lv_aload_n hx hb d_law_571 rfl (lv_at hl 2 rfl) ?_
  refine lsld (k := 1) C w.2.2 hl hi hL hx3 rfl (by omega) d_law_572 d_law_573 d_law_574 d_law_575 d_law_576 ?_
  refine lcM (As := [.int (xs (i + 1))]) (rest := [.int _]) C w (m_X12_best N _ _ e2) mf_X12_best mv_X12_best ml_law_77 ⟨rfl, rfl⟩ ⟨Nat.le_of_ble_eq_true rfl, Nat.le_of_ble_eq_true rfl⟩ hcl rfl hl.1 rfl rfl (Nat.le_of_ble_eq_true rfl) d_law_577 (fun H locs w => ?_)
  refine W.eq (g2 := F0 m 580 ls [.int _, .int _]) rfl ?_
  exact lv_icmp_eq (tgt := 1052) hx hb d_law_580 (by decide) (fun _ => kend σ' τ' _ _ hR w) (fun h => absurd rfl h)
theorem lw_case_15 (hN : 802 < N) (C : LA g qx qm b L xs p s m c) (w : LWd g qx qm s σ τ H locs) (hR : RelE σ τ) (hi : i + 6 ≤ L) (hL : L ≤ 3072) (hx3 : x3 = nI i) (hl : lv_has ls 4 [(0, .ref b), (1, .ref (qx 0)), (2, .ref (qm 0)), (3, .int x3)]) (hcl : cells ≤ room_1.cells ∧ slots ≤ room_1.slots) (kend : ∀ (σ τ : St) (H : Heap) (locs : List Loc), RelE σ τ → LWd g qx qm s σ τ H locs → W p l e room_1 s m #[Value.ref b] below meth c H locs cells slots Q (F0 m 1052 ls [])) : W p l e room_1 s m #[Value.ref b] below meth c H locs cells slots Q (F0 m 585 ls []) := by
  have hx := C.1
  have hb := C.2.1
  obtain ⟨r, σ', τ', e1, e2, hR⟩ := r_bestSign hN hR (xs (i + 1)) (xs (i + 2))
  refine lv_aload_n hx hb d_law_585 rfl (lv_at hl 1 rfl) ?_
  refine lsld (k := 1) C w.2.2 hl hi hL hx3 rfl (by omega) d_law_586 d_law_587 d_law_588 d_law_589 d_law_590 ?_
  refine lsld (k := 2) C w.2.2 hl hi hL hx3 rfl (by omega) d_law_591 d_law_592 d_law_593 d_law_594 d_law_595 ?_
  refine lcX (As := [.int (xs (i + 1)), .int (xs (i + 2))]) (rest := []) C w (m_X11_bestSign N _ _ _ e1) mf_X11_bestSign mv_X11_bestSign ml_law_78 ⟨rfl, rfl⟩ ⟨Nat.le_of_ble_eq_true rfl, Nat.le_of_ble_eq_true rfl⟩ hcl rfl hl.1 rfl rfl (Nat.le_of_ble_eq_true rfl) d_law_596 (fun H locs w => ?_)
  refine W.eq (g2 := F0 m 599 ls [.int _]) rfl ?_
  refine lv_aload_n hx hb d_law_599 rfl (lv_at hl 2 rfl) ?_
  refine lsld (k := 1) C w.2.2 hl hi hL hx3 rfl (by omega) d_law_600 d_law_601 d_law_602 d_law_603 d_law_604 ?_
  refine lsld (k := 2) C w.2.2 hl hi hL hx3 rfl (by omega) d_law_605 d_law_606 d_law_607 d_law_608 d_law_609 ?_
  refine lcM (As := [.int (xs (i + 1)), .int (xs (i + 2))]) (rest := [.int _]) C w (m_X12_bestSign N _ _ _ e2) mf_X12_bestSign mv_X12_bestSign ml_law_81 ⟨rfl, rfl⟩ ⟨Nat.le_of_ble_eq_true rfl, Nat.le_of_ble_eq_true rfl⟩ hcl rfl hl.1 rfl rfl (Nat.le_of_ble_eq_true rfl) d_law_610 (fun H locs w => ?_)
  refine W.eq (g2 := F0 m 613 ls [.int _, .int _]) rfl ?_
  exact lv_icmp_eq (tgt := 1052) hx hb d_law_613 (by decide) (fun _ => kend σ' τ' _ _ hR w) (fun h => absurd rfl h)
theorem lw_case_16 (hN : 802 < N) (C : LA g qx qm b L xs p s m c) (w : LWd g qx qm s σ τ H locs) (hR : RelE σ τ) (hi : i + 6 ≤ L) (hL : L ≤ 3072) (hx3 : x3 = nI i) (hl : lv_has ls 4 [(0, .ref b), (1, .ref (qx 0)), (2, .ref (qm 0)), (3, .int x3)]) (hcl : cells ≤ room_1.cells ∧ slots ≤ room_1.slots) (kend : ∀ (σ τ : St) (H : Heap) (locs : List Loc), RelE σ τ → LWd g qx qm s σ τ H locs → W p l e room_1 s m #[Value.ref b] below meth c H locs cells slots Q (F0 m 1052 ls [])) : W p l e room_1 s m #[Value.ref b] below meth c H locs cells slots Q (F0 m 618 ls []) := by
  have hx := C.1
  have hb := C.2.1
  obtain ⟨r, σ', τ', e1, e2, hR⟩ := r_write hN hR
  refine lv_aload_n hx hb d_law_618 rfl (lv_at hl 1 rfl) ?_
  refine lcX (As := []) (rest := []) C w (m_X11_write N _ e1) mf_X11_write mv_X11_write ml_law_82 ⟨rfl, rfl⟩ ⟨Nat.le_of_ble_eq_true rfl, Nat.le_of_ble_eq_true rfl⟩ hcl rfl hl.1 rfl rfl (Nat.le_of_ble_eq_true rfl) d_law_619 (fun H locs w => ?_)
  refine W.eq (g2 := F0 m 622 ls [.int _]) rfl ?_
  refine lv_aload_n hx hb d_law_622 rfl (lv_at hl 2 rfl) ?_
  refine lcM (As := []) (rest := [.int _]) C w (m_X12_write N _ e2) mf_X12_write mv_X12_write ml_law_85 ⟨rfl, rfl⟩ ⟨Nat.le_of_ble_eq_true rfl, Nat.le_of_ble_eq_true rfl⟩ hcl rfl hl.1 rfl rfl (Nat.le_of_ble_eq_true rfl) d_law_623 (fun H locs w => ?_)
  refine W.eq (g2 := F0 m 626 ls [.int _, .int _]) rfl ?_
  exact lv_icmp_eq (tgt := 1052) hx hb d_law_626 (by decide) (fun _ => kend σ' τ' _ _ hR w) (fun h => absurd rfl h)
theorem lw_case_17 (hN : 802 < N) (C : LA g qx qm b L xs p s m c) (w : LWd g qx qm s σ τ H locs) (hR : RelE σ τ) (hi : i + 6 ≤ L) (hL : L ≤ 3072) (hx3 : x3 = nI i) (hl : lv_has ls 4 [(0, .ref b), (1, .ref (qx 0)), (2, .ref (qm 0)), (3, .int x3)]) (hcl : cells ≤ room_1.cells ∧ slots ≤ room_1.slots) (kend : ∀ (σ τ : St) (H : Heap) (locs : List Loc), RelE σ τ → LWd g qx qm s σ τ H locs → W p l e room_1 s m #[Value.ref b] below meth c H locs cells slots Q (F0 m 1052 ls [])) : W p l e room_1 s m #[Value.ref b] below meth c H locs cells slots Q (F0 m 631 ls []) := by
  have hx := C.1
  have hb := C.2.1
  obtain ⟨r, e1, e2⟩ := r_written hR (xs (i + 1))
  refine lv_aload_n hx hb d_law_631 rfl (lv_at hl 1 rfl) ?_
  refine lsld (k := 1) C w.2.2 hl hi hL hx3 rfl (by omega) d_law_632 d_law_633 d_law_634 d_law_635 d_law_636 ?_
  refine lcX (As := [.int (xs (i + 1))]) (rest := []) C w (m_X11_written _ _ e1) mf_X11_written mv_X11_written ml_law_86 ⟨rfl, rfl⟩ ⟨Nat.le_of_ble_eq_true rfl, Nat.le_of_ble_eq_true rfl⟩ hcl rfl hl.1 rfl rfl (Nat.le_of_ble_eq_true rfl) d_law_637 (fun H locs w => ?_)
  refine W.eq (g2 := F0 m 640 ls [.int _]) rfl ?_
  refine lv_aload_n hx hb d_law_640 rfl (lv_at hl 2 rfl) ?_
  refine lsld (k := 1) C w.2.2 hl hi hL hx3 rfl (by omega) d_law_641 d_law_642 d_law_643 d_law_644 d_law_645 ?_
  refine lcM (As := [.int (xs (i + 1))]) (rest := [.int _]) C w (m_X12_written _ _ e2) mf_X12_written mv_X12_written ml_law_89 ⟨rfl, rfl⟩ ⟨Nat.le_of_ble_eq_true rfl, Nat.le_of_ble_eq_true rfl⟩ hcl rfl hl.1 rfl rfl (Nat.le_of_ble_eq_true rfl) d_law_646 (fun H locs w => ?_)
  refine W.eq (g2 := F0 m 649 ls [.int _, .int _]) rfl ?_
  exact lv_icmp_eq (tgt := 1052) hx hb d_law_649 (by decide) (fun _ => kend σ τ _ _ hR w) (fun h => absurd rfl h)
end LAWC
