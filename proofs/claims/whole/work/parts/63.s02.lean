set_option maxHeartbeats 8000000 in
set_option maxRecDepth 100000 in
theorem k_X11_init {l : Launch} {g : XG} (h0 sz : Nat) : Met l yX11_init (.code yX11_init cX11_init 1 none :: lw_g) { frames := 2, cells := 78, slots := 7226, locals := 200 } (va_Pc [.ref h0] (fun U => U.heap.size = sz ∧ va_P g.D xcl [(h0, .inr (11, [.null, .null, .null, .null, .null, .null, .null, .null, .null, .null, .null, .null, .int 0]))] U.heap ∧ va_K g.D xcl (xty g.cA) U ∧ va_D (fun _ => True) [(h0, .inr (11, [.null, .null, .null, .null, .null, .null, .null, .null, .null, .null, .null, .null, .int 0]))] ∧ xcs (va_A [(h0, .inr (11, [.null, .null, .null, .null, .null, .null, .null, .null, .null, .null, .null, .null, .int 0]))] sz) g U U.heap)) (va_Qv (fun _ : Unit => True) (fun _ t => ∃ q : Nat → Nat, q 0 = h0 ∧ va_P g.D xcl (xws KX g.cA q σX0) t.heap ∧ va_D (va_A [(h0, .inr (11, [.null, .null, .null, .null, .null, .null, .null, .null, .null, .null, .null, .null, .int 0]))] sz) (xws KX g.cA q σX0)) (va_A [(h0, .inr (11, [.null, .null, .null, .null, .null, .null, .null, .null, .null, .null, .null, .null, .int 0]))] sz)) 78 7226 (va_A [(h0, .inr (11, [.null, .null, .null, .null, .null, .null, .null, .null, .null, .null, .null, .null, .int 0]))] sz) := by
  refine Met.ofW (cc := cX11_init) (maxL := 1) (ret := none) pn_X11 rfl ?_
  intro p e s m args below meth c s₁ B hml hv
  obtain ⟨rfl, hsz, hP, hK, hD0, hcs⟩ := hv
  have hx := B.exec
  have hb := B.bytes
  have hr := B.returns
  have hts1 := atoms_spec (ws := .code yX11_init cX11_init 1 none :: lw_g) B.pre
  have hts : ∀ w ∈ lw_g, w.before _ s = true := fun w hw => hts1 w (List.mem_cons_of_mem _ hw)
  have hown : s.vm.findClass RX11 = some m.cls := findClass_of_methodNamed B.named
  have hlocks := B.notSynchronized
  have hin : meth.name = "<init>" := (name_of_methodNamed B.named B.method).1
  subst hsz
  have hD := hD0.self (sz := s.heap.size)
  generalize hAe : va_A [(h0, .inr (11, [.null, .null, .null, .null, .null, .null, .null, .null, .null, .null, .null, .null, .int 0]))] s.heap.size = A at hD hcs ⊢
  have hA : ∀ q : Nat, s.heap.size ≤ q → A q := fun q h => by rw [← hAe]; exact Or.inr h
  have hS : va_S A s.heap s.heap [] := va_S.rf
  have hP : va_P g.D xcl [(h0, .inr (11, [.null, .null, .null, .null, .null, .null, .null, .null, .null, .null, .null, .null, .int 0]))] s.heap := hP
  have hl := lv_entry ([.ref h0]) (n := 1) (Nat.le_of_ble_eq_true rfl)
  rw [lg_entry_eq]
  generalize (lg_sl ([.ref h0]) ++ List.replicate (1 - (lg_sl ([.ref h0])).length) Slot.unset).toArray = ls at hl ⊢
  have hl : lv_has ls 1 [(0, .ref h0)] := hl
  refine lv_aload_n hx hb dX11_init_0 rfl (lv_at hl 0 rfl) ?_
  refine W.objInit hx hb hown (hts _ ml_X11_1) (hts _ xoi_i) (hts _ xoi_c) rfl (by rw [hml]; exact hl.1) rfl dX11_init_1 (Nat.le_of_ble_eq_true rfl) (Nat.le_of_ble_eq_true rfl) ?_
  refine W.eq (g2 := F0 m 4 ls []) rfl ?_
  obtain ⟨R0, eR0⟩ : ∃ R : va_W, R = [] := ⟨_, rfl⟩
  rw [← eR0] at hP hD
  refine lv_aload_n hx hb dX11_init_4 rfl (lv_at hl 0 rfl) ?_
  refine va_new (ci := 8) (fs := [.null, .int 0, .int 0, .int 0, .int 0, .int 0, .long 0, .int 0, .int 0, .int 0, .int 0, .int 0, .int 0]) (C := RX8) (T := TX8) (N := 13) hx hb hts igX8 tyX8 tyX8_ok hown (hts _ kx_X11_7) (hts _ ki_X8) (hts _ cl_X8.1) hK hP hD hS hA rfl (xdf_aux rfl) (Nat.le_of_ble_eq_true rfl) (Nat.le_of_ble_eq_true rfl) dX11_init_5 (fun p1 H hP hD hS => ?_)
  refine W.widen (k := 1) (n := 13) (Nat.le_of_ble_eq_true rfl) (Nat.le_of_ble_eq_true rfl) ?_
  refine lv_dup hx hb dX11_init_8 rfl ?_
  have hPc := wl_P hP
  have hDc := wl_D hD
  have hFc := wl_F hD hS hA
  refine va_callv (va_runIN (As := []) (rest := [.ref p1, .ref h0]) ⟨hx, hb, hml, hown, hts⟩ (k_X8_init (l := l) (g := g) p1 H.size) ⟨va_cnB 0 hts (xgood mf_X8_init) rfl rfl rfl (hcs.2.2.2.1 _ xn_X11_9) (hts _ cl_X8.1) mf_X8_init.2.2 ⟨Nat.le_of_ble_eq_true rfl, Nat.le_of_ble_eq_true rfl⟩, rfl, hts _ mi_X8_init⟩ ⟨fun a U g2 mk h => ⟨h.1, h.2.1, h.2.2.1, va_K.moved (u := U) (U := U.calling g2 mk a) (Vm.Alike.refl U.vm) h.2.2.2.1, h.2.2.2.2.1, xcs.same (s := U) (U := U.calling g2 mk a) rfl h.2.2.2.2.2⟩, fun U hU hw => ⟨rfl, by rw [hU], by rw [hU]; exact hPc, va_K.moved hw.alike hK, hDc.weaken (fun _ _ _ _ => trivial), by rw [hU]; exact ((hcs.kept hS.2.1).narrow hFc).warm hw⟩⟩ rfl rfl hl.1 rfl (lv_room (Nat.le_of_ble_eq_true rfl)) dX11_init_9 ⟨Nat.le_of_ble_eq_true rfl, Nat.le_of_ble_eq_true rfl⟩) hS (fun q _ h => hFc q h) hFc (fun u t H1 locs ht hvm hw hB hz1 hk1 hS => ?_)
  refine W.widen (k := 2) (n := 813) (Nat.le_of_ble_eq_true rfl) (Nat.le_of_ble_eq_true rfl) ?_
  obtain ⟨q1, hP1, hD1⟩ := hB
  rw [ht] at hP1
  obtain ⟨hP, hD⟩ := wl_J hP hD hk1 hFc hP1 hD1
  generalize H1 = H at hP hS ⊢
  clear hPc hDc hFc hP1 hD1 hk1 hz1 hw hvm ht t u
  refine kp_f (ci := 11) (k := 0) (q0 := 0) (ws' := (h0, .inr (11, [.ref p1, .null, .null, .null, .null, .null, .null, .null, .null, .null, .null, .null, .int 0])) :: (R0 ++ [(p1, .inr (8, [.ref q1, .int 0, .int 0, .int 0, .int 0, .int 0, .long 0, .int 0, .int 0, .int 0, .int 0, .int 0, .int (-1)])), (q1, .inl (g.cA 2, 800, .inl (fun _ => 0)))])) hx hb hts hown hin hK hP hD hS rfl igX11 tyX11_ok nmX11 fl_11_10 (Nat.le_of_ble_eq_true rfl) rfl rfl rfl rfl (Nat.le_of_ble_eq_true rfl) rfl rfl dX11_init_12 (fun H locs hP hD hS => ?_)
  obtain ⟨R1, eR1⟩ : ∃ R, R = R0 ++ [(p1, .inr (8, [.ref q1, .int 0, .int 0, .int 0, .int 0, .int 0, .long 0, .int 0, .int 0, .int 0, .int 0, .int 0, .int (-1)])), (q1, .inl (g.cA 2, 800, .inl (fun _ => 0)))] := ⟨_, rfl⟩
  rw [← eR1] at hP hD
  refine lv_aload_n hx hb dX11_init_15 rfl (lv_at hl 0 rfl) ?_
  refine va_new (ci := 6) (fs := [.int 0, .null, .null, .null, .null, .null, .null, .null, .null, .int 0]) (C := RX6) (T := TX6) (N := 10) hx hb hts igX6 tyX6 tyX6_ok hown (hts _ kx_X11_16) (hts _ ki_X6) (hts _ cl_X6.1) hK hP hD hS hA rfl (xdf_aux rfl) (Nat.le_of_ble_eq_true rfl) (Nat.le_of_ble_eq_true rfl) dX11_init_16 (fun p2 H hP hD hS => ?_)
  refine W.widen (k := 3) (n := 823) (Nat.le_of_ble_eq_true rfl) (Nat.le_of_ble_eq_true rfl) ?_
  refine lv_dup hx hb dX11_init_19 rfl ?_
  have hPc := wl_P hP
  have hDc := wl_D hD
  have hFc := wl_F hD hS hA
  refine va_callv (va_runI (As := []) (rest := [.ref p2, .ref h0]) ⟨hx, hb, hml, hown, hts⟩ (k_X6_init (l := l) (g := g) p2 H.size) (cwI 0 hts (xgood mf_X6_init) rfl rfl rfl (hts _ cl_X6.1) (hts _ ml_X11_18) (hts _ mi_X6_init) rfl mf_X6_init.2.2 ⟨Nat.le_of_ble_eq_true rfl, Nat.le_of_ble_eq_true rfl⟩) ⟨fun a U g2 mk h => ⟨h.1, h.2.1, h.2.2.1, va_K.moved (u := U) (U := U.calling g2 mk a) (Vm.Alike.refl U.vm) h.2.2.2.1, h.2.2.2.2.1, xcs.same (s := U) (U := U.calling g2 mk a) rfl h.2.2.2.2.2⟩, fun U hU hw => ⟨rfl, by rw [hU], by rw [hU]; exact hPc, va_K.moved hw.alike hK, hDc.weaken (fun _ _ _ _ => trivial), by rw [hU]; exact ((hcs.kept hS.2.1).narrow hFc).warm hw⟩⟩ rfl rfl hl.1 rfl (lv_room (Nat.le_of_ble_eq_true rfl)) dX11_init_20 ⟨Nat.le_of_ble_eq_true rfl, Nat.le_of_ble_eq_true rfl⟩) hS (fun q _ h => hFc q h) hFc (fun u t H1 locs ht hvm hw hB hz1 hk1 hS => ?_)
  refine W.widen (k := 11) (n := 1107) (Nat.le_of_ble_eq_true rfl) (Nat.le_of_ble_eq_true rfl) ?_
  obtain ⟨q2, q3, q4, q5, q6, q7, q8, q9, hP1, hD1⟩ := hB
  rw [ht] at hP1
  obtain ⟨hP, hD⟩ := wl_J hP hD hk1 hFc hP1 hD1
  generalize H1 = H at hP hS ⊢
  clear hPc hDc hFc hP1 hD1 hk1 hz1 hw hvm ht t u
  refine kp_f (ci := 11) (k := 1) (q0 := 0) (ws' := (h0, .inr (11, [.ref p1, .ref p2, .null, .null, .null, .null, .null, .null, .null, .null, .null, .null, .int 0])) :: (R1 ++ [(p2, .inr (6, [.int 0, .ref q2, .ref q3, .ref q4, .ref q5, .ref q6, .ref q7, .ref q8, .ref q9, .int 0])), (q2, .inl (g.cA 1, 40, .inr (.inl (fun _ => 0)))), (q3, .inl (g.cA 0, 40, .inl (fun _ => 0))), (q4, .inl (g.cA 0, 40, .inl (fun _ => 0))), (q5, .inl (g.cA 0, 40, .inl (fun _ => 0))), (q6, .inl (g.cA 0, 40, .inl (fun _ => 0))), (q7, .inl (g.cA 0, 40, .inl (fun _ => 0))), (q8, .inl (g.cA 1, 40, .inr (.inl (fun _ => 0)))), (q9, .inl (g.cA 0, 4, .inl (va_cpy (fun j => st_0.getD j 0) (fun _ => 0) 0 0 4)))])) hx hb hts hown hin hK hP hD hS rfl igX11 tyX11_ok nmX11 fl_11_19 (Nat.le_of_ble_eq_true rfl) rfl rfl rfl rfl (Nat.le_of_ble_eq_true rfl) rfl rfl dX11_init_23 (fun H locs hP hD hS => ?_)
  obtain ⟨R2, eR2⟩ : ∃ R, R = R1 ++ [(p2, .inr (6, [.int 0, .ref q2, .ref q3, .ref q4, .ref q5, .ref q6, .ref q7, .ref q8, .ref q9, .int 0])), (q2, .inl (g.cA 1, 40, .inr (.inl (fun _ => 0)))), (q3, .inl (g.cA 0, 40, .inl (fun _ => 0))), (q4, .inl (g.cA 0, 40, .inl (fun _ => 0))), (q5, .inl (g.cA 0, 40, .inl (fun _ => 0))), (q6, .inl (g.cA 0, 40, .inl (fun _ => 0))), (q7, .inl (g.cA 0, 40, .inl (fun _ => 0))), (q8, .inl (g.cA 1, 40, .inr (.inl (fun _ => 0)))), (q9, .inl (g.cA 0, 4, .inl (va_cpy (fun j => st_0.getD j 0) (fun _ => 0) 0 0 4)))] := ⟨_, rfl⟩
  rw [← eR2] at hP hD
  refine lv_aload_n hx hb dX11_init_26 rfl (lv_at hl 0 rfl) ?_
  refine va_new (ci := 6) (fs := [.int 0, .null, .null, .null, .null, .null, .null, .null, .null, .int 0]) (C := RX6) (T := TX6) (N := 10) hx hb hts igX6 tyX6 tyX6_ok hown (hts _ kx_X11_16) (hts _ ki_X6) (hts _ cl_X6.1) hK hP hD hS hA rfl (xdf_aux rfl) (Nat.le_of_ble_eq_true rfl) (Nat.le_of_ble_eq_true rfl) dX11_init_27 (fun p3 H hP hD hS => ?_)
  refine W.widen (k := 12) (n := 1117) (Nat.le_of_ble_eq_true rfl) (Nat.le_of_ble_eq_true rfl) ?_
  refine lv_dup hx hb dX11_init_30 rfl ?_
  have hPc := wl_P hP
  have hDc := wl_D hD
  have hFc := wl_F hD hS hA
  refine va_callv (va_runI (As := []) (rest := [.ref p3, .ref h0]) ⟨hx, hb, hml, hown, hts⟩ (k_X6_init (l := l) (g := g) p3 H.size) (cwI 0 hts (xgood mf_X6_init) rfl rfl rfl (hts _ cl_X6.1) (hts _ ml_X11_18) (hts _ mi_X6_init) rfl mf_X6_init.2.2 ⟨Nat.le_of_ble_eq_true rfl, Nat.le_of_ble_eq_true rfl⟩) ⟨fun a U g2 mk h => ⟨h.1, h.2.1, h.2.2.1, va_K.moved (u := U) (U := U.calling g2 mk a) (Vm.Alike.refl U.vm) h.2.2.2.1, h.2.2.2.2.1, xcs.same (s := U) (U := U.calling g2 mk a) rfl h.2.2.2.2.2⟩, fun U hU hw => ⟨rfl, by rw [hU], by rw [hU]; exact hPc, va_K.moved hw.alike hK, hDc.weaken (fun _ _ _ _ => trivial), by rw [hU]; exact ((hcs.kept hS.2.1).narrow hFc).warm hw⟩⟩ rfl rfl hl.1 rfl (lv_room (Nat.le_of_ble_eq_true rfl)) dX11_init_31 ⟨Nat.le_of_ble_eq_true rfl, Nat.le_of_ble_eq_true rfl⟩) hS (fun q _ h => hFc q h) hFc (fun u t H1 locs ht hvm hw hB hz1 hk1 hS => ?_)
  refine W.widen (k := 20) (n := 1401) (Nat.le_of_ble_eq_true rfl) (Nat.le_of_ble_eq_true rfl) ?_
  obtain ⟨q10, q11, q12, q13, q14, q15, q16, q17, hP1, hD1⟩ := hB
  rw [ht] at hP1
  obtain ⟨hP, hD⟩ := wl_J hP hD hk1 hFc hP1 hD1
  generalize H1 = H at hP hS ⊢
  clear hPc hDc hFc hP1 hD1 hk1 hz1 hw hvm ht t u
  refine kp_f (ci := 11) (k := 2) (q0 := 0) (ws' := (h0, .inr (11, [.ref p1, .ref p2, .ref p3, .null, .null, .null, .null, .null, .null, .null, .null, .null, .int 0])) :: (R2 ++ [(p3, .inr (6, [.int 0, .ref q10, .ref q11, .ref q12, .ref q13, .ref q14, .ref q15, .ref q16, .ref q17, .int 0])), (q10, .inl (g.cA 1, 40, .inr (.inl (fun _ => 0)))), (q11, .inl (g.cA 0, 40, .inl (fun _ => 0))), (q12, .inl (g.cA 0, 40, .inl (fun _ => 0))), (q13, .inl (g.cA 0, 40, .inl (fun _ => 0))), (q14, .inl (g.cA 0, 40, .inl (fun _ => 0))), (q15, .inl (g.cA 0, 40, .inl (fun _ => 0))), (q16, .inl (g.cA 1, 40, .inr (.inl (fun _ => 0)))), (q17, .inl (g.cA 0, 4, .inl (va_cpy (fun j => st_0.getD j 0) (fun _ => 0) 0 0 4)))])) hx hb hts hown hin hK hP hD hS rfl igX11 tyX11_ok nmX11 fl_11_23 (Nat.le_of_ble_eq_true rfl) rfl rfl rfl rfl (Nat.le_of_ble_eq_true rfl) rfl rfl dX11_init_34 (fun H locs hP hD hS => ?_)
  obtain ⟨R3, eR3⟩ : ∃ R, R = R2 ++ [(p3, .inr (6, [.int 0, .ref q10, .ref q11, .ref q12, .ref q13, .ref q14, .ref q15, .ref q16, .ref q17, .int 0])), (q10, .inl (g.cA 1, 40, .inr (.inl (fun _ => 0)))), (q11, .inl (g.cA 0, 40, .inl (fun _ => 0))), (q12, .inl (g.cA 0, 40, .inl (fun _ => 0))), (q13, .inl (g.cA 0, 40, .inl (fun _ => 0))), (q14, .inl (g.cA 0, 40, .inl (fun _ => 0))), (q15, .inl (g.cA 0, 40, .inl (fun _ => 0))), (q16, .inl (g.cA 1, 40, .inr (.inl (fun _ => 0)))), (q17, .inl (g.cA 0, 4, .inl (va_cpy (fun j => st_0.getD j 0) (fun _ => 0) 0 0 4)))] := ⟨_, rfl⟩
  rw [← eR3] at hP hD
  refine lv_aload_n hx hb dX11_init_37 rfl (lv_at hl 0 rfl) ?_
  refine va_new (ci := 0) (fs := [.null, .null, .int 0, .int 0, .int 0, .int 0, .int 0]) (C := RX0) (T := TX0) (N := 7) hx hb hts igX0 tyX0 tyX0_ok hown (hts _ kx_X11_26) (hts _ ki_X0) (hts _ cl_X0.1) hK hP hD hS hA rfl (xdf_aux rfl) (Nat.le_of_ble_eq_true rfl) (Nat.le_of_ble_eq_true rfl) dX11_init_38 (fun p4 H hP hD hS => ?_)
  refine W.widen (k := 21) (n := 1408) (Nat.le_of_ble_eq_true rfl) (Nat.le_of_ble_eq_true rfl) ?_
  refine lv_dup hx hb dX11_init_41 rfl ?_
  refine lv_aload_n hx hb dX11_init_42 rfl (lv_at hl 0 rfl) ?_
  refine va_get (D := g.D) (ci := 11) (v := .ref p2) (C := RX11) (T := TX11) (N := 13) hx hb hts igX11 hown hK hP 0 rfl rfl 1 (Nat.le_of_ble_eq_true rfl) (hts _ fl_11_19) (fun _ h9 => h9) rfl dX11_init_43 ?_
  have hPc := wl_P hP
  have hDc := wl_D hD
  have hFc := wl_F hD hS hA
  refine va_callv (va_runI (As := [.ref p2]) (rest := [.ref p4, .ref h0]) ⟨hx, hb, hml, hown, hts⟩ (k_X0_init (l := l) (g := g) p4 H.size p2) (cwI 1 hts (xgood mf_X0_init) rfl rfl rfl (hts _ cl_X0.1) (hts _ ml_X11_28) (hts _ mi_X0_init) rfl mf_X0_init.2.2 ⟨Nat.le_of_ble_eq_true rfl, Nat.le_of_ble_eq_true rfl⟩) ⟨fun a U g2 mk h => ⟨h.1, h.2.1, h.2.2.1, va_K.moved (u := U) (U := U.calling g2 mk a) (Vm.Alike.refl U.vm) h.2.2.2.1, h.2.2.2.2.1, xcs.same (s := U) (U := U.calling g2 mk a) rfl h.2.2.2.2.2⟩, fun U hU hw => ⟨rfl, by rw [hU], by rw [hU]; exact hPc, va_K.moved hw.alike hK, hDc.weaken (fun _ _ _ _ => trivial), by rw [hU]; exact ((hcs.kept hS.2.1).narrow hFc).warm hw⟩⟩ rfl rfl hl.1 rfl (lv_room (Nat.le_of_ble_eq_true rfl)) dX11_init_46 ⟨Nat.le_of_ble_eq_true rfl, Nat.le_of_ble_eq_true rfl⟩) hS (fun q _ h => hFc q h) hFc (fun u t H1 locs ht hvm hw hB hz1 hk1 hS => ?_)
  refine W.widen (k := 22) (n := 1648) (Nat.le_of_ble_eq_true rfl) (Nat.le_of_ble_eq_true rfl) ?_
  obtain ⟨q18, hP1, hD1⟩ := hB
  rw [ht] at hP1
  obtain ⟨hP, hD⟩ := wl_J hP hD hk1 hFc hP1 hD1
  generalize H1 = H at hP hS ⊢
  clear hPc hDc hFc hP1 hD1 hk1 hz1 hw hvm ht t u
  refine kp_f (ci := 11) (k := 3) (q0 := 0) (ws' := (h0, .inr (11, [.ref p1, .ref p2, .ref p3, .ref p4, .null, .null, .null, .null, .null, .null, .null, .null, .int 0])) :: (R3 ++ [(p4, .inr (0, [.ref p2, .ref q18, .int 0, .int 0, .int 0, .int 0, .int 0])), (q18, .inl (g.cA 0, 240, .inl (fun _ => 0)))])) hx hb hts hown hin hK hP hD hS rfl igX11 tyX11_ok nmX11 fl_11_31 (Nat.le_of_ble_eq_true rfl) rfl rfl rfl rfl (Nat.le_of_ble_eq_true rfl) rfl rfl dX11_init_49 (fun H locs hP hD hS => ?_)
  obtain ⟨R4, eR4⟩ : ∃ R, R = R3 ++ [(p4, .inr (0, [.ref p2, .ref q18, .int 0, .int 0, .int 0, .int 0, .int 0])), (q18, .inl (g.cA 0, 240, .inl (fun _ => 0)))] := ⟨_, rfl⟩
  rw [← eR4] at hP hD
  refine lv_aload_n hx hb dX11_init_52 rfl (lv_at hl 0 rfl) ?_
  refine va_new (ci := 1) (fs := [.null, .null, .int 0, .null, .null, .int 0, .null, .null, .null, .null, .null, .null, .null, .int 0, .int 0]) (C := RX1) (T := TX1) (N := 15) hx hb hts igX1 tyX1 tyX1_ok hown (hts _ kx_X11_35) (hts _ ki_X1) (hts _ cl_X1.1) hK hP hD hS hA rfl (xdf_aux rfl) (Nat.le_of_ble_eq_true rfl) (Nat.le_of_ble_eq_true rfl) dX11_init_53 (fun p5 H hP hD hS => ?_)
  refine W.widen (k := 23) (n := 1663) (Nat.le_of_ble_eq_true rfl) (Nat.le_of_ble_eq_true rfl) ?_
  refine lv_dup hx hb dX11_init_56 rfl ?_
  refine lv_aload_n hx hb dX11_init_57 rfl (lv_at hl 0 rfl) ?_
  refine va_get (D := g.D) (ci := 11) (v := .ref p2) (C := RX11) (T := TX11) (N := 13) hx hb hts igX11 hown hK hP 0 rfl rfl 1 (Nat.le_of_ble_eq_true rfl) (hts _ fl_11_19) (fun _ h9 => h9) rfl dX11_init_58 ?_
  refine lv_aload_n hx hb dX11_init_61 rfl (lv_at hl 0 rfl) ?_
  refine va_get (D := g.D) (ci := 11) (v := .ref p4) (C := RX11) (T := TX11) (N := 13) hx hb hts igX11 hown hK hP 0 rfl rfl 3 (Nat.le_of_ble_eq_true rfl) (hts _ fl_11_31) (fun _ h9 => h9) rfl dX11_init_62 ?_
  have hPc := wl_P hP
  have hDc := wl_D hD
  have hFc := wl_F hD hS hA
  refine va_callv (va_runI (As := [.ref p2, .ref p4]) (rest := [.ref p5, .ref h0]) ⟨hx, hb, hml, hown, hts⟩ (k_X1_init (l := l) (g := g) p5 H.size p2 p4) (cwI 2 hts (xgood mf_X1_init) rfl rfl rfl (hts _ cl_X1.1) (hts _ ml_X11_37) (hts _ mi_X1_init) rfl mf_X1_init.2.2 ⟨Nat.le_of_ble_eq_true rfl, Nat.le_of_ble_eq_true rfl⟩) ⟨fun a U g2 mk h => ⟨h.1, h.2.1, h.2.2.1, va_K.moved (u := U) (U := U.calling g2 mk a) (Vm.Alike.refl U.vm) h.2.2.2.1, h.2.2.2.2.1, xcs.same (s := U) (U := U.calling g2 mk a) rfl h.2.2.2.2.2⟩, fun U hU hw => ⟨rfl, by rw [hU], by rw [hU]; exact hPc, va_K.moved hw.alike hK, hDc.weaken (fun _ _ _ _ => trivial), by rw [hU]; exact ((hcs.kept hS.2.1).narrow hFc).warm hw⟩⟩ rfl rfl hl.1 rfl (lv_room (Nat.le_of_ble_eq_true rfl)) dX11_init_65 ⟨Nat.le_of_ble_eq_true rfl, Nat.le_of_ble_eq_true rfl⟩) hS (fun q _ h => hFc q h) hFc (fun u t H1 locs ht hvm hw hB hz1 hk1 hS => ?_)
  refine W.widen (k := 32) (n := 1855) (Nat.le_of_ble_eq_true rfl) (Nat.le_of_ble_eq_true rfl) ?_
  obtain ⟨q19, q20, q21, q22, q23, q24, q25, q26, q27, hP1, hD1⟩ := hB
  rw [ht] at hP1
  obtain ⟨hP, hD⟩ := wl_J hP hD hk1 hFc hP1 hD1
  generalize H1 = H at hP hS ⊢
  clear hPc hDc hFc hP1 hD1 hk1 hz1 hw hvm ht t u
  refine kp_f (ci := 11) (k := 4) (q0 := 0) (ws' := (h0, .inr (11, [.ref p1, .ref p2, .ref p3, .ref p4, .ref p5, .null, .null, .null, .null, .null, .null, .null, .int 0])) :: (R4 ++ [(p5, .inr (1, [.ref p2, .ref p4, .int 0, .ref q19, .ref q20, .int 0, .ref q21, .ref q22, .ref q23, .ref q24, .ref q25, .ref q26, .ref q27, .int 0, .int 0])), (q19, .inl (g.cA 0, 12, .inl (fun _ => 0))), (q20, .inl (g.cA 0, 12, .inl (fun _ => 0))), (q21, .inl (g.cA 0, 24, .inl (fun _ => 0))), (q22, .inl (g.cA 0, 24, .inl (fun _ => 0))), (q23, .inl (g.cA 0, 24, .inl (fun _ => 0))), (q24, .inl (g.cA 0, 24, .inl (fun _ => 0))), (q25, .inl (g.cA 0, 24, .inl (fun _ => 0))), (q26, .inl (g.cA 0, 24, .inl (fun _ => 0))), (q27, .inl (g.cA 0, 24, .inl (fun _ => 0)))])) hx hb hts hown hin hK hP hD hS rfl igX11 tyX11_ok nmX11 fl_11_40 (Nat.le_of_ble_eq_true rfl) rfl rfl rfl rfl (Nat.le_of_ble_eq_true rfl) rfl rfl dX11_init_68 (fun H locs hP hD hS => ?_)
  obtain ⟨R5, eR5⟩ : ∃ R, R = R4 ++ [(p5, .inr (1, [.ref p2, .ref p4, .int 0, .ref q19, .ref q20, .int 0, .ref q21, .ref q22, .ref q23, .ref q24, .ref q25, .ref q26, .ref q27, .int 0, .int 0])), (q19, .inl (g.cA 0, 12, .inl (fun _ => 0))), (q20, .inl (g.cA 0, 12, .inl (fun _ => 0))), (q21, .inl (g.cA 0, 24, .inl (fun _ => 0))), (q22, .inl (g.cA 0, 24, .inl (fun _ => 0))), (q23, .inl (g.cA 0, 24, .inl (fun _ => 0))), (q24, .inl (g.cA 0, 24, .inl (fun _ => 0))), (q25, .inl (g.cA 0, 24, .inl (fun _ => 0))), (q26, .inl (g.cA 0, 24, .inl (fun _ => 0))), (q27, .inl (g.cA 0, 24, .inl (fun _ => 0)))] := ⟨_, rfl⟩
  rw [← eR5] at hP hD
  refine lv_aload_n hx hb dX11_init_71 rfl (lv_at hl 0 rfl) ?_
  refine va_new (ci := 9) (fs := [.int 0, .null, .null, .null, .null]) (C := RX9) (T := TX9) (N := 5) hx hb hts igX9 tyX9 tyX9_ok hown (hts _ kx_X11_44) (hts _ ki_X9) (hts _ cl_X9.1) hK hP hD hS hA rfl (xdf_aux rfl) (Nat.le_of_ble_eq_true rfl) (Nat.le_of_ble_eq_true rfl) dX11_init_72 (fun p6 H hP hD hS => ?_)
  refine W.widen (k := 33) (n := 1860) (Nat.le_of_ble_eq_true rfl) (Nat.le_of_ble_eq_true rfl) ?_
  refine lv_dup hx hb dX11_init_75 rfl ?_
  have hPc := wl_P hP
  have hDc := wl_D hD
  have hFc := wl_F hD hS hA
  refine va_callv (va_runIN (As := []) (rest := [.ref p6, .ref h0]) ⟨hx, hb, hml, hown, hts⟩ (k_X9_init (l := l) (g := g) p6 H.size) ⟨va_cnB 0 hts (xgood mf_X9_init) rfl rfl rfl (hcs.2.2.2.1 _ xn_X11_46) (hts _ cl_X9.1) mf_X9_init.2.2 ⟨Nat.le_of_ble_eq_true rfl, Nat.le_of_ble_eq_true rfl⟩, rfl, hts _ mi_X9_init⟩ ⟨fun a U g2 mk h => ⟨h.1, h.2.1, h.2.2.1, va_K.moved (u := U) (U := U.calling g2 mk a) (Vm.Alike.refl U.vm) h.2.2.2.1, h.2.2.2.2.1, xcs.same (s := U) (U := U.calling g2 mk a) rfl h.2.2.2.2.2⟩, fun U hU hw => ⟨rfl, by rw [hU], by rw [hU]; exact hPc, va_K.moved hw.alike hK, hDc.weaken (fun _ _ _ _ => trivial), by rw [hU]; exact ((hcs.kept hS.2.1).narrow hFc).warm hw⟩⟩ rfl rfl hl.1 rfl (lv_room (Nat.le_of_ble_eq_true rfl)) dX11_init_76 ⟨Nat.le_of_ble_eq_true rfl, Nat.le_of_ble_eq_true rfl⟩) hS (fun q _ h => hFc q h) hFc (fun u t H1 locs ht hvm hw hB hz1 hk1 hS => ?_)
  refine W.widen (k := 37) (n := 2020) (Nat.le_of_ble_eq_true rfl) (Nat.le_of_ble_eq_true rfl) ?_
  obtain ⟨q28, q29, q30, q31, hP1, hD1⟩ := hB
  rw [ht] at hP1
  obtain ⟨hP, hD⟩ := wl_J hP hD hk1 hFc hP1 hD1
  generalize H1 = H at hP hS ⊢
  clear hPc hDc hFc hP1 hD1 hk1 hz1 hw hvm ht t u
  refine kp_f (ci := 11) (k := 5) (q0 := 0) (ws' := (h0, .inr (11, [.ref p1, .ref p2, .ref p3, .ref p4, .ref p5, .ref p6, .null, .null, .null, .null, .null, .null, .int 0])) :: (R5 ++ [(p6, .inr (9, [.int 0, .ref q28, .ref q29, .ref q30, .ref q31])), (q28, .inl (g.cA 1, 40, .inr (.inl (fun _ => 0)))), (q29, .inl (g.cA 0, 40, .inl (fun _ => 0))), (q30, .inl (g.cA 0, 40, .inl (fun _ => 0))), (q31, .inl (g.cA 1, 40, .inr (.inl (fun _ => 0))))])) hx hb hts hown hin hK hP hD hS rfl igX11 tyX11_ok nmX11 fl_11_47 (Nat.le_of_ble_eq_true rfl) rfl rfl rfl rfl (Nat.le_of_ble_eq_true rfl) rfl rfl dX11_init_79 (fun H locs hP hD hS => ?_)
  obtain ⟨R6, eR6⟩ : ∃ R, R = R5 ++ [(p6, .inr (9, [.int 0, .ref q28, .ref q29, .ref q30, .ref q31])), (q28, .inl (g.cA 1, 40, .inr (.inl (fun _ => 0)))), (q29, .inl (g.cA 0, 40, .inl (fun _ => 0))), (q30, .inl (g.cA 0, 40, .inl (fun _ => 0))), (q31, .inl (g.cA 1, 40, .inr (.inl (fun _ => 0))))] := ⟨_, rfl⟩
  rw [← eR6] at hP hD
  refine lv_aload_n hx hb dX11_init_82 rfl (lv_at hl 0 rfl) ?_
  refine va_new (ci := 7) (fs := [.null, .null, .int 0, .long 0, .long 0, .int 0, .int 0, .null]) (C := RX7) (T := TX7) (N := 8) hx hb hts igX7 tyX7 tyX7_ok hown (hts _ kx_X11_51) (hts _ ki_X7) (hts _ cl_X7.1) hK hP hD hS hA rfl (xdf_aux rfl) (Nat.le_of_ble_eq_true rfl) (Nat.le_of_ble_eq_true rfl) dX11_init_83 (fun p7 H hP hD hS => ?_)
  refine W.widen (k := 38) (n := 2028) (Nat.le_of_ble_eq_true rfl) (Nat.le_of_ble_eq_true rfl) ?_
  refine lv_dup hx hb dX11_init_86 rfl ?_
  refine lv_aload_n hx hb dX11_init_87 rfl (lv_at hl 0 rfl) ?_
  refine va_get (D := g.D) (ci := 11) (v := .ref p6) (C := RX11) (T := TX11) (N := 13) hx hb hts igX11 hown hK hP 0 rfl rfl 5 (Nat.le_of_ble_eq_true rfl) (hts _ fl_11_47) (fun _ h9 => h9) rfl dX11_init_88 ?_
  refine lv_aload_n hx hb dX11_init_91 rfl (lv_at hl 0 rfl) ?_
  refine va_get (D := g.D) (ci := 11) (v := .ref p2) (C := RX11) (T := TX11) (N := 13) hx hb hts igX11 hown hK hP 0 rfl rfl 1 (Nat.le_of_ble_eq_true rfl) (hts _ fl_11_19) (fun _ h9 => h9) rfl dX11_init_92 ?_
  have hPc := wl_P hP
  have hDc := wl_D hD
  have hFc := wl_F hD hS hA
  refine va_callv (va_runI (As := [.ref p6, .ref p2]) (rest := [.ref p7, .ref h0]) ⟨hx, hb, hml, hown, hts⟩ (k_X7_init (l := l) (g := g) p7 H.size p6 p2) (cwI 2 hts (xgood mf_X7_init) rfl rfl rfl (hts _ cl_X7.1) (hts _ ml_X11_53) (hts _ mi_X7_init) rfl mf_X7_init.2.2 ⟨Nat.le_of_ble_eq_true rfl, Nat.le_of_ble_eq_true rfl⟩) ⟨fun a U g2 mk h => ⟨h.1, h.2.1, h.2.2.1, va_K.moved (u := U) (U := U.calling g2 mk a) (Vm.Alike.refl U.vm) h.2.2.2.1, h.2.2.2.2.1, xcs.same (s := U) (U := U.calling g2 mk a) rfl h.2.2.2.2.2⟩, fun U hU hw => ⟨rfl, by rw [hU], by rw [hU]; exact hPc, va_K.moved hw.alike hK, hDc.weaken (fun _ _ _ _ => trivial), by rw [hU]; exact ((hcs.kept hS.2.1).narrow hFc).warm hw⟩⟩ rfl rfl hl.1 rfl (lv_room (Nat.le_of_ble_eq_true rfl)) dX11_init_95 ⟨Nat.le_of_ble_eq_true rfl, Nat.le_of_ble_eq_true rfl⟩) hS (fun q _ h => hFc q h) hFc (fun u t H1 locs ht hvm hw hB hz1 hk1 hS => ?_)
  refine W.widen (k := 39) (n := 2412) (Nat.le_of_ble_eq_true rfl) (Nat.le_of_ble_eq_true rfl) ?_
  obtain ⟨q32, hP1, hD1⟩ := hB
  rw [ht] at hP1
  obtain ⟨hP, hD⟩ := wl_J hP hD hk1 hFc hP1 hD1
  generalize H1 = H at hP hS ⊢
  clear hPc hDc hFc hP1 hD1 hk1 hz1 hw hvm ht t u
  refine kp_f (ci := 11) (k := 6) (q0 := 0) (ws' := (h0, .inr (11, [.ref p1, .ref p2, .ref p3, .ref p4, .ref p5, .ref p6, .ref p7, .null, .null, .null, .null, .null, .int 0])) :: (R6 ++ [(p7, .inr (7, [.ref p6, .ref p2, .int 0, .long 0, .long 0, .int 0, .int 0, .ref q32])), (q32, .inl (g.cA 0, 384, .inl (fun _ => 0)))])) hx hb hts hown hin hK hP hD hS rfl igX11 tyX11_ok nmX11 fl_11_56 (Nat.le_of_ble_eq_true rfl) rfl rfl rfl rfl (Nat.le_of_ble_eq_true rfl) rfl rfl dX11_init_98 (fun H locs hP hD hS => ?_)
  obtain ⟨R7, eR7⟩ : ∃ R, R = R6 ++ [(p7, .inr (7, [.ref p6, .ref p2, .int 0, .long 0, .long 0, .int 0, .int 0, .ref q32])), (q32, .inl (g.cA 0, 384, .inl (fun _ => 0)))] := ⟨_, rfl⟩
  rw [← eR7] at hP hD
  refine lv_aload_n hx hb dX11_init_101 rfl (lv_at hl 0 rfl) ?_
  refine va_new (ci := 3) (fs := [.null, .null, .null, .null, .int 0, .null, .null]) (C := RX3) (T := TX3) (N := 7) hx hb hts igX3 tyX3 tyX3_ok hown (hts _ kx_X11_60) (hts _ ki_X3) (hts _ cl_X3.1) hK hP hD hS hA rfl (xdf_aux rfl) (Nat.le_of_ble_eq_true rfl) (Nat.le_of_ble_eq_true rfl) dX11_init_102 (fun p8 H hP hD hS => ?_)
  refine W.widen (k := 40) (n := 2419) (Nat.le_of_ble_eq_true rfl) (Nat.le_of_ble_eq_true rfl) ?_
  refine lv_dup hx hb dX11_init_105 rfl ?_
  refine lv_aload_n hx hb dX11_init_106 rfl (lv_at hl 0 rfl) ?_
  refine va_get (D := g.D) (ci := 11) (v := .ref p2) (C := RX11) (T := TX11) (N := 13) hx hb hts igX11 hown hK hP 0 rfl rfl 1 (Nat.le_of_ble_eq_true rfl) (hts _ fl_11_19) (fun _ h9 => h9) rfl dX11_init_107 ?_
  have hPc := wl_P hP
  have hDc := wl_D hD
  have hFc := wl_F hD hS hA
  refine va_callv (va_runI (As := [.ref p2]) (rest := [.ref p8, .ref h0]) ⟨hx, hb, hml, hown, hts⟩ (k_X3_init (l := l) (g := g) p8 H.size p2) (cwI 1 hts (xgood mf_X3_init) rfl rfl rfl (hts _ cl_X3.1) (hts _ ml_X11_62) (hts _ mi_X3_init) rfl mf_X3_init.2.2 ⟨Nat.le_of_ble_eq_true rfl, Nat.le_of_ble_eq_true rfl⟩) ⟨fun a U g2 mk h => ⟨h.1, h.2.1, h.2.2.1, va_K.moved (u := U) (U := U.calling g2 mk a) (Vm.Alike.refl U.vm) h.2.2.2.1, h.2.2.2.2.1, xcs.same (s := U) (U := U.calling g2 mk a) rfl h.2.2.2.2.2⟩, fun U hU hw => ⟨rfl, by rw [hU], by rw [hU]; exact hPc, va_K.moved hw.alike hK, hDc.weaken (fun _ _ _ _ => trivial), by rw [hU]; exact ((hcs.kept hS.2.1).narrow hFc).warm hw⟩⟩ rfl rfl hl.1 rfl (lv_room (Nat.le_of_ble_eq_true rfl)) dX11_init_110 ⟨Nat.le_of_ble_eq_true rfl, Nat.le_of_ble_eq_true rfl⟩) hS (fun q _ h => hFc q h) hFc (fun u t H1 locs ht hvm hw hB hz1 hk1 hS => ?_)
  refine W.widen (k := 45) (n := 2542) (Nat.le_of_ble_eq_true rfl) (Nat.le_of_ble_eq_true rfl) ?_
  obtain ⟨q33, q34, q35, q36, q37, hP1, hD1⟩ := hB
  rw [ht] at hP1
  obtain ⟨hP, hD⟩ := wl_J hP hD hk1 hFc hP1 hD1
  generalize H1 = H at hP hS ⊢
  clear hPc hDc hFc hP1 hD1 hk1 hz1 hw hvm ht t u
  refine kp_f (ci := 11) (k := 7) (q0 := 0) (ws' := (h0, .inr (11, [.ref p1, .ref p2, .ref p3, .ref p4, .ref p5, .ref p6, .ref p7, .ref p8, .null, .null, .null, .null, .int 0])) :: (R7 ++ [(p8, .inr (3, [.ref p2, .ref q33, .ref q34, .ref q35, .int 0, .ref q36, .ref q37])), (q33, .inl (g.cA 0, 25, .inl (fun _ => 0))), (q34, .inl (g.cA 0, 25, .inl (fun _ => 0))), (q35, .inl (g.cA 0, 25, .inl (fun _ => 0))), (q36, .inl (g.cA 0, 24, .inl (fun _ => 0))), (q37, .inl (g.cA 0, 24, .inl (fun _ => 0)))])) hx hb hts hown hin hK hP hD hS rfl igX11 tyX11_ok nmX11 fl_11_63 (Nat.le_of_ble_eq_true rfl) rfl rfl rfl rfl (Nat.le_of_ble_eq_true rfl) rfl rfl dX11_init_113 (fun H locs hP hD hS => ?_)
  obtain ⟨R8, eR8⟩ : ∃ R, R = R7 ++ [(p8, .inr (3, [.ref p2, .ref q33, .ref q34, .ref q35, .int 0, .ref q36, .ref q37])), (q33, .inl (g.cA 0, 25, .inl (fun _ => 0))), (q34, .inl (g.cA 0, 25, .inl (fun _ => 0))), (q35, .inl (g.cA 0, 25, .inl (fun _ => 0))), (q36, .inl (g.cA 0, 24, .inl (fun _ => 0))), (q37, .inl (g.cA 0, 24, .inl (fun _ => 0)))] := ⟨_, rfl⟩
  rw [← eR8] at hP hD
  refine lv_aload_n hx hb dX11_init_116 rfl (lv_at hl 0 rfl) ?_
  refine va_new (ci := 2) (fs := [.null, .null, .null, .null, .null, .null, .null, .null, .null, .null, .null, .null, .null, .int 0]) (C := RX2) (T := TX2) (N := 14) hx hb hts igX2 tyX2 tyX2_ok hown (hts _ kx_X11_67) (hts _ ki_X2) (hts _ cl_X2.1) hK hP hD hS hA rfl (xdf_aux rfl) (Nat.le_of_ble_eq_true rfl) (Nat.le_of_ble_eq_true rfl) dX11_init_117 (fun p9 H hP hD hS => ?_)
  refine W.widen (k := 46) (n := 2556) (Nat.le_of_ble_eq_true rfl) (Nat.le_of_ble_eq_true rfl) ?_
  refine lv_dup hx hb dX11_init_120 rfl ?_
  refine lv_aload_n hx hb dX11_init_121 rfl (lv_at hl 0 rfl) ?_
  refine va_get (D := g.D) (ci := 11) (v := .ref p2) (C := RX11) (T := TX11) (N := 13) hx hb hts igX11 hown hK hP 0 rfl rfl 1 (Nat.le_of_ble_eq_true rfl) (hts _ fl_11_19) (fun _ h9 => h9) rfl dX11_init_122 ?_
  refine lv_aload_n hx hb dX11_init_125 rfl (lv_at hl 0 rfl) ?_
  refine va_get (D := g.D) (ci := 11) (v := .ref p7) (C := RX11) (T := TX11) (N := 13) hx hb hts igX11 hown hK hP 0 rfl rfl 6 (Nat.le_of_ble_eq_true rfl) (hts _ fl_11_56) (fun _ h9 => h9) rfl dX11_init_126 ?_
  refine lv_aload_n hx hb dX11_init_129 rfl (lv_at hl 0 rfl) ?_
  refine va_get (D := g.D) (ci := 11) (v := .ref p8) (C := RX11) (T := TX11) (N := 13) hx hb hts igX11 hown hK hP 0 rfl rfl 7 (Nat.le_of_ble_eq_true rfl) (hts _ fl_11_63) (fun _ h9 => h9) rfl dX11_init_130 ?_
  have hPc := wl_P hP
  have hDc := wl_D hD
  have hFc := wl_F hD hS hA
  refine va_callv (va_runI (As := [.ref p2, .ref p7, .ref p8]) (rest := [.ref p9, .ref h0]) ⟨hx, hb, hml, hown, hts⟩ (k_X2_init (l := l) (g := g) p9 H.size p2 p7 p8) (cwI 3 hts (xgood mf_X2_init) rfl rfl rfl (hts _ cl_X2.1) (hts _ ml_X11_69) (hts _ mi_X2_init) rfl mf_X2_init.2.2 ⟨Nat.le_of_ble_eq_true rfl, Nat.le_of_ble_eq_true rfl⟩) ⟨fun a U g2 mk h => ⟨h.1, h.2.1, h.2.2.1, va_K.moved (u := U) (U := U.calling g2 mk a) (Vm.Alike.refl U.vm) h.2.2.2.1, h.2.2.2.2.1, xcs.same (s := U) (U := U.calling g2 mk a) rfl h.2.2.2.2.2⟩, fun U hU hw => ⟨rfl, by rw [hU], by rw [hU]; exact hPc, va_K.moved hw.alike hK, hDc.weaken (fun _ _ _ _ => trivial), by rw [hU]; exact ((hcs.kept hS.2.1).narrow hFc).warm hw⟩⟩ rfl rfl hl.1 rfl (lv_room (Nat.le_of_ble_eq_true rfl)) dX11_init_133 ⟨Nat.le_of_ble_eq_true rfl, Nat.le_of_ble_eq_true rfl⟩) hS (fun q _ h => hFc q h) hFc (fun u t H1 locs ht hvm hw hB hz1 hk1 hS => ?_)
  refine W.widen (k := 56) (n := 3807) (Nat.le_of_ble_eq_true rfl) (Nat.le_of_ble_eq_true rfl) ?_
  obtain ⟨q38, q39, q40, q41, q42, q43, q44, q45, q46, q47, hP1, hD1⟩ := hB
  rw [ht] at hP1
  obtain ⟨hP, hD⟩ := wl_J hP hD hk1 hFc hP1 hD1
  generalize H1 = H at hP hS ⊢
  clear hPc hDc hFc hP1 hD1 hk1 hz1 hw hvm ht t u
  refine kp_f (ci := 11) (k := 8) (q0 := 0) (ws' := (h0, .inr (11, [.ref p1, .ref p2, .ref p3, .ref p4, .ref p5, .ref p6, .ref p7, .ref p8, .ref p9, .null, .null, .null, .int 0])) :: (R8 ++ [(p9, .inr (2, [.ref p2, .ref p7, .ref p8, .ref q38, .ref q39, .ref q40, .ref q41, .ref q42, .ref q43, .ref q44, .ref q45, .ref q46, .ref q47, .int 0])), (q38, .inl (g.cA 0, 40, .inl (fun _ => 0))), (q39, .inl (g.cA 0, 40, .inl (fun _ => 0))), (q40, .inl (g.cA 0, 40, .inl (fun _ => 0))), (q41, .inl (g.cA 1, 40, .inr (.inl (fun _ => 0)))), (q42, .inl (g.cA 0, 520, .inl (fun _ => 0))), (q43, .inl (g.cA 1, 520, .inr (.inl (fun _ => 0)))), (q44, .inl (g.cA 0, 13, .inl (fun _ => 0))), (q45, .inl (g.cA 1, 13, .inr (.inl (fun _ => 0)))), (q46, .inl (g.cA 0, 12, .inl (fun _ => 0))), (q47, .inl (g.cA 0, 13, .inl (fun _ => 0)))])) hx hb hts hown hin hK hP hD hS rfl igX11 tyX11_ok nmX11 fl_11_72 (Nat.le_of_ble_eq_true rfl) rfl rfl rfl rfl (Nat.le_of_ble_eq_true rfl) rfl rfl dX11_init_136 (fun H locs hP hD hS => ?_)
  obtain ⟨R9, eR9⟩ : ∃ R, R = R8 ++ [(p9, .inr (2, [.ref p2, .ref p7, .ref p8, .ref q38, .ref q39, .ref q40, .ref q41, .ref q42, .ref q43, .ref q44, .ref q45, .ref q46, .ref q47, .int 0])), (q38, .inl (g.cA 0, 40, .inl (fun _ => 0))), (q39, .inl (g.cA 0, 40, .inl (fun _ => 0))), (q40, .inl (g.cA 0, 40, .inl (fun _ => 0))), (q41, .inl (g.cA 1, 40, .inr (.inl (fun _ => 0)))), (q42, .inl (g.cA 0, 520, .inl (fun _ => 0))), (q43, .inl (g.cA 1, 520, .inr (.inl (fun _ => 0)))), (q44, .inl (g.cA 0, 13, .inl (fun _ => 0))), (q45, .inl (g.cA 1, 13, .inr (.inl (fun _ => 0)))), (q46, .inl (g.cA 0, 12, .inl (fun _ => 0))), (q47, .inl (g.cA 0, 13, .inl (fun _ => 0)))] := ⟨_, rfl⟩
  rw [← eR9] at hP hD
  refine lv_aload_n hx hb dX11_init_139 rfl (lv_at hl 0 rfl) ?_
  refine va_new (ci := 5) (fs := [.null, .null, .null, .null, .int 0, .null, .null, .null, .null, .null, .null, .int 0, .null, .null]) (C := RX5) (T := TX5) (N := 14) hx hb hts igX5 tyX5 tyX5_ok hown (hts _ kx_X11_76) (hts _ ki_X5) (hts _ cl_X5.1) hK hP hD hS hA rfl (xdf_aux rfl) (Nat.le_of_ble_eq_true rfl) (Nat.le_of_ble_eq_true rfl) dX11_init_140 (fun p10 H hP hD hS => ?_)
  refine W.widen (k := 57) (n := 3821) (Nat.le_of_ble_eq_true rfl) (Nat.le_of_ble_eq_true rfl) ?_
  refine lv_dup hx hb dX11_init_143 rfl ?_
  refine lv_aload_n hx hb dX11_init_144 rfl (lv_at hl 0 rfl) ?_
  refine va_get (D := g.D) (ci := 11) (v := .ref p2) (C := RX11) (T := TX11) (N := 13) hx hb hts igX11 hown hK hP 0 rfl rfl 1 (Nat.le_of_ble_eq_true rfl) (hts _ fl_11_19) (fun _ h9 => h9) rfl dX11_init_145 ?_
  refine lv_aload_n hx hb dX11_init_148 rfl (lv_at hl 0 rfl) ?_
  refine va_get (D := g.D) (ci := 11) (v := .ref p6) (C := RX11) (T := TX11) (N := 13) hx hb hts igX11 hown hK hP 0 rfl rfl 5 (Nat.le_of_ble_eq_true rfl) (hts _ fl_11_47) (fun _ h9 => h9) rfl dX11_init_149 ?_
  refine lv_aload_n hx hb dX11_init_152 rfl (lv_at hl 0 rfl) ?_
  refine va_get (D := g.D) (ci := 11) (v := .ref p7) (C := RX11) (T := TX11) (N := 13) hx hb hts igX11 hown hK hP 0 rfl rfl 6 (Nat.le_of_ble_eq_true rfl) (hts _ fl_11_56) (fun _ h9 => h9) rfl dX11_init_153 ?_
  have hPc := wl_P hP
  have hDc := wl_D hD
  have hFc := wl_F hD hS hA
  refine va_callv (va_runI (As := [.ref p2, .ref p6, .ref p7]) (rest := [.ref p10, .ref h0]) ⟨hx, hb, hml, hown, hts⟩ (k_X5_init (l := l) (g := g) p10 H.size p2 p6 p7) (cwI 3 hts (xgood mf_X5_init) rfl rfl rfl (hts _ cl_X5.1) (hts _ ml_X11_78) (hts _ mi_X5_init) rfl mf_X5_init.2.2 ⟨Nat.le_of_ble_eq_true rfl, Nat.le_of_ble_eq_true rfl⟩) ⟨fun a U g2 mk h => ⟨h.1, h.2.1, h.2.2.1, va_K.moved (u := U) (U := U.calling g2 mk a) (Vm.Alike.refl U.vm) h.2.2.2.1, h.2.2.2.2.1, xcs.same (s := U) (U := U.calling g2 mk a) rfl h.2.2.2.2.2⟩, fun U hU hw => ⟨rfl, by rw [hU], by rw [hU]; exact hPc, va_K.moved hw.alike hK, hDc.weaken (fun _ _ _ _ => trivial), by rw [hU]; exact ((hcs.kept hS.2.1).narrow hFc).warm hw⟩⟩ rfl rfl hl.1 rfl (lv_room (Nat.le_of_ble_eq_true rfl)) dX11_init_156 ⟨Nat.le_of_ble_eq_true rfl, Nat.le_of_ble_eq_true rfl⟩) hS (fun q _ h => hFc q h) hFc (fun u t H1 locs ht hvm hw hB hz1 hk1 hS => ?_)
  refine W.widen (k := 66) (n := 4977) (Nat.le_of_ble_eq_true rfl) (Nat.le_of_ble_eq_true rfl) ?_
  obtain ⟨q48, q49, q50, q51, q52, q53, q54, q55, q56, hP1, hD1⟩ := hB
  rw [ht] at hP1
  obtain ⟨hP, hD⟩ := wl_J hP hD hk1 hFc hP1 hD1
  generalize H1 = H at hP hS ⊢
  clear hPc hDc hFc hP1 hD1 hk1 hz1 hw hvm ht t u
  refine kp_f (ci := 11) (k := 9) (q0 := 0) (ws' := (h0, .inr (11, [.ref p1, .ref p2, .ref p3, .ref p4, .ref p5, .ref p6, .ref p7, .ref p8, .ref p9, .ref p10, .null, .null, .int 0])) :: (R9 ++ [(p10, .inr (5, [.ref p2, .ref p6, .ref p7, .ref q48, .int 0, .ref q49, .ref q50, .ref q51, .ref q52, .ref q53, .ref q54, .int 0, .ref q55, .ref q56])), (q48, .inl (g.cA 0, 24, .inl (fun _ => 0))), (q49, .inl (g.cA 0, 24, .inl (fun _ => 0))), (q50, .inl (g.cA 1, 25, .inr (.inl (fun _ => 0)))), (q51, .inl (g.cA 0, 960, .inl (fun _ => 0))), (q52, .inl (g.cA 0, 25, .inl (fun _ => 0))), (q53, .inl (g.cA 0, 25, .inl (fun _ => 0))), (q54, .inl (g.cA 0, 25, .inl (fun _ => 0))), (q55, .inl (g.cA 0, 24, .inl (fun _ => 0))), (q56, .inl (g.cA 0, 24, .inl (fun _ => 0)))])) hx hb hts hown hin hK hP hD hS rfl igX11 tyX11_ok nmX11 fl_11_81 (Nat.le_of_ble_eq_true rfl) rfl rfl rfl rfl (Nat.le_of_ble_eq_true rfl) rfl rfl dX11_init_159 (fun H locs hP hD hS => ?_)
  obtain ⟨R10, eR10⟩ : ∃ R, R = R9 ++ [(p10, .inr (5, [.ref p2, .ref p6, .ref p7, .ref q48, .int 0, .ref q49, .ref q50, .ref q51, .ref q52, .ref q53, .ref q54, .int 0, .ref q55, .ref q56])), (q48, .inl (g.cA 0, 24, .inl (fun _ => 0))), (q49, .inl (g.cA 0, 24, .inl (fun _ => 0))), (q50, .inl (g.cA 1, 25, .inr (.inl (fun _ => 0)))), (q51, .inl (g.cA 0, 960, .inl (fun _ => 0))), (q52, .inl (g.cA 0, 25, .inl (fun _ => 0))), (q53, .inl (g.cA 0, 25, .inl (fun _ => 0))), (q54, .inl (g.cA 0, 25, .inl (fun _ => 0))), (q55, .inl (g.cA 0, 24, .inl (fun _ => 0))), (q56, .inl (g.cA 0, 24, .inl (fun _ => 0)))] := ⟨_, rfl⟩
  rw [← eR10] at hP hD
  refine lv_aload_n hx hb dX11_init_162 rfl (lv_at hl 0 rfl) ?_
  refine va_new (ci := 4) (fs := [.null, .null, .int 0, .null, .int 0, .int 0, .null, .null, .null]) (C := RX4) (T := TX4) (N := 9) hx hb hts igX4 tyX4 tyX4_ok hown (hts _ kx_X11_85) (hts _ ki_X4) (hts _ cl_X4.1) hK hP hD hS hA rfl (xdf_aux rfl) (Nat.le_of_ble_eq_true rfl) (Nat.le_of_ble_eq_true rfl) dX11_init_163 (fun p11 H hP hD hS => ?_)
  refine W.widen (k := 67) (n := 4986) (Nat.le_of_ble_eq_true rfl) (Nat.le_of_ble_eq_true rfl) ?_
  refine lv_dup hx hb dX11_init_166 rfl ?_
  refine lv_aload_n hx hb dX11_init_167 rfl (lv_at hl 0 rfl) ?_
  refine va_get (D := g.D) (ci := 11) (v := .ref p9) (C := RX11) (T := TX11) (N := 13) hx hb hts igX11 hown hK hP 0 rfl rfl 8 (Nat.le_of_ble_eq_true rfl) (hts _ fl_11_72) (fun _ h9 => h9) rfl dX11_init_168 ?_
  have hPc := wl_P hP
  have hDc := wl_D hD
  have hFc := wl_F hD hS hA
  refine va_callv (va_runI (As := [.ref p9]) (rest := [.ref p11, .ref h0]) ⟨hx, hb, hml, hown, hts⟩ (k_X4_init (l := l) (g := g) p11 H.size p9) (cwI 1 hts (xgood mf_X4_init) rfl rfl rfl (hts _ cl_X4.1) (hts _ ml_X11_87) (hts _ mi_X4_init) rfl mf_X4_init.2.2 ⟨Nat.le_of_ble_eq_true rfl, Nat.le_of_ble_eq_true rfl⟩) ⟨fun a U g2 mk h => ⟨h.1, h.2.1, h.2.2.1, va_K.moved (u := U) (U := U.calling g2 mk a) (Vm.Alike.refl U.vm) h.2.2.2.1, h.2.2.2.2.1, xcs.same (s := U) (U := U.calling g2 mk a) rfl h.2.2.2.2.2⟩, fun U hU hw => ⟨rfl, by rw [hU], by rw [hU]; exact hPc, va_K.moved hw.alike hK, hDc.weaken (fun _ _ _ _ => trivial), by rw [hU]; exact ((hcs.kept hS.2.1).narrow hFc).warm hw⟩⟩ rfl rfl hl.1 rfl (lv_room (Nat.le_of_ble_eq_true rfl)) dX11_init_171 ⟨Nat.le_of_ble_eq_true rfl, Nat.le_of_ble_eq_true rfl⟩) hS (fun q _ h => hFc q h) hFc (fun u t H1 locs ht hvm hw hB hz1 hk1 hS => ?_)
  refine W.widen (k := 72) (n := 6919) (Nat.le_of_ble_eq_true rfl) (Nat.le_of_ble_eq_true rfl) ?_
  obtain ⟨q57, q58, q59, q60, q61, hP1, hD1⟩ := hB
  rw [ht] at hP1
  obtain ⟨hP, hD⟩ := wl_J hP hD hk1 hFc hP1 hD1
  generalize H1 = H at hP hS ⊢
  clear hPc hDc hFc hP1 hD1 hk1 hz1 hw hvm ht t u
  refine kp_f (ci := 11) (k := 10) (q0 := 0) (ws' := (h0, .inr (11, [.ref p1, .ref p2, .ref p3, .ref p4, .ref p5, .ref p6, .ref p7, .ref p8, .ref p9, .ref p10, .ref p11, .null, .int 0])) :: (R10 ++ [(p11, .inr (4, [.ref p9, .ref q57, .int 0, .ref q58, .int 0, .int 0, .ref q59, .ref q60, .ref q61])), (q57, .inl (g.cA 0, 12, .inl (fun _ => 0))), (q58, .inl (g.cA 0, 1885, .inl (fun _ => 0))), (q59, .inl (g.cA 0, 12, .inl (fun _ => 0))), (q60, .inl (g.cA 0, 12, .inl (fun _ => 0))), (q61, .inl (g.cA 1, 12, .inr (.inl (fun _ => 0))))])) hx hb hts hown hin hK hP hD hS rfl igX11 tyX11_ok nmX11 fl_11_90 (Nat.le_of_ble_eq_true rfl) rfl rfl rfl rfl (Nat.le_of_ble_eq_true rfl) rfl rfl dX11_init_174 (fun H locs hP hD hS => ?_)
  obtain ⟨R11, eR11⟩ : ∃ R, R = R10 ++ [(p11, .inr (4, [.ref p9, .ref q57, .int 0, .ref q58, .int 0, .int 0, .ref q59, .ref q60, .ref q61])), (q57, .inl (g.cA 0, 12, .inl (fun _ => 0))), (q58, .inl (g.cA 0, 1885, .inl (fun _ => 0))), (q59, .inl (g.cA 0, 12, .inl (fun _ => 0))), (q60, .inl (g.cA 0, 12, .inl (fun _ => 0))), (q61, .inl (g.cA 1, 12, .inr (.inl (fun _ => 0))))] := ⟨_, rfl⟩
  rw [← eR11] at hP hD
  refine lv_aload_n hx hb dX11_init_177 rfl (lv_at hl 0 rfl) ?_
  refine va_new (ci := 10) (fs := [.int 0, .int 0, .null, .null, .null, .null, .null]) (C := RX10) (T := TX10) (N := 7) hx hb hts igX10 tyX10 tyX10_ok hown (hts _ kx_X11_94) (hts _ ki_X10) (hts _ cl_X10.1) hK hP hD hS hA rfl (xdf_aux rfl) (Nat.le_of_ble_eq_true rfl) (Nat.le_of_ble_eq_true rfl) dX11_init_178 (fun p12 H hP hD hS => ?_)
  refine W.widen (k := 73) (n := 6926) (Nat.le_of_ble_eq_true rfl) (Nat.le_of_ble_eq_true rfl) ?_
  refine lv_dup hx hb dX11_init_181 rfl ?_
  have hPc := wl_P hP
  have hDc := wl_D hD
  have hFc := wl_F hD hS hA
  refine va_callv (va_runIN (As := []) (rest := [.ref p12, .ref h0]) ⟨hx, hb, hml, hown, hts⟩ (k_X10_init (l := l) (g := g) p12 H.size) ⟨va_cnB 0 hts (xgood mf_X10_init) rfl rfl rfl (hcs.2.2.2.1 _ xn_X11_96) (hts _ cl_X10.1) mf_X10_init.2.2 ⟨Nat.le_of_ble_eq_true rfl, Nat.le_of_ble_eq_true rfl⟩, rfl, hts _ mi_X10_init⟩ ⟨fun a U g2 mk h => ⟨h.1, h.2.1, h.2.2.1, va_K.moved (u := U) (U := U.calling g2 mk a) (Vm.Alike.refl U.vm) h.2.2.2.1, h.2.2.2.2.1, xcs.same (s := U) (U := U.calling g2 mk a) rfl h.2.2.2.2.2⟩, fun U hU hw => ⟨rfl, by rw [hU], by rw [hU]; exact hPc, va_K.moved hw.alike hK, hDc.weaken (fun _ _ _ _ => trivial), by rw [hU]; exact ((hcs.kept hS.2.1).narrow hFc).warm hw⟩⟩ rfl rfl hl.1 rfl (lv_room (Nat.le_of_ble_eq_true rfl)) dX11_init_182 ⟨Nat.le_of_ble_eq_true rfl, Nat.le_of_ble_eq_true rfl⟩) hS (fun q _ h => hFc q h) hFc (fun u t H1 locs ht hvm hw hB hz1 hk1 hS => ?_)
  refine W.widen (k := 78) (n := 7226) (Nat.le_of_ble_eq_true rfl) (Nat.le_of_ble_eq_true rfl) ?_
  obtain ⟨q62, q63, q64, q65, q66, hP1, hD1⟩ := hB
  rw [ht] at hP1
  obtain ⟨hP, hD⟩ := wl_J hP hD hk1 hFc hP1 hD1
  generalize H1 = H at hP hS ⊢
  clear hPc hDc hFc hP1 hD1 hk1 hz1 hw hvm ht t u
  refine kp_f (ci := 11) (k := 11) (q0 := 0) (ws' := (h0, .inr (11, [.ref p1, .ref p2, .ref p3, .ref p4, .ref p5, .ref p6, .ref p7, .ref p8, .ref p9, .ref p10, .ref p11, .ref p12, .int 0])) :: (R11 ++ [(p12, .inr (10, [.int 0, .int 0, .ref q62, .ref q63, .ref q64, .ref q65, .ref q66])), (q62, .inl (g.cA 0, 60, .inl (fun _ => 0))), (q63, .inl (g.cA 0, 60, .inl (fun _ => 0))), (q64, .inl (g.cA 0, 60, .inl (fun _ => 0))), (q65, .inl (g.cA 0, 60, .inl (fun _ => 0))), (q66, .inl (g.cA 0, 60, .inl (fun _ => 0)))])) hx hb hts hown hin hK hP hD hS rfl igX11 tyX11_ok nmX11 fl_11_97 (Nat.le_of_ble_eq_true rfl) rfl rfl rfl rfl (Nat.le_of_ble_eq_true rfl) rfl rfl dX11_init_185 (fun H locs hP hD hS => ?_)
  obtain ⟨R12, eR12⟩ : ∃ R, R = R11 ++ [(p12, .inr (10, [.int 0, .int 0, .ref q62, .ref q63, .ref q64, .ref q65, .ref q66])), (q62, .inl (g.cA 0, 60, .inl (fun _ => 0))), (q63, .inl (g.cA 0, 60, .inl (fun _ => 0))), (q64, .inl (g.cA 0, 60, .inl (fun _ => 0))), (q65, .inl (g.cA 0, 60, .inl (fun _ => 0))), (q66, .inl (g.cA 0, 60, .inl (fun _ => 0)))] := ⟨_, rfl⟩
  rw [← eR12] at hP hD
  have eW : (h0, .inr (11, [.ref p1, .ref p2, .ref p3, .ref p4, .ref p5, .ref p6, .ref p7, .ref p8, .ref p9, .ref p10, .ref p11, .ref p12, .int 0])) :: R12 = ([(h0, .inr (11, [.ref p1, .ref p2, .ref p3, .ref p4, .ref p5, .ref p6, .ref p7, .ref p8, .ref p9, .ref p10, .ref p11, .ref p12, .int 0])), (p1, .inr (8, [.ref q1, .int 0, .int 0, .int 0, .int 0, .int 0, .long 0, .int 0, .int 0, .int 0, .int 0, .int 0, .int (-1)])), (q1, .inl (g.cA 2, 800, .inl (fun _ => 0))), (p2, .inr (6, [.int 0, .ref q2, .ref q3, .ref q4, .ref q5, .ref q6, .ref q7, .ref q8, .ref q9, .int 0])), (q2, .inl (g.cA 1, 40, .inr (.inl (fun _ => 0)))), (q3, .inl (g.cA 0, 40, .inl (fun _ => 0))), (q4, .inl (g.cA 0, 40, .inl (fun _ => 0))), (q5, .inl (g.cA 0, 40, .inl (fun _ => 0))), (q6, .inl (g.cA 0, 40, .inl (fun _ => 0))), (q7, .inl (g.cA 0, 40, .inl (fun _ => 0))), (q8, .inl (g.cA 1, 40, .inr (.inl (fun _ => 0)))), (q9, .inl (g.cA 0, 4, .inl (va_cpy (fun j => st_0.getD j 0) (fun _ => 0) 0 0 4))), (p3, .inr (6, [.int 0, .ref q10, .ref q11, .ref q12, .ref q13, .ref q14, .ref q15, .ref q16, .ref q17, .int 0])), (q10, .inl (g.cA 1, 40, .inr (.inl (fun _ => 0)))), (q11, .inl (g.cA 0, 40, .inl (fun _ => 0))), (q12, .inl (g.cA 0, 40, .inl (fun _ => 0))), (q13, .inl (g.cA 0, 40, .inl (fun _ => 0))), (q14, .inl (g.cA 0, 40, .inl (fun _ => 0))), (q15, .inl (g.cA 0, 40, .inl (fun _ => 0))), (q16, .inl (g.cA 1, 40, .inr (.inl (fun _ => 0)))), (q17, .inl (g.cA 0, 4, .inl (va_cpy (fun j => st_0.getD j 0) (fun _ => 0) 0 0 4))), (p4, .inr (0, [.ref p2, .ref q18, .int 0, .int 0, .int 0, .int 0, .int 0])), (q18, .inl (g.cA 0, 240, .inl (fun _ => 0))), (p5, .inr (1, [.ref p2, .ref p4, .int 0, .ref q19, .ref q20, .int 0, .ref q21, .ref q22, .ref q23, .ref q24, .ref q25, .ref q26, .ref q27, .int 0, .int 0])), (q19, .inl (g.cA 0, 12, .inl (fun _ => 0))), (q20, .inl (g.cA 0, 12, .inl (fun _ => 0))), (q21, .inl (g.cA 0, 24, .inl (fun _ => 0))), (q22, .inl (g.cA 0, 24, .inl (fun _ => 0))), (q23, .inl (g.cA 0, 24, .inl (fun _ => 0))), (q24, .inl (g.cA 0, 24, .inl (fun _ => 0))), (q25, .inl (g.cA 0, 24, .inl (fun _ => 0))), (q26, .inl (g.cA 0, 24, .inl (fun _ => 0))), (q27, .inl (g.cA 0, 24, .inl (fun _ => 0))), (p6, .inr (9, [.int 0, .ref q28, .ref q29, .ref q30, .ref q31])), (q28, .inl (g.cA 1, 40, .inr (.inl (fun _ => 0)))), (q29, .inl (g.cA 0, 40, .inl (fun _ => 0))), (q30, .inl (g.cA 0, 40, .inl (fun _ => 0))), (q31, .inl (g.cA 1, 40, .inr (.inl (fun _ => 0)))), (p7, .inr (7, [.ref p6, .ref p2, .int 0, .long 0, .long 0, .int 0, .int 0, .ref q32])), (q32, .inl (g.cA 0, 384, .inl (fun _ => 0))), (p8, .inr (3, [.ref p2, .ref q33, .ref q34, .ref q35, .int 0, .ref q36, .ref q37])), (q33, .inl (g.cA 0, 25, .inl (fun _ => 0))), (q34, .inl (g.cA 0, 25, .inl (fun _ => 0))), (q35, .inl (g.cA 0, 25, .inl (fun _ => 0))), (q36, .inl (g.cA 0, 24, .inl (fun _ => 0))), (q37, .inl (g.cA 0, 24, .inl (fun _ => 0))), (p9, .inr (2, [.ref p2, .ref p7, .ref p8, .ref q38, .ref q39, .ref q40, .ref q41, .ref q42, .ref q43, .ref q44, .ref q45, .ref q46, .ref q47, .int 0])), (q38, .inl (g.cA 0, 40, .inl (fun _ => 0))), (q39, .inl (g.cA 0, 40, .inl (fun _ => 0))), (q40, .inl (g.cA 0, 40, .inl (fun _ => 0))), (q41, .inl (g.cA 1, 40, .inr (.inl (fun _ => 0)))), (q42, .inl (g.cA 0, 520, .inl (fun _ => 0))), (q43, .inl (g.cA 1, 520, .inr (.inl (fun _ => 0)))), (q44, .inl (g.cA 0, 13, .inl (fun _ => 0))), (q45, .inl (g.cA 1, 13, .inr (.inl (fun _ => 0)))), (q46, .inl (g.cA 0, 12, .inl (fun _ => 0))), (q47, .inl (g.cA 0, 13, .inl (fun _ => 0))), (p10, .inr (5, [.ref p2, .ref p6, .ref p7, .ref q48, .int 0, .ref q49, .ref q50, .ref q51, .ref q52, .ref q53, .ref q54, .int 0, .ref q55, .ref q56])), (q48, .inl (g.cA 0, 24, .inl (fun _ => 0))), (q49, .inl (g.cA 0, 24, .inl (fun _ => 0))), (q50, .inl (g.cA 1, 25, .inr (.inl (fun _ => 0)))), (q51, .inl (g.cA 0, 960, .inl (fun _ => 0))), (q52, .inl (g.cA 0, 25, .inl (fun _ => 0))), (q53, .inl (g.cA 0, 25, .inl (fun _ => 0))), (q54, .inl (g.cA 0, 25, .inl (fun _ => 0))), (q55, .inl (g.cA 0, 24, .inl (fun _ => 0))), (q56, .inl (g.cA 0, 24, .inl (fun _ => 0))), (p11, .inr (4, [.ref p9, .ref q57, .int 0, .ref q58, .int 0, .int 0, .ref q59, .ref q60, .ref q61])), (q57, .inl (g.cA 0, 12, .inl (fun _ => 0))), (q58, .inl (g.cA 0, 1885, .inl (fun _ => 0))), (q59, .inl (g.cA 0, 12, .inl (fun _ => 0))), (q60, .inl (g.cA 0, 12, .inl (fun _ => 0))), (q61, .inl (g.cA 1, 12, .inr (.inl (fun _ => 0)))), (p12, .inr (10, [.int 0, .int 0, .ref q62, .ref q63, .ref q64, .ref q65, .ref q66])), (q62, .inl (g.cA 0, 60, .inl (fun _ => 0))), (q63, .inl (g.cA 0, 60, .inl (fun _ => 0))), (q64, .inl (g.cA 0, 60, .inl (fun _ => 0))), (q65, .inl (g.cA 0, 60, .inl (fun _ => 0))), (q66, .inl (g.cA 0, 60, .inl (fun _ => 0)))] : va_W) := by rw [eR12, eR11, eR10, eR9, eR8, eR7, eR6, eR5, eR4, eR3, eR2, eR1, eR0]; rfl
  rw [eW] at hP hD
  obtain ⟨q, hq0, hP9, hD9⟩ := ctorx_fin h0 p1 q1 p2 q2 q3 q4 q5 q6 q7 q8 q9 p3 q10 q11 q12 q13 q14 q15 q16 q17 p4 q18 p5 q19 q20 q21 q22 q23 q24 q25 q26 q27 p6 q28 q29 q30 q31 p7 q32 p8 q33 q34 q35 q36 q37 p9 q38 q39 q40 q41 q42 q43 q44 q45 q46 q47 p10 q48 q49 q50 q51 q52 q53 q54 q55 q56 p11 q57 q58 q59 q60 q61 p12 q62 q63 q64 q65 q66 hP hD
  exact W.vret hx hb hr (fun t ht hW => ⟨⟨(), rfl, trivial, q, hq0, by rw [ht]; exact hP9, hD9⟩, hS.F ht⟩) hS.2.2 dX11_init_188
