set_option maxHeartbeats 1000000 in
set_option maxRecDepth 100000 in
theorem law_from8 {p : Program} {e : Env} {s : State} {m : MethodId} {below : List Frame} {meth : Method} {c : Code} {l : Launch} {b L : Nat} {xs : Nat → Int32} {g : XG} {qx : Nat → Nat} {p1 : Nat} {σ1 σ2 : St} {H1 : Heap} {locs : List Loc} {ls : Array Slot} (hL : L ≤ 3072) (hx : p.tables.exec = Jvm.exec) (hb : c.code = code) (hr : meth.sig.returnType = ret) (hml : c.maxLocals = 4) (hown : s.vm.findClass R_law = some m.cls) (hts : ∀ w ∈ lw_g, w.before #[Value.ref b] s = true) (hX : va_X b L xs s s.heap) (hbl : b < s.heap.size) (hlocks : meth.locks = false) (hK : va_K g.D xcl (xty g.cA) s) (hcs : xcs (fun q => s.heap.size ≤ q) g s s.heap) (hb1 : f_X12_beginDraft σM0 = some σ1) (hb2 : f_X12_takeDraft 803 σ1 = some σ2) (hRel : RelE σX0 σ2) (hqx : qx 0 = p1) (hP : va_P g.D xcl (xws KX g.cA qx σX0) H1) (hD : va_D (fun q : Nat => s.heap.size ≤ q) (xws KX g.cA qx σX0)) (hS : va_S (fun q : Nat => s.heap.size ≤ q) s.heap H1 locs) (hl : lv_has ls 4 [(1, .ref p1), (0, .ref b)]) : W p l e room_1 s m #[Value.ref b] below meth c H1 locs 79 7239 (lw_Z below #[Value.ref b] s) (F0 m 8 ls []) := by
  have hA : ∀ q : Nat, s.heap.size ≤ q → (fun q : Nat => s.heap.size ≤ q) q := fun _ h => h
  obtain ⟨ws, hws⟩ : ∃ ws, ws = xws KX g.cA qx σX0 := ⟨_, rfl⟩
  rw [← hws] at hP hD
  refine va_new (ci := 12) (fs := d12) (C := RX12) (T := TX12) (N := 103) hx hb hts igX12 tyX12 tyX12_ok hown (hts _ kx_law_10) (hts _ ki_X12) (hts _ cl_X12.1) hK hP hD hS hA rfl d12_ok (Nat.le_of_ble_eq_true rfl) (Nat.le_of_ble_eq_true rfl) d_law_8 (fun p2 H hP hD hS => ?_)
  refine W.widen (k := 80) (n := 7342) (Nat.le_of_ble_eq_true rfl) (Nat.le_of_ble_eq_true rfl) ?_
  rw [← fM_0 p2] at hP hD
  refine lv_dup hx hb d_law_11 rfl ?_
  have hPc := wl_P hP
  have hDc := wl_D hD
  have hFc := wl_F hD hS hA
  refine va_callv (va_runI (As := []) (rest := [.ref p2]) ⟨hx, hb, hml, hown, hts⟩ (k_X12_init (l := l) (g := g) 803 hb1 hb2 p2 H.size) (cwI 0 hts (xgood mf_X12_init) rfl rfl rfl (hts _ cl_X12.1) (hts _ ml_law_12) (hts _ mi_X12_init) rfl mf_X12_init.2.2 ⟨Nat.le_of_ble_eq_true rfl, Nat.le_of_ble_eq_true rfl⟩) ⟨fun a U g2 mk h => ⟨h.1, h.2.1, h.2.2.1, va_K.moved (u := U) (U := U.calling g2 mk a) (Vm.Alike.refl U.vm) h.2.2.2.1, h.2.2.2.2.1, xcs.same (s := U) (U := U.calling g2 mk a) rfl h.2.2.2.2.2⟩, fun U hU hw => ⟨rfl, by rw [hU], by rw [hU]; exact hPc, va_K.moved hw.alike hK, hDc.weaken (fun _ _ _ _ => trivial), by rw [hU]; exact ((hcs.kept hS.2.1).narrow hFc).warm hw⟩⟩ rfl rfl hl.1 rfl (lv_room (Nat.le_of_ble_eq_true rfl)) d_law_12 ⟨Nat.le_of_ble_eq_true rfl, Nat.le_of_ble_eq_true rfl⟩) hS (fun q _ h => hFc q h) hFc (fun u t H2 locs2 ht hvm hw hB hz1 hk1 hS => ?_)
  refine W.widen (k := 149) (n := 41599) (Nat.le_of_ble_eq_true rfl) (Nat.le_of_ble_eq_true rfl) ?_
  obtain ⟨qm, hqm, hP1, hD1⟩ := hB
  rw [ht] at hP1
  obtain ⟨hP, hD⟩ := wl_J hP hD hk1 hFc hP1 hD1
  clear hPc hDc hFc hP1 hD1 hk1 hz1 hw hvm ht t u
  refine lv_astore_n (lv' := [(2, .ref p2), (1, .ref p1), (0, .ref b)]) hx hb d_law_15 rfl hl (by decide) rfl (fun ls hl => ?_)
  refine lv_iconst (v := 0) hx hb d_law_16 rfl ?_
  refine lv_istore_n (lv' := [(3, .int 0), (2, .ref p2), (1, .ref p1), (0, .ref b)]) hx hb d_law_17 rfl hl (by decide) rfl (fun ls hl => ?_)
  rw [hws] at hP hD
  have C : LA g qx qm b L xs p s m c := ⟨hx, hb, hml, hown, hts, hK, hcs, xD_of (wl_Dl hD), xD_of (wl_Dr hD), xA_of (wl_Dl hD), xA_of (wl_Dr hD), wl_dis hD, hX, hbl⟩
  have hl2 : lv_has ls 4 [(0, .ref b), (1, .ref (qx 0)), (2, .ref (qm 0)), (3, .int 0)] := by rw [hqx, hqm]; exact lv_sub hl [3, 2, 1, 0] rfl
  exact law_loop (N := 803) (by omega) C hL hr hlocks ⟨Nat.le_of_ble_eq_true rfl, Nat.le_of_ble_eq_true rfl⟩ L 0 0 σX0 σ2 _ _ ls (by omega) (by omega) rfl hRel ⟨wl_Pl hP, wl_Pr hP, hS⟩ hl2
