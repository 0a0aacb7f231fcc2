set_option maxHeartbeats 1000000 in
set_option maxRecDepth 100000 in
/-- THE LAW, from its entry -/
theorem whole_start {p : Program} {e : Env} {s : State} {m : MethodId} {below : List Frame} {meth : Method} {c : Code} (l : Launch) {b L : Nat} {xs : Nat → Int32} (hL : L ≤ 3072) (C0 : lw_At p s m meth c b L xs) : W p l e room_1 s m #[Value.ref b] below meth c s.heap [] 0 0 (lw_Z below #[Value.ref b] s) (entryFrame m ([Value.ref b] : List Value).toArray 4) := by
  obtain ⟨hx, hb, hr, hml, hown, hts0, hX, hbl, hlocks, hgv⟩ := id C0
  have hts : ∀ w ∈ lw_g, w.before #[Value.ref b] s = true := fun w hw => hts0 w (lw_g_tbl w hw)
  obtain ⟨D, cA, hK0⟩ := ent_K hts
  obtain ⟨ts, aK, aV, hcs0⟩ := ent_cs hts0 hgv D cA (fun _ => 0)
  obtain ⟨g, hg⟩ : ∃ g : XG, g = (D, cA, fun _ => 0, ts, aK, aV) := ⟨_, rfl⟩
  have hK : va_K g.D xcl (xty g.cA) s := by rw [hg]; exact hK0
  have hcs : xcs (fun q => s.heap.size ≤ q) g s s.heap := by rw [hg]; exact hcs0
  clear hK0 hcs0 hg
  obtain ⟨σ1, σ2, hb1, hb2, hRel⟩ := start_rel (N := 803) (by omega)
  have hA : ∀ q : Nat, s.heap.size ≤ q → (fun q : Nat => s.heap.size ≤ q) q := fun _ h => h
  have hS : va_S (fun q : Nat => s.heap.size ≤ q) s.heap s.heap [] := va_S.rf
  have hP : va_P g.D xcl [] s.heap := fun k q h => by simp at h
  have hD : va_D (fun q : Nat => s.heap.size ≤ q) [] := ⟨fun i j p q h => by simp at h, fun k q h => by simp at h⟩
  have hl := lv_entry ([.ref b]) (n := 4) (Nat.le_of_ble_eq_true rfl)
  rw [lg_entry_eq]
  generalize (lg_sl ([.ref b]) ++ List.replicate (4 - (lg_sl ([.ref b])).length) Slot.unset).toArray = ls at hl ⊢
  have hl : lv_has ls 4 [(0, .ref b)] := hl
  refine va_new (ci := 11) (fs := [.null, .null, .null, .null, .null, .null, .null, .null, .null, .null, .null, .null, .int 0]) (C := RX11) (T := TX11) (N := 13) hx hb hts igX11 tyX11 tyX11_ok hown (hts _ kx_law_7) (hts _ ki_X11) (hts _ cl_X11.1) hK hP hD hS hA rfl d11_ok (Nat.le_of_ble_eq_true rfl) (Nat.le_of_ble_eq_true rfl) d_law_0 (fun p1 H hP hD hS => ?_)
  refine W.widen (k := 1) (n := 13) (Nat.le_of_ble_eq_true rfl) (Nat.le_of_ble_eq_true rfl) ?_
  refine lv_dup hx hb d_law_3 rfl ?_
  have hPc := wl_P hP
  have hDc := wl_D hD
  have hFc := wl_F hD hS hA
  refine va_callv (va_runI (As := []) (rest := [.ref p1]) ⟨hx, hb, hml, hown, hts⟩ (k_X11_init (l := l) (g := g) p1 H.size) (cwI 0 hts (xgood mf_X11_init) rfl rfl rfl (hts _ cl_X11.1) (hts _ ml_law_9) (hts _ mi_X11_init) rfl mf_X11_init.2.2 ⟨Nat.le_of_ble_eq_true rfl, Nat.le_of_ble_eq_true rfl⟩) ⟨fun a U g2 mk h => ⟨h.1, h.2.1, h.2.2.1, va_K.moved (u := U) (U := U.calling g2 mk a) (Vm.Alike.refl U.vm) h.2.2.2.1, h.2.2.2.2.1, xcs.same (s := U) (U := U.calling g2 mk a) rfl h.2.2.2.2.2⟩, fun U hU hw => ⟨rfl, by rw [hU], by rw [hU]; exact hPc, va_K.moved hw.alike hK, hDc.weaken (fun _ _ _ _ => trivial), by rw [hU]; exact ((hcs.kept hS.2.1).narrow hFc).warm hw⟩⟩ rfl rfl hl.1 rfl (lv_room (Nat.le_of_ble_eq_true rfl)) d_law_4 ⟨Nat.le_of_ble_eq_true rfl, Nat.le_of_ble_eq_true rfl⟩) hS (fun q _ h => hFc q h) hFc (fun u t H1 locs ht hvm hw hB hz1 hk1 hS => ?_)
  refine W.widen (k := 79) (n := 7239) (Nat.le_of_ble_eq_true rfl) (Nat.le_of_ble_eq_true rfl) ?_
  obtain ⟨qx, hqx, hP1, hD1⟩ := hB
  rw [ht] at hP1
  obtain ⟨hP, hD⟩ := wl_J hP hD hk1 hFc hP1 hD1
  rw [List.nil_append] at hP hD
  clear hPc hDc hFc hP1 hD1 hk1 hz1 hw hvm ht t u
  refine lv_astore_n (lv' := [(1, .ref p1), (0, .ref b)]) hx hb d_law_7 rfl hl (by decide) rfl (fun ls hl => ?_)
  exact law_from8 hL hx hb hr hml hown hts hX hbl hlocks hK hcs hb1 hb2 hRel hqx hP hD hS hl
