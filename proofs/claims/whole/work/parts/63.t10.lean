theorem lw_more {i L : Nat} (hi : i ≤ 3072) (hL : L ≤ 3072) (h : ¬ Int32.ofNat L - 6 < nI i) : i + 6 ≤ L := by
  rcases Nat.lt_or_ge L (i + 6) with q | q
  · exfalso
    apply h
    rcases Nat.lt_or_ge L 6 with q6 | q6
    · have h0 : Int32.ofNat L - 6 < nI 0 := by
        rcases (show L = 0 ∨ L = 1 ∨ L = 2 ∨ L = 3 ∨ L = 4 ∨ L = 5 by omega) with rfl | rfl | rfl | rfl | rfl | rfl <;> decide
      exact Int32.lt_of_lt_of_le h0 (nI_le (Nat.zero_le i) (by omega))
    · have e : Int32.ofNat L - 6 = nI (L - 6) := nsub (a := L) (b := 6) q6
      rw [e]
      exact (nlt (by omega) (by omega)).mpr (by omega)
  · exact q
section LAWL
variable {p : Program} {l : Launch} {e : Env} {s : State} {m : MethodId} {below : List Frame} {meth : Method} {c : Code} {cells slots : Nat}
variable {g : XG} {qx qm : Nat → Nat} {b L N : Nat} {xs : Nat → Int32}
theorem law_loop (hN : 802 < N) (C : LA g qx qm b L xs p s m c) (hL : L ≤ 3072) (hr : meth.sig.returnType = ret) (hlocks : meth.locks = false) (hcl : cells ≤ room_1.cells ∧ slots ≤ room_1.slots) : ∀ (n i : Nat) (x3 : Int32) (σ τ : St) (H : Heap) (locs : List Loc) (ls : Array Slot), L ≤ i + n → i ≤ 3072 → x3 = nI i → RelE σ τ → LWd g qx qm s σ τ H locs → lv_has ls 4 [(0, .ref b), (1, .ref (qx 0)), (2, .ref (qm 0)), (3, .int x3)] → W p l e room_1 s m #[Value.ref b] below meth c H locs cells slots (lw_Z below #[Value.ref b] s) (F0 m 18 ls []) := by
  obtain ⟨hx, hb, hml, hown, hts, hK, hcs, hDx, hDm, hsx, hsm, hdis, hX, hbl⟩ := id C
  have hbA : ¬ (fun q : Nat => s.heap.size ≤ q) b := Nat.not_le.mpr hbl
  intro n
  induction n with
  | zero =>
    intro i x3 σ τ H locs ls hn hi hx3 hR w hl
    refine lv_iload_n hx hb d_law_18 rfl (lv_at hl 3 rfl) ?_
    refine lv_aload_n hx hb d_law_19 rfl (lv_at hl 0 rfl) ?_
    refine va_slen (A := fun q => s.heap.size ≤ q) hx hb hX hbl hbA w.2.2 d_law_20 ?_
    refine lv_bipush (v := 6) hx hb d_law_21 rfl ?_
    refine lv_isub hx hb d_law_23 ?_
    refine lv_icmp_gt (tgt := 1058) hx hb d_law_24 (by decide) (fun _ => ?_) (fun h => ?_)
    · refine lv_iconst (v := 1) hx hb d_law_1058 rfl ?_
      refine va_forget w.2.2.2.2 ?_
      refine W.widen (k := 600000) (n := 7302250) hcl.1 hcl.2 ?_
      exact lw_ret hx hb hr hlocks d_law_1059
    · rw [hx3] at h
      have := lw_more hi hL h
      omega
  | succ n ih =>
    intro i x3 σ τ H locs ls hn hi hx3 hR w hl
    refine lv_iload_n hx hb d_law_18 rfl (lv_at hl 3 rfl) ?_
    refine lv_aload_n hx hb d_law_19 rfl (lv_at hl 0 rfl) ?_
    refine va_slen (A := fun q => s.heap.size ≤ q) hx hb hX hbl hbA w.2.2 d_law_20 ?_
    refine lv_bipush (v := 6) hx hb d_law_21 rfl ?_
    refine lv_isub hx hb d_law_23 ?_
    refine lv_icmp_gt (tgt := 1058) hx hb d_law_24 (by decide) (fun _ => ?_) (fun h => ?_)
    · refine lv_iconst (v := 1) hx hb d_law_1058 rfl ?_
      refine va_forget w.2.2.2.2 ?_
      refine W.widen (k := 600000) (n := 7302250) hcl.1 hcl.2 ?_
      exact lw_ret hx hb hr hlocks d_law_1059
    · rw [hx3] at h
      have hi6 := lw_more hi hL h
      have hin : vp_in x3 L := by rw [hx3]; exact vp_in_nI (by omega) (by omega)
      refine lv_aload_n hx hb d_law_27 rfl (lv_at hl 0 rfl) ?_
      refine lv_iload_n hx hb d_law_28 rfl (lv_at hl 3 rfl) ?_
      refine va_sld (A := fun q => s.heap.size ≤ q) hx hb hX hbl hbA w.2.2 hin d_law_29 ?_
      refine lv_bipush (v := 63) hx hb d_law_30 rfl ?_
      refine lv_iand hx hb d_law_32 ?_
      refine lw_switch hN C w hR hi6 hL hx3 hl hcl (fun σ' τ' H' locs' hR' w' => ?_) _
      refine lv_iinc (v := nI (i + 6)) (lv' := [(3, .int (nI (i + 6))), (0, .ref b), (1, .ref (qx 0)), (2, .ref (qm 0))]) hx hb d_law_1052 hl (k := 3) rfl (by rw [hx3]; exact nadd i 6) (by decide) rfl (fun ls' hl' => ?_)
      refine lv_goto (tgt := 18) hx hb d_law_1055 (by decide) ?_
      exact ih (i + 6) (nI (i + 6)) σ' τ' H' locs' ls' (by omega) (by omega) rfl hR' w' (lv_sub hl' [1, 2, 3, 0] rfl)
end LAWL
