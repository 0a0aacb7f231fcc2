section ENT
variable {s : State} {args : Array Value}
theorem ent_st (hts : ∀ w ∈ lw_tbl, w.before args s = true) (hg : (Jvm.Cond.and given_1 narrow_1).before args s = true) : ∃ ts : Nat → Nat, ∀ (i : Nat) (e : String × String × List Int32), xst[i]? = some e → va_Z e.1 e.2.1 "[I" (.ref (ts i)) (fun q => s.heap.size ≤ q) s s.heap ∧ va_T .int (ts i) e.2.2.length (fun j => .int (e.2.2.getD j 0)) (fun q => s.heap.size ≤ q) s s.heap := by
  have hs : ∀ w ∈ FLc, w.before args s = true := flat_of_before _ hg
  have hA : ∀ a : Nat, a < s.heap.size → ¬ (fun q => s.heap.size ≤ q) a := fun a h => Nat.not_le.mpr h
  have hw : ∀ i, i < 6 → ∀ e, xst[i]? = some e → (Cond.laysStatic e.1 e.2.1 "[I").before args s = true ∧ (Cond.initialized e.1).before args s = true := (xlts (xlts (xlts (xlts (xlts (xlts xlt0 (fun e he => by cases he; exact ⟨hts _ tb_s0, hts _ tb_i0⟩)) (fun e he => by cases he; exact ⟨hts _ tb_s1, hts _ tb_i1⟩)) (fun e he => by cases he; exact ⟨hts _ tb_s2, hts _ tb_i2⟩)) (fun e he => by cases he; exact ⟨hts _ tb_s3, hts _ tb_i3⟩)) (fun e he => by cases he; exact ⟨hts _ tb_s4, hts _ tb_i4⟩)) (fun e he => by cases he; exact ⟨hts _ tb_s5, hts _ tb_i5⟩))
  have h : ∀ i : Nat, ∃ t : Nat, ∀ e : String × String × List Int32, xst[i]? = some e → va_Z e.1 e.2.1 "[I" (.ref t) (fun q => s.heap.size ≤ q) s s.heap ∧ va_T .int t e.2.2.length (fun j => .int (e.2.2.getD j 0)) (fun q => s.heap.size ≤ q) s s.heap := by
    intro i
    cases he : xst[i]? with
    | none => exact ⟨0, fun e h => by cases h⟩
    | some e =>
      have hi : i < 6 := xlt he
      obtain ⟨f1, f2, f3, f4⟩ := fl_a i hi e (by rw [he]; exact List.mem_singleton.mpr rfl)
      obtain ⟨w1, w2⟩ := hw i hi e he
      obtain ⟨t, ht, hT⟩ := va_Tof (args := args) (s := s) (tm := .static e.1 e.2.1 "[I") (ty := .int) (N := e.2.2.length) (f := fun j => .int (e.2.2.getD j 0)) (A := fun q => s.heap.size ≤ q) (by omega) (hs _ (List.mem_of_getElem? f1)) (va_eqt (hs _ (List.mem_of_getElem? f2))) (fun j hj => va_eqt (hs _ (List.mem_of_getElem? (f4 j hj)))) hA
      exact ⟨t, fun e' h' => by cases h'; exact ⟨va_Zref w1 w2 ht hA, hT⟩⟩
  obtain ⟨ts, h2⟩ := Classical.axiomOfChoice h
  exact ⟨ts, fun i e he => h2 i e he⟩
theorem ent_tx (hts : ∀ w ∈ lw_tbl, w.before args s = true) (hg : (Jvm.Cond.and given_1 narrow_1).before args s = true) : ∃ aK aV : Nat → Nat, vk_S 10 xtl xtb aK aV (fun q => s.heap.size ≤ q) s s.heap ∧ ∀ (i : Nat) (e : String × Nat × String), xtx[i]? = some e → vk_R e.1 e.2.1 e.2.2 (aK i) s := by
  have hs : ∀ w ∈ FLc, w.before args s = true := flat_of_before _ hg
  have hA : ∀ a : Nat, a < s.heap.size → ¬ (fun q => s.heap.size ≤ q) a := fun a h => Nat.not_le.mpr h
  obtain ⟨aK, aV, h1, h2⟩ := vk_Sof (args := args) (s := s) (N := 10) (tm := tmS) (len := xtl) (byt := xtb) (A := fun q => s.heap.size ≤ q) (fun i hi => by have := (fl_x i hi).2.2.2.2.1; omega) (fun i hi => hs _ (List.mem_of_getElem? (fl_x i hi).1)) (fun i hi => hs _ (List.mem_of_getElem? (fl_x i hi).2.1)) (fun i hi => hs _ (List.mem_of_getElem? (fl_x i hi).2.2.1)) (fun i hi => hs _ (List.mem_of_getElem? (fl_x i hi).2.2.2.1)) (fun i hi j hj => hs _ (List.mem_of_getElem? ((fl_x i hi).2.2.2.2.2 j hj))) (fun i j hi hj hne => by
    rcases Nat.lt_or_ge i j with q | q
    · exact Or.inl (hs _ (List.mem_of_getElem? (fl_n i hi j hj q)))
    · exact Or.inr (hs _ (List.mem_of_getElem? (fl_n j hj i hi (by omega))))) hA
  have hw : ∀ i, i < 10 → ∀ e, xtx[i]? = some e → (Cond.stringRef e.1 e.2.1 e.2.2).before args s = true := (xlts (xlts (xlts (xlts (xlts (xlts (xlts (xlts (xlts (xlts xlt0 (fun e he => by cases he; exact hts _ tb_r0)) (fun e he => by cases he; exact hts _ tb_r1)) (fun e he => by cases he; exact hts _ tb_r2)) (fun e he => by cases he; exact hts _ tb_r3)) (fun e he => by cases he; exact hts _ tb_r4)) (fun e he => by cases he; exact hts _ tb_r5)) (fun e he => by cases he; exact hts _ tb_r6)) (fun e he => by cases he; exact hts _ tb_r7)) (fun e he => by cases he; exact hts _ tb_r8)) (fun e he => by cases he; exact hts _ tb_r9))
  refine ⟨aK, aV, h1, fun i e he => ?_⟩
  have hi : i < 10 := xlt he
  have e2 : tmS i = .string e.1 e.2.1 := by unfold tmS; rw [he]
  have h3 := h2 i hi
  rw [e2] at h3
  exact vk_R.of (hw i hi e he) h3
theorem ent_cs (hts : ∀ w ∈ lw_tbl, w.before args s = true) (hg : (Jvm.Cond.and given_1 narrow_1).before args s = true) (D : va_G) (cA : Nat → ClassId) (q : Nat → Nat) : ∃ ts aK aV : Nat → Nat, xcs (fun q => s.heap.size ≤ q) (D, cA, q, ts, aK, aV) s s.heap := by
  obtain ⟨ts, h1⟩ := ent_st hts hg
  obtain ⟨aK, aV, h2, h3⟩ := ent_tx hts hg
  have hs : ∀ w ∈ FLc, w.before args s = true := flat_of_before _ hg
  have hA : ∀ a : Nat, a < s.heap.size → ¬ (fun q => s.heap.size ≤ q) a := fun a h => Nat.not_le.mpr h
  refine ⟨ts, aK, aV, h1, h2, h3, ?_, va_Zof (hts _ tb_c1) (hts _ tb_c2) (va_eqi (hs _ (List.mem_of_getElem? fl_c))) hA, va_Zqof (hts _ tb_q1) (hts _ tb_q2) (hs _ (List.mem_of_getElem? fl_q)) hA⟩
  exact List.forall_mem_cons.mpr ⟨va_Nw.of rfl (hts _ tb_n0), List.forall_mem_cons.mpr ⟨va_Nw.of rfl (hts _ tb_n1), List.forall_mem_cons.mpr ⟨va_Nw.of rfl (hts _ tb_n2), List.forall_mem_cons.mpr ⟨va_Nw.of rfl (hts _ tb_n3), List.forall_mem_cons.mpr ⟨va_Nw.of rfl (hts _ tb_n4), List.forall_mem_cons.mpr ⟨va_Nw.of rfl (hts _ tb_n5), List.forall_mem_cons.mpr ⟨va_Nw.of rfl (hts _ tb_n6), List.forall_mem_cons.mpr ⟨va_Nw.of rfl (hts _ tb_n7), List.forall_mem_cons.mpr ⟨va_Nw.of rfl (hts _ tb_n8), List.forall_mem_cons.mpr ⟨va_Nw.of rfl (hts _ tb_n9), List.forall_mem_cons.mpr ⟨va_Nw.of rfl (hts _ tb_n10), (fun _ h => absurd h List.not_mem_nil)⟩⟩⟩⟩⟩⟩⟩⟩⟩⟩⟩
theorem ent_K (hts : ∀ w ∈ lw_g, w.before args s = true) : ∃ (D : va_G) (cA : Nat → ClassId), va_K D xcl (xty cA) s := by
  have h : ∀ k : Nat, ∃ cd : ClassId × (Nat → Nat), ∀ q : vw_C, xcl[k]? = some q → u_Kn s q.1 q.2.1 q.2.2 cd.1 cd.2 := by
    intro k
    by_cases hk : k < 13
    · revert k
      exact (xlts (xlts (xlts (xlts (xlts (xlts (xlts (xlts (xlts (xlts (xlts (xlts (xlts xlt0 (by obtain ⟨c, i, h⟩ := u_known (C := RX0) (T := TX0) hts igX0 (hts _ ki_X0); exact ⟨(c, i), fun q hq => by cases hq; exact h⟩)) (by obtain ⟨c, i, h⟩ := u_known (C := RX1) (T := TX1) hts igX1 (hts _ ki_X1); exact ⟨(c, i), fun q hq => by cases hq; exact h⟩)) (by obtain ⟨c, i, h⟩ := u_known (C := RX2) (T := TX2) hts igX2 (hts _ ki_X2); exact ⟨(c, i), fun q hq => by cases hq; exact h⟩)) (by obtain ⟨c, i, h⟩ := u_known (C := RX3) (T := TX3) hts igX3 (hts _ ki_X3); exact ⟨(c, i), fun q hq => by cases hq; exact h⟩)) (by obtain ⟨c, i, h⟩ := u_known (C := RX4) (T := TX4) hts igX4 (hts _ ki_X4); exact ⟨(c, i), fun q hq => by cases hq; exact h⟩)) (by obtain ⟨c, i, h⟩ := u_known (C := RX5) (T := TX5) hts igX5 (hts _ ki_X5); exact ⟨(c, i), fun q hq => by cases hq; exact h⟩)) (by obtain ⟨c, i, h⟩ := u_known (C := RX6) (T := TX6) hts igX6 (hts _ ki_X6); exact ⟨(c, i), fun q hq => by cases hq; exact h⟩)) (by obtain ⟨c, i, h⟩ := u_known (C := RX7) (T := TX7) hts igX7 (hts _ ki_X7); exact ⟨(c, i), fun q hq => by cases hq; exact h⟩)) (by obtain ⟨c, i, h⟩ := u_known (C := RX8) (T := TX8) hts igX8 (hts _ ki_X8); exact ⟨(c, i), fun q hq => by cases hq; exact h⟩)) (by obtain ⟨c, i, h⟩ := u_known (C := RX9) (T := TX9) hts igX9 (hts _ ki_X9); exact ⟨(c, i), fun q hq => by cases hq; exact h⟩)) (by obtain ⟨c, i, h⟩ := u_known (C := RX10) (T := TX10) hts igX10 (hts _ ki_X10); exact ⟨(c, i), fun q hq => by cases hq; exact h⟩)) (by obtain ⟨c, i, h⟩ := u_known (C := RX11) (T := TX11) hts igX11 (hts _ ki_X11); exact ⟨(c, i), fun q hq => by cases hq; exact h⟩)) (by obtain ⟨c, i, h⟩ := u_known (C := RX12) (T := TX12) hts igX12 (hts _ ki_X12); exact ⟨(c, i), fun q hq => by cases hq; exact h⟩))
    · exact ⟨(0, fun _ => 0), fun q hq => absurd (xlt hq) (by show ¬ k < 13; exact hk)⟩
  obtain ⟨dd, hd⟩ := Classical.axiomOfChoice h
  obtain ⟨c0, k0, p0, a0, b0, e0⟩ := Cond.arrayClass_spec (hts _ xac_int)
  obtain ⟨c1, k1, p1, a1, b1, e1⟩ := Cond.arrayClass_spec (hts _ xac_long)
  obtain ⟨c2, k2, p2, a2, b2, e2⟩ := Cond.arrayClass_spec (hts _ xac_byte)
  obtain ⟨c3, k3, p3, a3, b3, e3⟩ := Cond.arrayClass_spec (hts _ xac_boolean)
  refine ⟨(fun k => (dd k).1, fun k => (dd k).2), fun t => [c0, c1, c2, c3].getD t c0, fun k q hq => hd k q hq, ?_⟩
  have hz : ∀ k, k < 4 → ∀ q, (xty (fun t => [c0, c1, c2, c3].getD t c0))[k]? = some q → ArrOfT s q.1 q.2 ∧ va_RA s q.1 q.2 := (xlts (xlts (xlts (xlts xlt0 (fun q hq => by cases hq; exact ⟨fun n z => ⟨fun k h => (by cases h), k0, b0, p0, e0⟩, a0⟩)) (fun q hq => by cases hq; exact ⟨fun n z => ⟨fun k h => (by cases h), k1, b1, p1, e1⟩, a1⟩)) (fun q hq => by cases hq; exact ⟨fun n z => ⟨fun k h => (by cases h), k2, b2, p2, e2⟩, a2⟩)) (fun q hq => by cases hq; exact ⟨fun n z => ⟨fun k h => (by cases h), k3, b3, p3, e3⟩, a3⟩))
  exact fun k q hq => hz k (xlt hq) q hq
end ENT
