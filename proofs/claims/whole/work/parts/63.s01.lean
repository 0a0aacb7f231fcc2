theorem dX11_init_0 : decode cX11_init 0 = .ok (.aload_n 0, 1) := by decide +kernel
theorem dX11_init_1 : decode cX11_init 1 = .ok (.invokespecial 1, 3) := by decide +kernel
theorem dX11_init_4 : decode cX11_init 4 = .ok (.aload_n 0, 1) := by decide +kernel
theorem dX11_init_5 : decode cX11_init 5 = .ok (.new 7, 3) := by decide +kernel
theorem dX11_init_8 : decode cX11_init 8 = .ok (.dup, 1) := by decide +kernel
theorem dX11_init_9 : decode cX11_init 9 = .ok (.invokespecial 9, 3) := by decide +kernel
theorem dX11_init_12 : decode cX11_init 12 = .ok (.putfield 10, 3) := by decide +kernel
theorem dX11_init_15 : decode cX11_init 15 = .ok (.aload_n 0, 1) := by decide +kernel
theorem dX11_init_16 : decode cX11_init 16 = .ok (.new 16, 3) := by decide +kernel
theorem dX11_init_19 : decode cX11_init 19 = .ok (.dup, 1) := by decide +kernel
theorem dX11_init_20 : decode cX11_init 20 = .ok (.invokespecial 18, 3) := by decide +kernel
theorem dX11_init_23 : decode cX11_init 23 = .ok (.putfield 19, 3) := by decide +kernel
theorem dX11_init_26 : decode cX11_init 26 = .ok (.aload_n 0, 1) := by decide +kernel
theorem dX11_init_27 : decode cX11_init 27 = .ok (.new 16, 3) := by decide +kernel
theorem dX11_init_30 : decode cX11_init 30 = .ok (.dup, 1) := by decide +kernel
theorem dX11_init_31 : decode cX11_init 31 = .ok (.invokespecial 18, 3) := by decide +kernel
theorem dX11_init_34 : decode cX11_init 34 = .ok (.putfield 23, 3) := by decide +kernel
theorem dX11_init_37 : decode cX11_init 37 = .ok (.aload_n 0, 1) := by decide +kernel
theorem dX11_init_38 : decode cX11_init 38 = .ok (.new 26, 3) := by decide +kernel
theorem dX11_init_41 : decode cX11_init 41 = .ok (.dup, 1) := by decide +kernel
theorem dX11_init_42 : decode cX11_init 42 = .ok (.aload_n 0, 1) := by decide +kernel
theorem dX11_init_43 : decode cX11_init 43 = .ok (.getfield 19, 3) := by decide +kernel
theorem dX11_init_46 : decode cX11_init 46 = .ok (.invokespecial 28, 3) := by decide +kernel
theorem dX11_init_49 : decode cX11_init 49 = .ok (.putfield 31, 3) := by decide +kernel
theorem dX11_init_52 : decode cX11_init 52 = .ok (.aload_n 0, 1) := by decide +kernel
theorem dX11_init_53 : decode cX11_init 53 = .ok (.new 35, 3) := by decide +kernel
theorem dX11_init_56 : decode cX11_init 56 = .ok (.dup, 1) := by decide +kernel
theorem dX11_init_57 : decode cX11_init 57 = .ok (.aload_n 0, 1) := by decide +kernel
theorem dX11_init_58 : decode cX11_init 58 = .ok (.getfield 19, 3) := by decide +kernel
theorem dX11_init_61 : decode cX11_init 61 = .ok (.aload_n 0, 1) := by decide +kernel
theorem dX11_init_62 : decode cX11_init 62 = .ok (.getfield 31, 3) := by decide +kernel
theorem dX11_init_65 : decode cX11_init 65 = .ok (.invokespecial 37, 3) := by decide +kernel
theorem dX11_init_68 : decode cX11_init 68 = .ok (.putfield 40, 3) := by decide +kernel
theorem dX11_init_71 : decode cX11_init 71 = .ok (.aload_n 0, 1) := by decide +kernel
theorem dX11_init_72 : decode cX11_init 72 = .ok (.new 44, 3) := by decide +kernel
theorem dX11_init_75 : decode cX11_init 75 = .ok (.dup, 1) := by decide +kernel
theorem dX11_init_76 : decode cX11_init 76 = .ok (.invokespecial 46, 3) := by decide +kernel
theorem dX11_init_79 : decode cX11_init 79 = .ok (.putfield 47, 3) := by decide +kernel
theorem dX11_init_82 : decode cX11_init 82 = .ok (.aload_n 0, 1) := by decide +kernel
theorem dX11_init_83 : decode cX11_init 83 = .ok (.new 51, 3) := by decide +kernel
theorem dX11_init_86 : decode cX11_init 86 = .ok (.dup, 1) := by decide +kernel
theorem dX11_init_87 : decode cX11_init 87 = .ok (.aload_n 0, 1) := by decide +kernel
theorem dX11_init_88 : decode cX11_init 88 = .ok (.getfield 47, 3) := by decide +kernel
theorem dX11_init_91 : decode cX11_init 91 = .ok (.aload_n 0, 1) := by decide +kernel
theorem dX11_init_92 : decode cX11_init 92 = .ok (.getfield 19, 3) := by decide +kernel
theorem dX11_init_95 : decode cX11_init 95 = .ok (.invokespecial 53, 3) := by decide +kernel
theorem dX11_init_98 : decode cX11_init 98 = .ok (.putfield 56, 3) := by decide +kernel
theorem dX11_init_101 : decode cX11_init 101 = .ok (.aload_n 0, 1) := by decide +kernel
theorem dX11_init_102 : decode cX11_init 102 = .ok (.new 60, 3) := by decide +kernel
theorem dX11_init_105 : decode cX11_init 105 = .ok (.dup, 1) := by decide +kernel
theorem dX11_init_106 : decode cX11_init 106 = .ok (.aload_n 0, 1) := by decide +kernel
theorem dX11_init_107 : decode cX11_init 107 = .ok (.getfield 19, 3) := by decide +kernel
theorem dX11_init_110 : decode cX11_init 110 = .ok (.invokespecial 62, 3) := by decide +kernel
theorem dX11_init_113 : decode cX11_init 113 = .ok (.putfield 63, 3) := by decide +kernel
theorem dX11_init_116 : decode cX11_init 116 = .ok (.aload_n 0, 1) := by decide +kernel
theorem dX11_init_117 : decode cX11_init 117 = .ok (.new 67, 3) := by decide +kernel
theorem dX11_init_120 : decode cX11_init 120 = .ok (.dup, 1) := by decide +kernel
theorem dX11_init_121 : decode cX11_init 121 = .ok (.aload_n 0, 1) := by decide +kernel
theorem dX11_init_122 : decode cX11_init 122 = .ok (.getfield 19, 3) := by decide +kernel
theorem dX11_init_125 : decode cX11_init 125 = .ok (.aload_n 0, 1) := by decide +kernel
theorem dX11_init_126 : decode cX11_init 126 = .ok (.getfield 56, 3) := by decide +kernel
theorem dX11_init_129 : decode cX11_init 129 = .ok (.aload_n 0, 1) := by decide +kernel
theorem dX11_init_130 : decode cX11_init 130 = .ok (.getfield 63, 3) := by decide +kernel
theorem dX11_init_133 : decode cX11_init 133 = .ok (.invokespecial 69, 3) := by decide +kernel
theorem dX11_init_136 : decode cX11_init 136 = .ok (.putfield 72, 3) := by decide +kernel
theorem dX11_init_139 : decode cX11_init 139 = .ok (.aload_n 0, 1) := by decide +kernel
theorem dX11_init_140 : decode cX11_init 140 = .ok (.new 76, 3) := by decide +kernel
theorem dX11_init_143 : decode cX11_init 143 = .ok (.dup, 1) := by decide +kernel
theorem dX11_init_144 : decode cX11_init 144 = .ok (.aload_n 0, 1) := by decide +kernel
theorem dX11_init_145 : decode cX11_init 145 = .ok (.getfield 19, 3) := by decide +kernel
theorem dX11_init_148 : decode cX11_init 148 = .ok (.aload_n 0, 1) := by decide +kernel
theorem dX11_init_149 : decode cX11_init 149 = .ok (.getfield 47, 3) := by decide +kernel
theorem dX11_init_152 : decode cX11_init 152 = .ok (.aload_n 0, 1) := by decide +kernel
theorem dX11_init_153 : decode cX11_init 153 = .ok (.getfield 56, 3) := by decide +kernel
theorem dX11_init_156 : decode cX11_init 156 = .ok (.invokespecial 78, 3) := by decide +kernel
theorem dX11_init_159 : decode cX11_init 159 = .ok (.putfield 81, 3) := by decide +kernel
theorem dX11_init_162 : decode cX11_init 162 = .ok (.aload_n 0, 1) := by decide +kernel
theorem dX11_init_163 : decode cX11_init 163 = .ok (.new 85, 3) := by decide +kernel
theorem dX11_init_166 : decode cX11_init 166 = .ok (.dup, 1) := by decide +kernel
theorem dX11_init_167 : decode cX11_init 167 = .ok (.aload_n 0, 1) := by decide +kernel
theorem dX11_init_168 : decode cX11_init 168 = .ok (.getfield 72, 3) := by decide +kernel
theorem dX11_init_171 : decode cX11_init 171 = .ok (.invokespecial 87, 3) := by decide +kernel
theorem dX11_init_174 : decode cX11_init 174 = .ok (.putfield 90, 3) := by decide +kernel
theorem dX11_init_177 : decode cX11_init 177 = .ok (.aload_n 0, 1) := by decide +kernel
theorem dX11_init_178 : decode cX11_init 178 = .ok (.new 94, 3) := by decide +kernel
theorem dX11_init_181 : decode cX11_init 181 = .ok (.dup, 1) := by decide +kernel
theorem dX11_init_182 : decode cX11_init 182 = .ok (.invokespecial 96, 3) := by decide +kernel
theorem dX11_init_185 : decode cX11_init 185 = .ok (.putfield 97, 3) := by decide +kernel
theorem dX11_init_188 : decode cX11_init 188 = .ok (.return_, 1) := by decide +kernel
theorem xdf_aux {ty : Nat → FieldType} {fs : List Value} {N : Nat} (h : (List.range N).all (fun j => decide (defaultValue (ty j) = vp_V fs j)) = true) : ∀ j, j < N → defaultValue (ty j) = vp_V fs j := fun j hj => of_decide_eq_true (List.all_eq_true.mp h j (List.mem_range.mpr hj))
def σX0 : St := si (si (sr (sr (fun _ _ => 0, fun _ _ => 0) 10 (va_cpy (fun j => st_0.getD j 0) (fun _ => 0) 0 0 4)) 18 (va_cpy (fun j => st_0.getD j 0) (fun _ => 0) 0 0 4)) 4812 0 (-1)) 8601 0 1
theorem σX0_z : ∀ k, k ≠ 10 → k ≠ 18 → k < 1000 → σX0.1 k = fun _ => 0 := fun k h1 h2 h3 => by
  show (si (si (sr (sr _ 10 _) 18 _) 4812 0 _) 8601 0 _).1 k = _
  rw [si_ne _ _ _ (by omega), si_ne _ _ _ (by omega), sr_ne _ _ (by omega), sr_ne _ _ (by omega)]
theorem xen_i {cA : Nat → ClassId} {q : Nat → Nat} {σ : St} {k t n : Nat} {z : Nat → Int32} (ht : t ≠ 1) (h : σ.1 k = z) : xen cA q σ k (.inr (t, n)) = .inl (cA t, n, .inl z) := by
  show (.inl (cA t, n, if t = 1 then .inr (.inl (σ.2 k)) else .inl (σ.1 k)) : va_E) = _
  rw [if_neg ht, h]
theorem xen_l {cA : Nat → ClassId} {q : Nat → Nat} {σ : St} {k n : Nat} {z : Nat → Int64} (h : σ.2 k = z) : xen cA q σ k (.inr (1, n)) = .inl (cA 1, n, .inr (.inl z)) := by
  show (.inl (cA 1, n, if 1 = 1 then .inr (.inl (σ.2 k)) else .inl (σ.1 k)) : va_E) = _
  rw [if_pos rfl, h]
theorem xen_pk {cA : Nat → ClassId} {q : Nat → Nat} {σ : St} {K : List Lk} {k a : Nat} {o : Option (Nat × va_E)} {e : Lk} {E : va_E} (h1 : o = some (q k, E)) (h2 : K[k]? = some e) (h3 : xen cA q σ k e = E) : o = K[k]?.map (fun e => (q k, xen cA q σ k e)) := by
  rw [h1, h2, Option.map_some, h3]
theorem cx_0 {cA : Nat → ClassId} {q : Nat → Nat} {σ : St} (e12 : σ.1 (xv 0 12) 0 = 0) : xen cA q σ 0 (.inl (11, KX_f0)) = .inr (11, [.ref (q 19), .ref (q 1), .ref (q 2), .ref (q 21), .ref (q 23), .ref (q 33), .ref (q 38), .ref (q 40), .ref (q 46), .ref (q 57), .ref (q 67), .ref (q 73), .int 0]) := by
  show (.inr (11, [.ref (q 19), .ref (q 1), .ref (q 2), .ref (q 21), .ref (q 23), .ref (q 33), .ref (q 38), .ref (q 40), .ref (q 46), .ref (q 57), .ref (q 67), .ref (q 73), .int (σ.1 (xv 0 12) 0)]) : va_E) = _
  rw [e12]
theorem cx_1 {cA : Nat → ClassId} {q : Nat → Nat} {σ : St} (e0 : σ.1 (xv 1 0) 0 = 0) (e9 : σ.1 (xv 1 9) 0 = 0) : xen cA q σ 1 (.inl (6, slf 1)) = .inr (6, [.int 0, .ref (q 3), .ref (q 4), .ref (q 5), .ref (q 6), .ref (q 7), .ref (q 8), .ref (q 9), .ref (q 10), .int 0]) := by
  show (.inr (6, [.int (σ.1 (xv 1 0) 0), .ref (q 3), .ref (q 4), .ref (q 5), .ref (q 6), .ref (q 7), .ref (q 8), .ref (q 9), .ref (q 10), .int (σ.1 (xv 1 9) 0)]) : va_E) = _
  rw [e0, e9]
theorem cx_2 {cA : Nat → ClassId} {q : Nat → Nat} {σ : St} (e0 : σ.1 (xv 2 0) 0 = 0) (e9 : σ.1 (xv 2 9) 0 = 0) : xen cA q σ 2 (.inl (6, slf 2)) = .inr (6, [.int 0, .ref (q 11), .ref (q 12), .ref (q 13), .ref (q 14), .ref (q 15), .ref (q 16), .ref (q 17), .ref (q 18), .int 0]) := by
  show (.inr (6, [.int (σ.1 (xv 2 0) 0), .ref (q 11), .ref (q 12), .ref (q 13), .ref (q 14), .ref (q 15), .ref (q 16), .ref (q 17), .ref (q 18), .int (σ.1 (xv 2 9) 0)]) : va_E) = _
  rw [e0, e9]
theorem cx_19 {cA : Nat → ClassId} {q : Nat → Nat} {σ : St} (e1 : σ.1 (xv 19 1) 0 = 0) (e2 : σ.1 (xv 19 2) 0 = 0) (e3 : σ.1 (xv 19 3) 0 = 0) (e4 : σ.1 (xv 19 4) 0 = 0) (e5 : σ.1 (xv 19 5) 0 = 0) (e6 : σ.2 (xv 19 6) 0 = 0) (e7 : σ.1 (xv 19 7) 0 = 0) (e8 : σ.1 (xv 19 8) 0 = 0) (e9 : σ.1 (xv 19 9) 0 = 0) (e10 : σ.1 (xv 19 10) 0 = 0) (e11 : σ.1 (xv 19 11) 0 = 0) (e12 : σ.1 (xv 19 12) 0 = (-1)) : xen cA q σ 19 (.inl (8, KX_f19)) = .inr (8, [.ref (q 20), .int 0, .int 0, .int 0, .int 0, .int 0, .long 0, .int 0, .int 0, .int 0, .int 0, .int 0, .int (-1)]) := by
  show (.inr (8, [.ref (q 20), .int (σ.1 (xv 19 1) 0), .int (σ.1 (xv 19 2) 0), .int (σ.1 (xv 19 3) 0), .int (σ.1 (xv 19 4) 0), .int (σ.1 (xv 19 5) 0), .long (σ.2 (xv 19 6) 0), .int (σ.1 (xv 19 7) 0), .int (σ.1 (xv 19 8) 0), .int (σ.1 (xv 19 9) 0), .int (σ.1 (xv 19 10) 0), .int (σ.1 (xv 19 11) 0), .int (σ.1 (xv 19 12) 0)]) : va_E) = _
  rw [e1, e2, e3, e4, e5, e6, e7, e8, e9, e10, e11, e12]
theorem cx_21 {cA : Nat → ClassId} {q : Nat → Nat} {σ : St} (e2 : σ.1 (xv 21 2) 0 = 0) (e3 : σ.1 (xv 21 3) 0 = 0) (e4 : σ.1 (xv 21 4) 0 = 0) (e5 : σ.1 (xv 21 5) 0 = 0) (e6 : σ.1 (xv 21 6) 0 = 0) : xen cA q σ 21 (.inl (0, KX_f21)) = .inr (0, [.ref (q 1), .ref (q 22), .int 0, .int 0, .int 0, .int 0, .int 0]) := by
  show (.inr (0, [.ref (q 1), .ref (q 22), .int (σ.1 (xv 21 2) 0), .int (σ.1 (xv 21 3) 0), .int (σ.1 (xv 21 4) 0), .int (σ.1 (xv 21 5) 0), .int (σ.1 (xv 21 6) 0)]) : va_E) = _
  rw [e2, e3, e4, e5, e6]
theorem cx_23 {cA : Nat → ClassId} {q : Nat → Nat} {σ : St} (e2 : σ.1 (xv 23 2) 0 = 0) (e5 : σ.1 (xv 23 5) 0 = 0) (e13 : σ.1 (xv 23 13) 0 = 0) (e14 : σ.1 (xv 23 14) 0 = 0) : xen cA q σ 23 (.inl (1, KX_f23)) = .inr (1, [.ref (q 1), .ref (q 21), .int 0, .ref (q 24), .ref (q 25), .int 0, .ref (q 26), .ref (q 27), .ref (q 28), .ref (q 29), .ref (q 30), .ref (q 31), .ref (q 32), .int 0, .int 0]) := by
  show (.inr (1, [.ref (q 1), .ref (q 21), .int (σ.1 (xv 23 2) 0), .ref (q 24), .ref (q 25), .int (σ.1 (xv 23 5) 0), .ref (q 26), .ref (q 27), .ref (q 28), .ref (q 29), .ref (q 30), .ref (q 31), .ref (q 32), .int (σ.1 (xv 23 13) 0), .int (σ.1 (xv 23 14) 0)]) : va_E) = _
  rw [e2, e5, e13, e14]
theorem cx_33 {cA : Nat → ClassId} {q : Nat → Nat} {σ : St} (e0 : σ.1 (xv 33 0) 0 = 0) : xen cA q σ 33 (.inl (9, KX_f33)) = .inr (9, [.int 0, .ref (q 34), .ref (q 35), .ref (q 36), .ref (q 37)]) := by
  show (.inr (9, [.int (σ.1 (xv 33 0) 0), .ref (q 34), .ref (q 35), .ref (q 36), .ref (q 37)]) : va_E) = _
  rw [e0]
theorem cx_38 {cA : Nat → ClassId} {q : Nat → Nat} {σ : St} (e1 : σ.1 (xv 38 1) 0 = 1) (e2 : σ.1 (xv 38 2) 0 = 0) (e3 : σ.2 (xv 38 3) 0 = 0) (e4 : σ.2 (xv 38 4) 0 = 0) (e5 : σ.1 (xv 38 5) 0 = 0) (e6 : σ.1 (xv 38 6) 0 = 0) : xen cA q σ 38 (.inl (7, KX_f38)) = .inr (7, [.ref (q 33), .ref (q 1), .int 0, .long 0, .long 0, .int 0, .int 0, .ref (q 39)]) := by
  show (.inr (7, [.ref (q 33), .ref (q (σ.1 (xv 38 1) 0).toNatClampNeg), .int (σ.1 (xv 38 2) 0), .long (σ.2 (xv 38 3) 0), .long (σ.2 (xv 38 4) 0), .int (σ.1 (xv 38 5) 0), .int (σ.1 (xv 38 6) 0), .ref (q 39)]) : va_E) = _
  rw [e1, e2, e3, e4, e5, e6]; rfl
theorem cx_40 {cA : Nat → ClassId} {q : Nat → Nat} {σ : St} (e4 : σ.1 (xv 40 4) 0 = 0) : xen cA q σ 40 (.inl (3, KX_f40)) = .inr (3, [.ref (q 1), .ref (q 41), .ref (q 42), .ref (q 43), .int 0, .ref (q 44), .ref (q 45)]) := by
  show (.inr (3, [.ref (q 1), .ref (q 41), .ref (q 42), .ref (q 43), .int (σ.1 (xv 40 4) 0), .ref (q 44), .ref (q 45)]) : va_E) = _
  rw [e4]
theorem cx_46 {cA : Nat → ClassId} {q : Nat → Nat} {σ : St} (e13 : σ.1 (xv 46 13) 0 = 0) : xen cA q σ 46 (.inl (2, KX_f46)) = .inr (2, [.ref (q 1), .ref (q 38), .ref (q 40), .ref (q 47), .ref (q 48), .ref (q 49), .ref (q 50), .ref (q 51), .ref (q 52), .ref (q 53), .ref (q 54), .ref (q 55), .ref (q 56), .int 0]) := by
  show (.inr (2, [.ref (q 1), .ref (q 38), .ref (q 40), .ref (q 47), .ref (q 48), .ref (q 49), .ref (q 50), .ref (q 51), .ref (q 52), .ref (q 53), .ref (q 54), .ref (q 55), .ref (q 56), .int (σ.1 (xv 46 13) 0)]) : va_E) = _
  rw [e13]
theorem cx_57 {cA : Nat → ClassId} {q : Nat → Nat} {σ : St} (e4 : σ.1 (xv 57 4) 0 = 0) (e11 : σ.1 (xv 57 11) 0 = 0) : xen cA q σ 57 (.inl (5, KX_f57)) = .inr (5, [.ref (q 1), .ref (q 33), .ref (q 38), .ref (q 58), .int 0, .ref (q 59), .ref (q 60), .ref (q 61), .ref (q 62), .ref (q 63), .ref (q 64), .int 0, .ref (q 65), .ref (q 66)]) := by
  show (.inr (5, [.ref (q 1), .ref (q 33), .ref (q 38), .ref (q 58), .int (σ.1 (xv 57 4) 0), .ref (q 59), .ref (q 60), .ref (q 61), .ref (q 62), .ref (q 63), .ref (q 64), .int (σ.1 (xv 57 11) 0), .ref (q 65), .ref (q 66)]) : va_E) = _
  rw [e4, e11]
theorem cx_67 {cA : Nat → ClassId} {q : Nat → Nat} {σ : St} (e2 : σ.1 (xv 67 2) 0 = 0) (e4 : σ.1 (xv 67 4) 0 = 0) (e5 : σ.1 (xv 67 5) 0 = 0) : xen cA q σ 67 (.inl (4, KX_f67)) = .inr (4, [.ref (q 46), .ref (q 68), .int 0, .ref (q 69), .int 0, .int 0, .ref (q 70), .ref (q 71), .ref (q 72)]) := by
  show (.inr (4, [.ref (q 46), .ref (q 68), .int (σ.1 (xv 67 2) 0), .ref (q 69), .int (σ.1 (xv 67 4) 0), .int (σ.1 (xv 67 5) 0), .ref (q 70), .ref (q 71), .ref (q 72)]) : va_E) = _
  rw [e2, e4, e5]
theorem cx_73 {cA : Nat → ClassId} {q : Nat → Nat} {σ : St} (e0 : σ.1 (xv 73 0) 0 = 0) (e1 : σ.1 (xv 73 1) 0 = 0) : xen cA q σ 73 (.inl (10, KX_f73)) = .inr (10, [.int 0, .int 0, .ref (q 74), .ref (q 75), .ref (q 76), .ref (q 77), .ref (q 78)]) := by
  show (.inr (10, [.int (σ.1 (xv 73 0) 0), .int (σ.1 (xv 73 1) 0), .ref (q 74), .ref (q 75), .ref (q 76), .ref (q 77), .ref (q 78)]) : va_E) = _
  rw [e0, e1]
set_option maxHeartbeats 8000000 in
set_option maxRecDepth 100000 in
theorem ctorx_perm (cA : Nat → ClassId) (q : Nat → Nat) : ∀ k, k < KX.length → ([((q 0), .inr (11, [.ref (q 19), .ref (q 1), .ref (q 2), .ref (q 21), .ref (q 23), .ref (q 33), .ref (q 38), .ref (q 40), .ref (q 46), .ref (q 57), .ref (q 67), .ref (q 73), .int 0])), ((q 19), .inr (8, [.ref (q 20), .int 0, .int 0, .int 0, .int 0, .int 0, .long 0, .int 0, .int 0, .int 0, .int 0, .int 0, .int (-1)])), ((q 20), .inl (cA 2, 800, .inl (fun _ => 0))), ((q 1), .inr (6, [.int 0, .ref (q 3), .ref (q 4), .ref (q 5), .ref (q 6), .ref (q 7), .ref (q 8), .ref (q 9), .ref (q 10), .int 0])), ((q 3), .inl (cA 1, 40, .inr (.inl (fun _ => 0)))), ((q 4), .inl (cA 0, 40, .inl (fun _ => 0))), ((q 5), .inl (cA 0, 40, .inl (fun _ => 0))), ((q 6), .inl (cA 0, 40, .inl (fun _ => 0))), ((q 7), .inl (cA 0, 40, .inl (fun _ => 0))), ((q 8), .inl (cA 0, 40, .inl (fun _ => 0))), ((q 9), .inl (cA 1, 40, .inr (.inl (fun _ => 0)))), ((q 10), .inl (cA 0, 4, .inl (va_cpy (fun j => st_0.getD j 0) (fun _ => 0) 0 0 4))), ((q 2), .inr (6, [.int 0, .ref (q 11), .ref (q 12), .ref (q 13), .ref (q 14), .ref (q 15), .ref (q 16), .ref (q 17), .ref (q 18), .int 0])), ((q 11), .inl (cA 1, 40, .inr (.inl (fun _ => 0)))), ((q 12), .inl (cA 0, 40, .inl (fun _ => 0))), ((q 13), .inl (cA 0, 40, .inl (fun _ => 0))), ((q 14), .inl (cA 0, 40, .inl (fun _ => 0))), ((q 15), .inl (cA 0, 40, .inl (fun _ => 0))), ((q 16), .inl (cA 0, 40, .inl (fun _ => 0))), ((q 17), .inl (cA 1, 40, .inr (.inl (fun _ => 0)))), ((q 18), .inl (cA 0, 4, .inl (va_cpy (fun j => st_0.getD j 0) (fun _ => 0) 0 0 4))), ((q 21), .inr (0, [.ref (q 1), .ref (q 22), .int 0, .int 0, .int 0, .int 0, .int 0])), ((q 22), .inl (cA 0, 240, .inl (fun _ => 0))), ((q 23), .inr (1, [.ref (q 1), .ref (q 21), .int 0, .ref (q 24), .ref (q 25), .int 0, .ref (q 26), .ref (q 27), .ref (q 28), .ref (q 29), .ref (q 30), .ref (q 31), .ref (q 32), .int 0, .int 0])), ((q 24), .inl (cA 0, 12, .inl (fun _ => 0))), ((q 25), .inl (cA 0, 12, .inl (fun _ => 0))), ((q 26), .inl (cA 0, 24, .inl (fun _ => 0))), ((q 27), .inl (cA 0, 24, .inl (fun _ => 0))), ((q 28), .inl (cA 0, 24, .inl (fun _ => 0))), ((q 29), .inl (cA 0, 24, .inl (fun _ => 0))), ((q 30), .inl (cA 0, 24, .inl (fun _ => 0))), ((q 31), .inl (cA 0, 24, .inl (fun _ => 0))), ((q 32), .inl (cA 0, 24, .inl (fun _ => 0))), ((q 33), .inr (9, [.int 0, .ref (q 34), .ref (q 35), .ref (q 36), .ref (q 37)])), ((q 34), .inl (cA 1, 40, .inr (.inl (fun _ => 0)))), ((q 35), .inl (cA 0, 40, .inl (fun _ => 0))), ((q 36), .inl (cA 0, 40, .inl (fun _ => 0))), ((q 37), .inl (cA 1, 40, .inr (.inl (fun _ => 0)))), ((q 38), .inr (7, [.ref (q 33), .ref (q 1), .int 0, .long 0, .long 0, .int 0, .int 0, .ref (q 39)])), ((q 39), .inl (cA 0, 384, .inl (fun _ => 0))), ((q 40), .inr (3, [.ref (q 1), .ref (q 41), .ref (q 42), .ref (q 43), .int 0, .ref (q 44), .ref (q 45)])), ((q 41), .inl (cA 0, 25, .inl (fun _ => 0))), ((q 42), .inl (cA 0, 25, .inl (fun _ => 0))), ((q 43), .inl (cA 0, 25, .inl (fun _ => 0))), ((q 44), .inl (cA 0, 24, .inl (fun _ => 0))), ((q 45), .inl (cA 0, 24, .inl (fun _ => 0))), ((q 46), .inr (2, [.ref (q 1), .ref (q 38), .ref (q 40), .ref (q 47), .ref (q 48), .ref (q 49), .ref (q 50), .ref (q 51), .ref (q 52), .ref (q 53), .ref (q 54), .ref (q 55), .ref (q 56), .int 0])), ((q 47), .inl (cA 0, 40, .inl (fun _ => 0))), ((q 48), .inl (cA 0, 40, .inl (fun _ => 0))), ((q 49), .inl (cA 0, 40, .inl (fun _ => 0))), ((q 50), .inl (cA 1, 40, .inr (.inl (fun _ => 0)))), ((q 51), .inl (cA 0, 520, .inl (fun _ => 0))), ((q 52), .inl (cA 1, 520, .inr (.inl (fun _ => 0)))), ((q 53), .inl (cA 0, 13, .inl (fun _ => 0))), ((q 54), .inl (cA 1, 13, .inr (.inl (fun _ => 0)))), ((q 55), .inl (cA 0, 12, .inl (fun _ => 0))), ((q 56), .inl (cA 0, 13, .inl (fun _ => 0))), ((q 57), .inr (5, [.ref (q 1), .ref (q 33), .ref (q 38), .ref (q 58), .int 0, .ref (q 59), .ref (q 60), .ref (q 61), .ref (q 62), .ref (q 63), .ref (q 64), .int 0, .ref (q 65), .ref (q 66)])), ((q 58), .inl (cA 0, 24, .inl (fun _ => 0))), ((q 59), .inl (cA 0, 24, .inl (fun _ => 0))), ((q 60), .inl (cA 1, 25, .inr (.inl (fun _ => 0)))), ((q 61), .inl (cA 0, 960, .inl (fun _ => 0))), ((q 62), .inl (cA 0, 25, .inl (fun _ => 0))), ((q 63), .inl (cA 0, 25, .inl (fun _ => 0))), ((q 64), .inl (cA 0, 25, .inl (fun _ => 0))), ((q 65), .inl (cA 0, 24, .inl (fun _ => 0))), ((q 66), .inl (cA 0, 24, .inl (fun _ => 0))), ((q 67), .inr (4, [.ref (q 46), .ref (q 68), .int 0, .ref (q 69), .int 0, .int 0, .ref (q 70), .ref (q 71), .ref (q 72)])), ((q 68), .inl (cA 0, 12, .inl (fun _ => 0))), ((q 69), .inl (cA 0, 1885, .inl (fun _ => 0))), ((q 70), .inl (cA 0, 12, .inl (fun _ => 0))), ((q 71), .inl (cA 0, 12, .inl (fun _ => 0))), ((q 72), .inl (cA 1, 12, .inr (.inl (fun _ => 0)))), ((q 73), .inr (10, [.int 0, .int 0, .ref (q 74), .ref (q 75), .ref (q 76), .ref (q 77), .ref (q 78)])), ((q 74), .inl (cA 0, 60, .inl (fun _ => 0))), ((q 75), .inl (cA 0, 60, .inl (fun _ => 0))), ((q 76), .inl (cA 0, 60, .inl (fun _ => 0))), ((q 77), .inl (cA 0, 60, .inl (fun _ => 0))), ((q 78), .inl (cA 0, 60, .inl (fun _ => 0)))] : va_W)[(fun k => [0, 3, 12, 4, 5, 6, 7, 8, 9, 10, 11, 13, 14, 15, 16, 17, 18, 19, 20, 1, 2, 21, 22, 23, 24, 25, 26, 27, 28, 29, 30, 31, 32, 33, 34, 35, 36, 37, 38, 39, 40, 41, 42, 43, 44, 45, 46, 47, 48, 49, 50, 51, 52, 53, 54, 55, 56, 57, 58, 59, 60, 61, 62, 63, 64, 65, 66, 67, 68, 69, 70, 71, 72, 73, 74, 75, 76, 77, 78].getD k 0) k]? = KX[k]?.map (fun e => (q k, xen cA q σX0 k e)) := by
  show ∀ k, k < 79 → _
  exact (xlts (xlts (xlts (xlts (xlts (xlts (xlts (xlts (xlts (xlts (xlts (xlts (xlts (xlts (xlts (xlts (xlts (xlts (xlts (xlts (xlts (xlts (xlts (xlts (xlts (xlts (xlts (xlts (xlts (xlts (xlts (xlts (xlts (xlts (xlts (xlts (xlts (xlts (xlts (xlts (xlts (xlts (xlts (xlts (xlts (xlts (xlts (xlts (xlts (xlts (xlts (xlts (xlts (xlts (xlts (xlts (xlts (xlts (xlts (xlts (xlts (xlts (xlts (xlts (xlts (xlts (xlts (xlts (xlts (xlts (xlts (xlts (xlts (xlts (xlts (xlts (xlts (xlts (xlts xlt0 (xen_pk (a := 0) (k := 0) rfl rfl (cx_0 (by decide +kernel)))) (xen_pk (a := 0) (k := 1) rfl rfl (cx_1 (by decide +kernel) (by decide +kernel)))) (xen_pk (a := 0) (k := 2) rfl rfl (cx_2 (by decide +kernel) (by decide +kernel)))) (xen_pk (a := 0) (k := 3) rfl rfl (xen_l rfl))) (xen_pk (a := 0) (k := 4) rfl rfl (xen_i (by decide) (σX0_z 4 (by decide) (by decide) (by decide))))) (xen_pk (a := 0) (k := 5) rfl rfl (xen_i (by decide) (σX0_z 5 (by decide) (by decide) (by decide))))) (xen_pk (a := 0) (k := 6) rfl rfl (xen_i (by decide) (σX0_z 6 (by decide) (by decide) (by decide))))) (xen_pk (a := 0) (k := 7) rfl rfl (xen_i (by decide) (σX0_z 7 (by decide) (by decide) (by decide))))) (xen_pk (a := 0) (k := 8) rfl rfl (xen_i (by decide) (σX0_z 8 (by decide) (by decide) (by decide))))) (xen_pk (a := 0) (k := 9) rfl rfl (xen_l rfl))) (xen_pk (a := 0) (k := 10) rfl rfl (xen_i (by decide) rfl))) (xen_pk (a := 0) (k := 11) rfl rfl (xen_l rfl))) (xen_pk (a := 0) (k := 12) rfl rfl (xen_i (by decide) (σX0_z 12 (by decide) (by decide) (by decide))))) (xen_pk (a := 0) (k := 13) rfl rfl (xen_i (by decide) (σX0_z 13 (by decide) (by decide) (by decide))))) (xen_pk (a := 0) (k := 14) rfl rfl (xen_i (by decide) (σX0_z 14 (by decide) (by decide) (by decide))))) (xen_pk (a := 0) (k := 15) rfl rfl (xen_i (by decide) (σX0_z 15 (by decide) (by decide) (by decide))))) (xen_pk (a := 0) (k := 16) rfl rfl (xen_i (by decide) (σX0_z 16 (by decide) (by decide) (by decide))))) (xen_pk (a := 0) (k := 17) rfl rfl (xen_l rfl))) (xen_pk (a := 0) (k := 18) rfl rfl (xen_i (by decide) rfl))) (xen_pk (a := 0) (k := 19) rfl rfl (cx_19 (by decide +kernel) (by decide +kernel) (by decide +kernel) (by decide +kernel) (by decide +kernel) (by decide +kernel) (by decide +kernel) (by decide +kernel) (by decide +kernel) (by decide +kernel) (by decide +kernel) (by decide +kernel)))) (xen_pk (a := 0) (k := 20) rfl rfl (xen_i (by decide) (σX0_z 20 (by decide) (by decide) (by decide))))) (xen_pk (a := 0) (k := 21) rfl rfl (cx_21 (by decide +kernel) (by decide +kernel) (by decide +kernel) (by decide +kernel) (by decide +kernel)))) (xen_pk (a := 0) (k := 22) rfl rfl (xen_i (by decide) (σX0_z 22 (by decide) (by decide) (by decide))))) (xen_pk (a := 0) (k := 23) rfl rfl (cx_23 (by decide +kernel) (by decide +kernel) (by decide +kernel) (by decide +kernel)))) (xen_pk (a := 0) (k := 24) rfl rfl (xen_i (by decide) (σX0_z 24 (by decide) (by decide) (by decide))))) (xen_pk (a := 0) (k := 25) rfl rfl (xen_i (by decide) (σX0_z 25 (by decide) (by decide) (by decide))))) (xen_pk (a := 0) (k := 26) rfl rfl (xen_i (by decide) (σX0_z 26 (by decide) (by decide) (by decide))))) (xen_pk (a := 0) (k := 27) rfl rfl (xen_i (by decide) (σX0_z 27 (by decide) (by decide) (by decide))))) (xen_pk (a := 0) (k := 28) rfl rfl (xen_i (by decide) (σX0_z 28 (by decide) (by decide) (by decide))))) (xen_pk (a := 0) (k := 29) rfl rfl (xen_i (by decide) (σX0_z 29 (by decide) (by decide) (by decide))))) (xen_pk (a := 0) (k := 30) rfl rfl (xen_i (by decide) (σX0_z 30 (by decide) (by decide) (by decide))))) (xen_pk (a := 0) (k := 31) rfl rfl (xen_i (by decide) (σX0_z 31 (by decide) (by decide) (by decide))))) (xen_pk (a := 0) (k := 32) rfl rfl (xen_i (by decide) (σX0_z 32 (by decide) (by decide) (by decide))))) (xen_pk (a := 0) (k := 33) rfl rfl (cx_33 (by decide +kernel)))) (xen_pk (a := 0) (k := 34) rfl rfl (xen_l rfl))) (xen_pk (a := 0) (k := 35) rfl rfl (xen_i (by decide) (σX0_z 35 (by decide) (by decide) (by decide))))) (xen_pk (a := 0) (k := 36) rfl rfl (xen_i (by decide) (σX0_z 36 (by decide) (by decide) (by decide))))) (xen_pk (a := 0) (k := 37) rfl rfl (xen_l rfl))) (xen_pk (a := 0) (k := 38) rfl rfl (cx_38 (by decide +kernel) (by decide +kernel) (by decide +kernel) (by decide +kernel) (by decide +kernel) (by decide +kernel)))) (xen_pk (a := 0) (k := 39) rfl rfl (xen_i (by decide) (σX0_z 39 (by decide) (by decide) (by decide))))) (xen_pk (a := 0) (k := 40) rfl rfl (cx_40 (by decide +kernel)))) (xen_pk (a := 0) (k := 41) rfl rfl (xen_i (by decide) (σX0_z 41 (by decide) (by decide) (by decide))))) (xen_pk (a := 0) (k := 42) rfl rfl (xen_i (by decide) (σX0_z 42 (by decide) (by decide) (by decide))))) (xen_pk (a := 0) (k := 43) rfl rfl (xen_i (by decide) (σX0_z 43 (by decide) (by decide) (by decide))))) (xen_pk (a := 0) (k := 44) rfl rfl (xen_i (by decide) (σX0_z 44 (by decide) (by decide) (by decide))))) (xen_pk (a := 0) (k := 45) rfl rfl (xen_i (by decide) (σX0_z 45 (by decide) (by decide) (by decide))))) (xen_pk (a := 0) (k := 46) rfl rfl (cx_46 (by decide +kernel)))) (xen_pk (a := 0) (k := 47) rfl rfl (xen_i (by decide) (σX0_z 47 (by decide) (by decide) (by decide))))) (xen_pk (a := 0) (k := 48) rfl rfl (xen_i (by decide) (σX0_z 48 (by decide) (by decide) (by decide))))) (xen_pk (a := 0) (k := 49) rfl rfl (xen_i (by decide) (σX0_z 49 (by decide) (by decide) (by decide))))) (xen_pk (a := 0) (k := 50) rfl rfl (xen_l rfl))) (xen_pk (a := 0) (k := 51) rfl rfl (xen_i (by decide) (σX0_z 51 (by decide) (by decide) (by decide))))) (xen_pk (a := 0) (k := 52) rfl rfl (xen_l rfl))) (xen_pk (a := 0) (k := 53) rfl rfl (xen_i (by decide) (σX0_z 53 (by decide) (by decide) (by decide))))) (xen_pk (a := 0) (k := 54) rfl rfl (xen_l rfl))) (xen_pk (a := 0) (k := 55) rfl rfl (xen_i (by decide) (σX0_z 55 (by decide) (by decide) (by decide))))) (xen_pk (a := 0) (k := 56) rfl rfl (xen_i (by decide) (σX0_z 56 (by decide) (by decide) (by decide))))) (xen_pk (a := 0) (k := 57) rfl rfl (cx_57 (by decide +kernel) (by decide +kernel)))) (xen_pk (a := 0) (k := 58) rfl rfl (xen_i (by decide) (σX0_z 58 (by decide) (by decide) (by decide))))) (xen_pk (a := 0) (k := 59) rfl rfl (xen_i (by decide) (σX0_z 59 (by decide) (by decide) (by decide))))) (xen_pk (a := 0) (k := 60) rfl rfl (xen_l rfl))) (xen_pk (a := 0) (k := 61) rfl rfl (xen_i (by decide) (σX0_z 61 (by decide) (by decide) (by decide))))) (xen_pk (a := 0) (k := 62) rfl rfl (xen_i (by decide) (σX0_z 62 (by decide) (by decide) (by decide))))) (xen_pk (a := 0) (k := 63) rfl rfl (xen_i (by decide) (σX0_z 63 (by decide) (by decide) (by decide))))) (xen_pk (a := 0) (k := 64) rfl rfl (xen_i (by decide) (σX0_z 64 (by decide) (by decide) (by decide))))) (xen_pk (a := 0) (k := 65) rfl rfl (xen_i (by decide) (σX0_z 65 (by decide) (by decide) (by decide))))) (xen_pk (a := 0) (k := 66) rfl rfl (xen_i (by decide) (σX0_z 66 (by decide) (by decide) (by decide))))) (xen_pk (a := 0) (k := 67) rfl rfl (cx_67 (by decide +kernel) (by decide +kernel) (by decide +kernel)))) (xen_pk (a := 0) (k := 68) rfl rfl (xen_i (by decide) (σX0_z 68 (by decide) (by decide) (by decide))))) (xen_pk (a := 0) (k := 69) rfl rfl (xen_i (by decide) (σX0_z 69 (by decide) (by decide) (by decide))))) (xen_pk (a := 0) (k := 70) rfl rfl (xen_i (by decide) (σX0_z 70 (by decide) (by decide) (by decide))))) (xen_pk (a := 0) (k := 71) rfl rfl (xen_i (by decide) (σX0_z 71 (by decide) (by decide) (by decide))))) (xen_pk (a := 0) (k := 72) rfl rfl (xen_l rfl))) (xen_pk (a := 0) (k := 73) rfl rfl (cx_73 (by decide +kernel) (by decide +kernel)))) (xen_pk (a := 0) (k := 74) rfl rfl (xen_i (by decide) (σX0_z 74 (by decide) (by decide) (by decide))))) (xen_pk (a := 0) (k := 75) rfl rfl (xen_i (by decide) (σX0_z 75 (by decide) (by decide) (by decide))))) (xen_pk (a := 0) (k := 76) rfl rfl (xen_i (by decide) (σX0_z 76 (by decide) (by decide) (by decide))))) (xen_pk (a := 0) (k := 77) rfl rfl (xen_i (by decide) (σX0_z 77 (by decide) (by decide) (by decide))))) (xen_pk (a := 0) (k := 78) rfl rfl (xen_i (by decide) (σX0_z 78 (by decide) (by decide) (by decide)))))
theorem ctorx_inj : ∀ k, k < KX.length → ∀ j, j < KX.length → (fun k => [0, 3, 12, 4, 5, 6, 7, 8, 9, 10, 11, 13, 14, 15, 16, 17, 18, 19, 20, 1, 2, 21, 22, 23, 24, 25, 26, 27, 28, 29, 30, 31, 32, 33, 34, 35, 36, 37, 38, 39, 40, 41, 42, 43, 44, 45, 46, 47, 48, 49, 50, 51, 52, 53, 54, 55, 56, 57, 58, 59, 60, 61, 62, 63, 64, 65, 66, 67, 68, 69, 70, 71, 72, 73, 74, 75, 76, 77, 78].getD k 0) k = (fun k => [0, 3, 12, 4, 5, 6, 7, 8, 9, 10, 11, 13, 14, 15, 16, 17, 18, 19, 20, 1, 2, 21, 22, 23, 24, 25, 26, 27, 28, 29, 30, 31, 32, 33, 34, 35, 36, 37, 38, 39, 40, 41, 42, 43, 44, 45, 46, 47, 48, 49, 50, 51, 52, 53, 54, 55, 56, 57, 58, 59, 60, 61, 62, 63, 64, 65, 66, 67, 68, 69, 70, 71, 72, 73, 74, 75, 76, 77, 78].getD k 0) j → k = j := by
  show ∀ k, k < 79 → ∀ j, j < 79 → _
  decide +kernel
set_option maxHeartbeats 8000000 in
set_option maxRecDepth 100000 in
theorem ctorx_fin {g : XG} {A : Nat → Prop} {H : Heap} (h0 p1 q1 p2 q2 q3 q4 q5 q6 q7 q8 q9 p3 q10 q11 q12 q13 q14 q15 q16 q17 p4 q18 p5 q19 q20 q21 q22 q23 q24 q25 q26 q27 p6 q28 q29 q30 q31 p7 q32 p8 q33 q34 q35 q36 q37 p9 q38 q39 q40 q41 q42 q43 q44 q45 q46 q47 p10 q48 q49 q50 q51 q52 q53 q54 q55 q56 p11 q57 q58 q59 q60 q61 p12 q62 q63 q64 q65 q66 : Nat) (hP : va_P g.D xcl [(h0, .inr (11, [.ref p1, .ref p2, .ref p3, .ref p4, .ref p5, .ref p6, .ref p7, .ref p8, .ref p9, .ref p10, .ref p11, .ref p12, .int 0])), (p1, .inr (8, [.ref q1, .int 0, .int 0, .int 0, .int 0, .int 0, .long 0, .int 0, .int 0, .int 0, .int 0, .int 0, .int (-1)])), (q1, .inl (g.cA 2, 800, .inl (fun _ => 0))), (p2, .inr (6, [.int 0, .ref q2, .ref q3, .ref q4, .ref q5, .ref q6, .ref q7, .ref q8, .ref q9, .int 0])), (q2, .inl (g.cA 1, 40, .inr (.inl (fun _ => 0)))), (q3, .inl (g.cA 0, 40, .inl (fun _ => 0))), (q4, .inl (g.cA 0, 40, .inl (fun _ => 0))), (q5, .inl (g.cA 0, 40, .inl (fun _ => 0))), (q6, .inl (g.cA 0, 40, .inl (fun _ => 0))), (q7, .inl (g.cA 0, 40, .inl (fun _ => 0))), (q8, .inl (g.cA 1, 40, .inr (.inl (fun _ => 0)))), (q9, .inl (g.cA 0, 4, .inl (va_cpy (fun j => st_0.getD j 0) (fun _ => 0) 0 0 4))), (p3, .inr (6, [.int 0, .ref q10, .ref q11, .ref q12, .ref q13, .ref q14, .ref q15, .ref q16, .ref q17, .int 0])), (q10, .inl (g.cA 1, 40, .inr (.inl (fun _ => 0)))), (q11, .inl (g.cA 0, 40, .inl (fun _ => 0))), (q12, .inl (g.cA 0, 40, .inl (fun _ => 0))), (q13, .inl (g.cA 0, 40, .inl (fun _ => 0))), (q14, .inl (g.cA 0, 40, .inl (fun _ => 0))), (q15, .inl (g.cA 0, 40, .inl (fun _ => 0))), (q16, .inl (g.cA 1, 40, .inr (.inl (fun _ => 0)))), (q17, .inl (g.cA 0, 4, .inl (va_cpy (fun j => st_0.getD j 0) (fun _ => 0) 0 0 4))), (p4, .inr (0, [.ref p2, .ref q18, .int 0, .int 0, .int 0, .int 0, .int 0])), (q18, .inl (g.cA 0, 240, .inl (fun _ => 0))), (p5, .inr (1, [.ref p2, .ref p4, .int 0, .ref q19, .ref q20, .int 0, .ref q21, .ref q22, .ref q23, .ref q24, .ref q25, .ref q26, .ref q27, .int 0, .int 0])), (q19, .inl (g.cA 0, 12, .inl (fun _ => 0))), (q20, .inl (g.cA 0, 12, .inl (fun _ => 0))), (q21, .inl (g.cA 0, 24, .inl (fun _ => 0))), (q22, .inl (g.cA 0, 24, .inl (fun _ => 0))), (q23, .inl (g.cA 0, 24, .inl (fun _ => 0))), (q24, .inl (g.cA 0, 24, .inl (fun _ => 0))), (q25, .inl (g.cA 0, 24, .inl (fun _ => 0))), (q26, .inl (g.cA 0, 24, .inl (fun _ => 0))), (q27, .inl (g.cA 0, 24, .inl (fun _ => 0))), (p6, .inr (9, [.int 0, .ref q28, .ref q29, .ref q30, .ref q31])), (q28, .inl (g.cA 1, 40, .inr (.inl (fun _ => 0)))), (q29, .inl (g.cA 0, 40, .inl (fun _ => 0))), (q30, .inl (g.cA 0, 40, .inl (fun _ => 0))), (q31, .inl (g.cA 1, 40, .inr (.inl (fun _ => 0)))), (p7, .inr (7, [.ref p6, .ref p2, .int 0, .long 0, .long 0, .int 0, .int 0, .ref q32])), (q32, .inl (g.cA 0, 384, .inl (fun _ => 0))), (p8, .inr (3, [.ref p2, .ref q33, .ref q34, .ref q35, .int 0, .ref q36, .ref q37])), (q33, .inl (g.cA 0, 25, .inl (fun _ => 0))), (q34, .inl (g.cA 0, 25, .inl (fun _ => 0))), (q35, .inl (g.cA 0, 25, .inl (fun _ => 0))), (q36, .inl (g.cA 0, 24, .inl (fun _ => 0))), (q37, .inl (g.cA 0, 24, .inl (fun _ => 0))), (p9, .inr (2, [.ref p2, .ref p7, .ref p8, .ref q38, .ref q39, .ref q40, .ref q41, .ref q42, .ref q43, .ref q44, .ref q45, .ref q46, .ref q47, .int 0])), (q38, .inl (g.cA 0, 40, .inl (fun _ => 0))), (q39, .inl (g.cA 0, 40, .inl (fun _ => 0))), (q40, .inl (g.cA 0, 40, .inl (fun _ => 0))), (q41, .inl (g.cA 1, 40, .inr (.inl (fun _ => 0)))), (q42, .inl (g.cA 0, 520, .inl (fun _ => 0))), (q43, .inl (g.cA 1, 520, .inr (.inl (fun _ => 0)))), (q44, .inl (g.cA 0, 13, .inl (fun _ => 0))), (q45, .inl (g.cA 1, 13, .inr (.inl (fun _ => 0)))), (q46, .inl (g.cA 0, 12, .inl (fun _ => 0))), (q47, .inl (g.cA 0, 13, .inl (fun _ => 0))), (p10, .inr (5, [.ref p2, .ref p6, .ref p7, .ref q48, .int 0, .ref q49, .ref q50, .ref q51, .ref q52, .ref q53, .ref q54, .int 0, .ref q55, .ref q56])), (q48, .inl (g.cA 0, 24, .inl (fun _ => 0))), (q49, .inl (g.cA 0, 24, .inl (fun _ => 0))), (q50, .inl (g.cA 1, 25, .inr (.inl (fun _ => 0)))), (q51, .inl (g.cA 0, 960, .inl (fun _ => 0))), (q52, .inl (g.cA 0, 25, .inl (fun _ => 0))), (q53, .inl (g.cA 0, 25, .inl (fun _ => 0))), (q54, .inl (g.cA 0, 25, .inl (fun _ => 0))), (q55, .inl (g.cA 0, 24, .inl (fun _ => 0))), (q56, .inl (g.cA 0, 24, .inl (fun _ => 0))), (p11, .inr (4, [.ref p9, .ref q57, .int 0, .ref q58, .int 0, .int 0, .ref q59, .ref q60, .ref q61])), (q57, .inl (g.cA 0, 12, .inl (fun _ => 0))), (q58, .inl (g.cA 0, 1885, .inl (fun _ => 0))), (q59, .inl (g.cA 0, 12, .inl (fun _ => 0))), (q60, .inl (g.cA 0, 12, .inl (fun _ => 0))), (q61, .inl (g.cA 1, 12, .inr (.inl (fun _ => 0)))), (p12, .inr (10, [.int 0, .int 0, .ref q62, .ref q63, .ref q64, .ref q65, .ref q66])), (q62, .inl (g.cA 0, 60, .inl (fun _ => 0))), (q63, .inl (g.cA 0, 60, .inl (fun _ => 0))), (q64, .inl (g.cA 0, 60, .inl (fun _ => 0))), (q65, .inl (g.cA 0, 60, .inl (fun _ => 0))), (q66, .inl (g.cA 0, 60, .inl (fun _ => 0)))] H) (hD : va_D A [(h0, .inr (11, [.ref p1, .ref p2, .ref p3, .ref p4, .ref p5, .ref p6, .ref p7, .ref p8, .ref p9, .ref p10, .ref p11, .ref p12, .int 0])), (p1, .inr (8, [.ref q1, .int 0, .int 0, .int 0, .int 0, .int 0, .long 0, .int 0, .int 0, .int 0, .int 0, .int 0, .int (-1)])), (q1, .inl (g.cA 2, 800, .inl (fun _ => 0))), (p2, .inr (6, [.int 0, .ref q2, .ref q3, .ref q4, .ref q5, .ref q6, .ref q7, .ref q8, .ref q9, .int 0])), (q2, .inl (g.cA 1, 40, .inr (.inl (fun _ => 0)))), (q3, .inl (g.cA 0, 40, .inl (fun _ => 0))), (q4, .inl (g.cA 0, 40, .inl (fun _ => 0))), (q5, .inl (g.cA 0, 40, .inl (fun _ => 0))), (q6, .inl (g.cA 0, 40, .inl (fun _ => 0))), (q7, .inl (g.cA 0, 40, .inl (fun _ => 0))), (q8, .inl (g.cA 1, 40, .inr (.inl (fun _ => 0)))), (q9, .inl (g.cA 0, 4, .inl (va_cpy (fun j => st_0.getD j 0) (fun _ => 0) 0 0 4))), (p3, .inr (6, [.int 0, .ref q10, .ref q11, .ref q12, .ref q13, .ref q14, .ref q15, .ref q16, .ref q17, .int 0])), (q10, .inl (g.cA 1, 40, .inr (.inl (fun _ => 0)))), (q11, .inl (g.cA 0, 40, .inl (fun _ => 0))), (q12, .inl (g.cA 0, 40, .inl (fun _ => 0))), (q13, .inl (g.cA 0, 40, .inl (fun _ => 0))), (q14, .inl (g.cA 0, 40, .inl (fun _ => 0))), (q15, .inl (g.cA 0, 40, .inl (fun _ => 0))), (q16, .inl (g.cA 1, 40, .inr (.inl (fun _ => 0)))), (q17, .inl (g.cA 0, 4, .inl (va_cpy (fun j => st_0.getD j 0) (fun _ => 0) 0 0 4))), (p4, .inr (0, [.ref p2, .ref q18, .int 0, .int 0, .int 0, .int 0, .int 0])), (q18, .inl (g.cA 0, 240, .inl (fun _ => 0))), (p5, .inr (1, [.ref p2, .ref p4, .int 0, .ref q19, .ref q20, .int 0, .ref q21, .ref q22, .ref q23, .ref q24, .ref q25, .ref q26, .ref q27, .int 0, .int 0])), (q19, .inl (g.cA 0, 12, .inl (fun _ => 0))), (q20, .inl (g.cA 0, 12, .inl (fun _ => 0))), (q21, .inl (g.cA 0, 24, .inl (fun _ => 0))), (q22, .inl (g.cA 0, 24, .inl (fun _ => 0))), (q23, .inl (g.cA 0, 24, .inl (fun _ => 0))), (q24, .inl (g.cA 0, 24, .inl (fun _ => 0))), (q25, .inl (g.cA 0, 24, .inl (fun _ => 0))), (q26, .inl (g.cA 0, 24, .inl (fun _ => 0))), (q27, .inl (g.cA 0, 24, .inl (fun _ => 0))), (p6, .inr (9, [.int 0, .ref q28, .ref q29, .ref q30, .ref q31])), (q28, .inl (g.cA 1, 40, .inr (.inl (fun _ => 0)))), (q29, .inl (g.cA 0, 40, .inl (fun _ => 0))), (q30, .inl (g.cA 0, 40, .inl (fun _ => 0))), (q31, .inl (g.cA 1, 40, .inr (.inl (fun _ => 0)))), (p7, .inr (7, [.ref p6, .ref p2, .int 0, .long 0, .long 0, .int 0, .int 0, .ref q32])), (q32, .inl (g.cA 0, 384, .inl (fun _ => 0))), (p8, .inr (3, [.ref p2, .ref q33, .ref q34, .ref q35, .int 0, .ref q36, .ref q37])), (q33, .inl (g.cA 0, 25, .inl (fun _ => 0))), (q34, .inl (g.cA 0, 25, .inl (fun _ => 0))), (q35, .inl (g.cA 0, 25, .inl (fun _ => 0))), (q36, .inl (g.cA 0, 24, .inl (fun _ => 0))), (q37, .inl (g.cA 0, 24, .inl (fun _ => 0))), (p9, .inr (2, [.ref p2, .ref p7, .ref p8, .ref q38, .ref q39, .ref q40, .ref q41, .ref q42, .ref q43, .ref q44, .ref q45, .ref q46, .ref q47, .int 0])), (q38, .inl (g.cA 0, 40, .inl (fun _ => 0))), (q39, .inl (g.cA 0, 40, .inl (fun _ => 0))), (q40, .inl (g.cA 0, 40, .inl (fun _ => 0))), (q41, .inl (g.cA 1, 40, .inr (.inl (fun _ => 0)))), (q42, .inl (g.cA 0, 520, .inl (fun _ => 0))), (q43, .inl (g.cA 1, 520, .inr (.inl (fun _ => 0)))), (q44, .inl (g.cA 0, 13, .inl (fun _ => 0))), (q45, .inl (g.cA 1, 13, .inr (.inl (fun _ => 0)))), (q46, .inl (g.cA 0, 12, .inl (fun _ => 0))), (q47, .inl (g.cA 0, 13, .inl (fun _ => 0))), (p10, .inr (5, [.ref p2, .ref p6, .ref p7, .ref q48, .int 0, .ref q49, .ref q50, .ref q51, .ref q52, .ref q53, .ref q54, .int 0, .ref q55, .ref q56])), (q48, .inl (g.cA 0, 24, .inl (fun _ => 0))), (q49, .inl (g.cA 0, 24, .inl (fun _ => 0))), (q50, .inl (g.cA 1, 25, .inr (.inl (fun _ => 0)))), (q51, .inl (g.cA 0, 960, .inl (fun _ => 0))), (q52, .inl (g.cA 0, 25, .inl (fun _ => 0))), (q53, .inl (g.cA 0, 25, .inl (fun _ => 0))), (q54, .inl (g.cA 0, 25, .inl (fun _ => 0))), (q55, .inl (g.cA 0, 24, .inl (fun _ => 0))), (q56, .inl (g.cA 0, 24, .inl (fun _ => 0))), (p11, .inr (4, [.ref p9, .ref q57, .int 0, .ref q58, .int 0, .int 0, .ref q59, .ref q60, .ref q61])), (q57, .inl (g.cA 0, 12, .inl (fun _ => 0))), (q58, .inl (g.cA 0, 1885, .inl (fun _ => 0))), (q59, .inl (g.cA 0, 12, .inl (fun _ => 0))), (q60, .inl (g.cA 0, 12, .inl (fun _ => 0))), (q61, .inl (g.cA 1, 12, .inr (.inl (fun _ => 0)))), (p12, .inr (10, [.int 0, .int 0, .ref q62, .ref q63, .ref q64, .ref q65, .ref q66])), (q62, .inl (g.cA 0, 60, .inl (fun _ => 0))), (q63, .inl (g.cA 0, 60, .inl (fun _ => 0))), (q64, .inl (g.cA 0, 60, .inl (fun _ => 0))), (q65, .inl (g.cA 0, 60, .inl (fun _ => 0))), (q66, .inl (g.cA 0, 60, .inl (fun _ => 0)))]) : ∃ q : Nat → Nat, q 0 = h0 ∧ va_P g.D xcl (xws KX g.cA q σX0) H ∧ va_D A (xws KX g.cA q σX0) := by
  obtain ⟨q, hq⟩ : ∃ q : Nat → Nat, q = fun o => [h0, p2, p3, q2, q3, q4, q5, q6, q7, q8, q9, q10, q11, q12, q13, q14, q15, q16, q17, p1, q1, p4, q18, p5, q19, q20, q21, q22, q23, q24, q25, q26, q27, p6, q28, q29, q30, q31, p7, q32, p8, q33, q34, q35, q36, q37, p9, q38, q39, q40, q41, q42, q43, q44, q45, q46, q47, p10, q48, q49, q50, q51, q52, q53, q54, q55, q56, p11, q57, q58, q59, q60, q61, p12, q62, q63, q64, q65, q66].getD o 0 := ⟨_, rfl⟩
  have e0 : q 0 = h0 := by rw [hq]; rfl
  have e1 : q 1 = p2 := by rw [hq]; rfl
  have e2 : q 2 = p3 := by rw [hq]; rfl
  have e3 : q 3 = q2 := by rw [hq]; rfl
  have e4 : q 4 = q3 := by rw [hq]; rfl
  have e5 : q 5 = q4 := by rw [hq]; rfl
  have e6 : q 6 = q5 := by rw [hq]; rfl
  have e7 : q 7 = q6 := by rw [hq]; rfl
  have e8 : q 8 = q7 := by rw [hq]; rfl
  have e9 : q 9 = q8 := by rw [hq]; rfl
  have e10 : q 10 = q9 := by rw [hq]; rfl
  have e11 : q 11 = q10 := by rw [hq]; rfl
  have e12 : q 12 = q11 := by rw [hq]; rfl
  have e13 : q 13 = q12 := by rw [hq]; rfl
  have e14 : q 14 = q13 := by rw [hq]; rfl
  have e15 : q 15 = q14 := by rw [hq]; rfl
  have e16 : q 16 = q15 := by rw [hq]; rfl
  have e17 : q 17 = q16 := by rw [hq]; rfl
  have e18 : q 18 = q17 := by rw [hq]; rfl
  have e19 : q 19 = p1 := by rw [hq]; rfl
  have e20 : q 20 = q1 := by rw [hq]; rfl
  have e21 : q 21 = p4 := by rw [hq]; rfl
  have e22 : q 22 = q18 := by rw [hq]; rfl
  have e23 : q 23 = p5 := by rw [hq]; rfl
  have e24 : q 24 = q19 := by rw [hq]; rfl
  have e25 : q 25 = q20 := by rw [hq]; rfl
  have e26 : q 26 = q21 := by rw [hq]; rfl
  have e27 : q 27 = q22 := by rw [hq]; rfl
  have e28 : q 28 = q23 := by rw [hq]; rfl
  have e29 : q 29 = q24 := by rw [hq]; rfl
  have e30 : q 30 = q25 := by rw [hq]; rfl
  have e31 : q 31 = q26 := by rw [hq]; rfl
  have e32 : q 32 = q27 := by rw [hq]; rfl
  have e33 : q 33 = p6 := by rw [hq]; rfl
  have e34 : q 34 = q28 := by rw [hq]; rfl
  have e35 : q 35 = q29 := by rw [hq]; rfl
  have e36 : q 36 = q30 := by rw [hq]; rfl
  have e37 : q 37 = q31 := by rw [hq]; rfl
  have e38 : q 38 = p7 := by rw [hq]; rfl
  have e39 : q 39 = q32 := by rw [hq]; rfl
  have e40 : q 40 = p8 := by rw [hq]; rfl
  have e41 : q 41 = q33 := by rw [hq]; rfl
  have e42 : q 42 = q34 := by rw [hq]; rfl
  have e43 : q 43 = q35 := by rw [hq]; rfl
  have e44 : q 44 = q36 := by rw [hq]; rfl
  have e45 : q 45 = q37 := by rw [hq]; rfl
  have e46 : q 46 = p9 := by rw [hq]; rfl
  have e47 : q 47 = q38 := by rw [hq]; rfl
  have e48 : q 48 = q39 := by rw [hq]; rfl
  have e49 : q 49 = q40 := by rw [hq]; rfl
  have e50 : q 50 = q41 := by rw [hq]; rfl
  have e51 : q 51 = q42 := by rw [hq]; rfl
  have e52 : q 52 = q43 := by rw [hq]; rfl
  have e53 : q 53 = q44 := by rw [hq]; rfl
  have e54 : q 54 = q45 := by rw [hq]; rfl
  have e55 : q 55 = q46 := by rw [hq]; rfl
  have e56 : q 56 = q47 := by rw [hq]; rfl
  have e57 : q 57 = p10 := by rw [hq]; rfl
  have e58 : q 58 = q48 := by rw [hq]; rfl
  have e59 : q 59 = q49 := by rw [hq]; rfl
  have e60 : q 60 = q50 := by rw [hq]; rfl
  have e61 : q 61 = q51 := by rw [hq]; rfl
  have e62 : q 62 = q52 := by rw [hq]; rfl
  have e63 : q 63 = q53 := by rw [hq]; rfl
  have e64 : q 64 = q54 := by rw [hq]; rfl
  have e65 : q 65 = q55 := by rw [hq]; rfl
  have e66 : q 66 = q56 := by rw [hq]; rfl
  have e67 : q 67 = p11 := by rw [hq]; rfl
  have e68 : q 68 = q57 := by rw [hq]; rfl
  have e69 : q 69 = q58 := by rw [hq]; rfl
  have e70 : q 70 = q59 := by rw [hq]; rfl
  have e71 : q 71 = q60 := by rw [hq]; rfl
  have e72 : q 72 = q61 := by rw [hq]; rfl
  have e73 : q 73 = p12 := by rw [hq]; rfl
  have e74 : q 74 = q62 := by rw [hq]; rfl
  have e75 : q 75 = q63 := by rw [hq]; rfl
  have e76 : q 76 = q64 := by rw [hq]; rfl
  have e77 : q 77 = q65 := by rw [hq]; rfl
  have e78 : q 78 = q66 := by rw [hq]; rfl
  clear hq
  subst e0 e1 e2 e3 e4 e5 e6 e7 e8 e9 e10 e11 e12 e13 e14 e15 e16 e17 e18 e19 e20 e21 e22 e23 e24 e25 e26 e27 e28 e29 e30 e31 e32 e33 e34 e35 e36 e37 e38 e39 e40 e41 e42 e43 e44 e45 e46 e47 e48 e49 e50 e51 e52 e53 e54 e55 e56 e57 e58 e59 e60 e61 e62 e63 e64 e65 e66 e67 e68 e69 e70 e71 e72 e73 e74 e75 e76 e77 e78
  exact ⟨q, rfl, xP_perm (fun k => [0, 3, 12, 4, 5, 6, 7, 8, 9, 10, 11, 13, 14, 15, 16, 17, 18, 19, 20, 1, 2, 21, 22, 23, 24, 25, 26, 27, 28, 29, 30, 31, 32, 33, 34, 35, 36, 37, 38, 39, 40, 41, 42, 43, 44, 45, 46, 47, 48, 49, 50, 51, 52, 53, 54, 55, 56, 57, 58, 59, 60, 61, 62, 63, 64, 65, 66, 67, 68, 69, 70, 71, 72, 73, 74, 75, 76, 77, 78].getD k 0) (ctorx_perm g.cA q) hP, xD_perm (fun k => [0, 3, 12, 4, 5, 6, 7, 8, 9, 10, 11, 13, 14, 15, 16, 17, 18, 19, 20, 1, 2, 21, 22, 23, 24, 25, 26, 27, 28, 29, 30, 31, 32, 33, 34, 35, 36, 37, 38, 39, 40, 41, 42, 43, 44, 45, 46, 47, 48, 49, 50, 51, 52, 53, 54, 55, 56, 57, 58, 59, 60, 61, 62, 63, 64, 65, 66, 67, 68, 69, 70, 71, 72, 73, 74, 75, 76, 77, 78].getD k 0) (ctorx_perm g.cA q) ctorx_inj hD⟩
