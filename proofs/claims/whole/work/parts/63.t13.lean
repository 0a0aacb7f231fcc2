theorem wl_Pl {D : va_G} {cl : List vw_C} {a b : va_W} {H : Heap} (h : va_P D cl (a ++ b) H) : va_P D cl a H := fun k q hk => by
  obtain ⟨i, hi⟩ := List.getElem?_of_mem (List.mem_append_left b (List.mem_of_getElem? hk))
  exact h i q hi
theorem wl_Pr {D : va_G} {cl : List vw_C} {a b : va_W} {H : Heap} (h : va_P D cl (a ++ b) H) : va_P D cl b H := fun k q hk => by
  obtain ⟨i, hi⟩ := List.getElem?_of_mem (List.mem_append_right a (List.mem_of_getElem? hk))
  exact h i q hi
theorem wl_al {a b : va_W} {i : Nat} {p : Nat × va_E} (h : a[i]? = some p) : (a ++ b)[i]? = some p := by
  rw [List.getElem?_append_left (xlt h)]; exact h
theorem wl_ar {a b : va_W} {i : Nat} {p : Nat × va_E} (h : b[i]? = some p) : (a ++ b)[a.length + i]? = some p := by
  rw [List.getElem?_append_right (by omega), show a.length + i - a.length = i by omega]; exact h
theorem wl_Dl {A : Nat → Prop} {a b : va_W} (h : va_D A (a ++ b)) : va_D A a :=
  ⟨fun i j p q hp hq e => h.1 i j p q (wl_al hp) (wl_al hq) e, fun k q hq => h.2 k q (wl_al hq)⟩
theorem wl_Dr {A : Nat → Prop} {a b : va_W} (h : va_D A (a ++ b)) : va_D A b :=
  ⟨fun i j p q hp hq e => by have := h.1 _ _ p q (wl_ar hp) (wl_ar hq) e; omega, fun k q hq => h.2 _ q (wl_ar hq)⟩
theorem wl_dis {A : Nat → Prop} {K1 K2 : List Lk} {cA : Nat → ClassId} {q1 q2 : Nat → Nat} {σ τ : St} (h : va_D A (xws K1 cA q1 σ ++ xws K2 cA q2 τ)) : ∀ a, xA K1 q1 a → xA K2 q2 a → False := by
  rintro a ⟨i, hi, rfl⟩ ⟨j, hj, e⟩
  have h1 : (xws K1 cA q1 σ)[i]? = some (q1 i, xen cA q1 σ i K1[i]) := xws_at (List.getElem?_eq_getElem hi)
  have h2 : (xws K2 cA q2 τ)[j]? = some (q2 j, xen cA q2 τ j K2[j]) := xws_at (List.getElem?_eq_getElem hj)
  have h3 := h.1 _ _ _ _ (wl_al (b := xws K2 cA q2 τ) h1) (wl_ar (a := xws K1 cA q1 σ) h2) e.symm
  rw [xws_len] at h3
  omega
def d12 : List Value := (List.range 103).map (fM (fun _ => 0) 0 0)
theorem fM_0 (h : Nat) : (List.range 103).map (fM (fun _ => h) 0 0) = d12 := by
  show _ = (List.range 103).map (fM (fun _ => 0) 0 0)
  apply List.map_congr_left
  intro k hk
  have hk := List.mem_range.mp hk
  unfold fM
  cases hf : KM_f0[k]? with
  | none => rfl
  | some f =>
    obtain ⟨t, i⟩ := f
    rcases kM_k k hk (t, i) (by rw [hf]; exact List.mem_singleton.mpr rfl) with h | h | ⟨h, h1, h2⟩
    · have : t = 0 := h
      subst this; rfl
    · have : t = 1 := h
      subst this; rfl
    · have : t = 2 := h
      subst this
      have h1 : 1 ≤ i := h1
      show (if i ≤ 0 then _ else Value.null) = (if i ≤ 0 then _ else Value.null)
      rw [if_neg (by omega), if_neg (by omega)]
theorem d12_all : (List.range 103).all (fun j => decide (defaultValue (tyX12 j) = vp_V d12 j)) = true := by decide +kernel
theorem d12_ok : ∀ j, j < 103 → defaultValue (tyX12 j) = vp_V d12 j := xdf_aux d12_all
theorem d11_ok : ∀ j, j < 13 → defaultValue (tyX11 j) = vp_V [.null, .null, .null, .null, .null, .null, .null, .null, .null, .null, .null, .null, .int 0] j := xdf_aux (by decide +kernel)
