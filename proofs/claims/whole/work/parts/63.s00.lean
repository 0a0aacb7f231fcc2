/-! worlds with a rest that is kept closed: (h0, fields) :: R -/
theorem wl_P {D : va_G} {cl : List vw_C} {ws : va_W} {x : Nat × va_E} {H : Heap} (h : va_P D cl (ws ++ [x]) H) : va_P D cl [x] H := by
  intro k q hk
  have hm : q ∈ ws ++ [x] := List.mem_append_right ws (List.mem_of_getElem? hk)
  obtain ⟨i, hi⟩ := List.getElem?_of_mem hm
  exact h i q hi
theorem wl_at {ws : va_W} {x : Nat × va_E} : (ws ++ [x])[ws.length]? = some x := by
  rw [List.getElem?_append_right (Nat.le_refl _), Nat.sub_self]; rfl
theorem wl_D {A : Nat → Prop} {ws : va_W} {x : Nat × va_E} (h : va_D A (ws ++ [x])) : va_D A [x] :=
  h.sub [ws.length] rfl (by show [(ws ++ [x])[ws.length]?] = _; rw [wl_at]; rfl)
theorem wl_F {A : Nat → Prop} {ws : va_W} {x : Nat × va_E} {H0 H : Heap} {locs : List Loc} (h : va_D A (ws ++ [x])) (hS : va_S A H0 H locs) (hA : ∀ q, H0.size ≤ q → A q) : ∀ q, va_A [x] H.size q → A q :=
  va_free (wc := [x]) h hS hA [ws.length] (by show [(ws ++ [x])[ws.length]?] = _; rw [wl_at]; rfl)
theorem wl_nd0 : ∀ l : List Nat, l.Nodup → va_nd l = true
  | [], _ => rfl
  | a :: l, h => by
    have h2 := List.nodup_cons.mp h
    show (decide (a ∉ l) && va_nd l) = true
    rw [wl_nd0 l h2.2, decide_eq_true h2.1]; rfl
theorem wl_nd (n : Nat) : va_nd (List.range n) = true := wl_nd0 _ List.nodup_range
theorem wl_J {A : Nat → Prop} {D : va_G} {cl : List vw_C} {ws w1 : va_W} {x : Nat × va_E} {H H1 : Heap} (hP : va_P D cl (ws ++ [x]) H) (hD : va_D A (ws ++ [x])) (hk : ∀ q : Nat, q < H.size → ¬ va_A [x] H.size q → H1[q]? = H[q]?) (hF : ∀ q, va_A [x] H.size q → A q) (hP1 : va_P D cl w1 H1) (hD1 : va_D (va_A [x] H.size) w1) : va_P D cl (ws ++ w1) H1 ∧ va_D A (ws ++ w1) := by
  have hm : ∀ i, i < ws.length → (ws ++ [x])[i]? = ws[i]? := fun i hi => List.getElem?_append_left hi
  refine va_join (wc := [x]) (wr := ws) hP hD [ws.length] (List.range ws.length) (by show [(ws ++ [x])[ws.length]?] = _; rw [wl_at]; rfl) ?_ ?_ ?_ hk hF hP1 hD1
  · apply List.ext_getElem?
    intro i
    rw [List.getElem?_map, List.getElem?_map]
    by_cases hi : i < ws.length
    · rw [List.getElem?_range hi, Option.map_some, hm i hi, List.getElem?_eq_getElem hi]; rfl
    · rw [List.getElem?_eq_none (by rw [List.length_range]; omega), List.getElem?_eq_none (by omega)]; rfl
  · exact wl_nd ws.length
  · intro i hi hj
    have := List.mem_range.mp hi
    have := List.mem_singleton.mp hj
    omega
theorem xlts {P : Nat → Prop} {n : Nat} (h : ∀ k, k < n → P k) (hn : P n) : ∀ k, k < n + 1 → P k := fun k hk => by
  rcases Nat.lt_or_ge k n with q | q
  · exact h k q
  · have : k = n := by omega
    subst this; exact hn
theorem xlt0 {P : Nat → Prop} : ∀ k, k < 0 → P k := fun k hk => absurd hk (Nat.not_lt_zero k)
/-- a world told by its places in another -/
theorem xP_perm {K : List Lk} {cA : Nat → ClassId} {q : Nat → Nat} {σ : St} {ws : va_W} {D : va_G} {cl : List vw_C} {H : Heap} (p : Nat → Nat) (h : ∀ k, k < K.length → ws[p k]? = K[k]?.map (fun e => (q k, xen cA q σ k e))) (hP : va_P D cl ws H) : va_P D cl (xws K cA q σ) H := by
  intro k x hk
  rw [xws_get] at hk
  by_cases hl : k < K.length
  · rw [← h k hl] at hk; exact hP _ x hk
  · rw [List.getElem?_eq_none (by omega)] at hk; cases hk
theorem xD_perm {K : List Lk} {cA : Nat → ClassId} {q : Nat → Nat} {σ : St} {ws : va_W} {A : Nat → Prop} (p : Nat → Nat) (h : ∀ k, k < K.length → ws[p k]? = K[k]?.map (fun e => (q k, xen cA q σ k e))) (hi : ∀ k, k < K.length → ∀ j, j < K.length → p k = p j → k = j) (hD : va_D A ws) : va_D A (xws K cA q σ) := by
  have key : ∀ k x, (xws K cA q σ)[k]? = some x → k < K.length ∧ ws[p k]? = some x := by
    intro k x hk
    rw [xws_get] at hk
    by_cases hl : k < K.length
    · rw [← h k hl] at hk; exact ⟨hl, hk⟩
    · rw [List.getElem?_eq_none (by omega)] at hk; cases hk
  refine ⟨fun i j x y hx hy e => ?_, fun k x hx => hD.2 _ x (key k x hx).2⟩
  obtain ⟨a1, a2⟩ := key i x hx
  obtain ⟨b1, b2⟩ := key j y hy
  exact hi i a1 j b1 (hD.1 _ _ x y a2 b2 e)
