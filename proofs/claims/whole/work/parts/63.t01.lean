def L0 : Lv := (0, fun _ => 0, fun _ => 0, fun _ => 0, fun _ => 0, fun _ _ => 0, fun _ => 0, fun _ => 0, 1, 24, 50, 1)
theorem start_rel {N : Nat} (hN : 802 < N) : ∃ σ1 σ2, f_X12_beginDraft σM0 = some σ1 ∧ f_X12_takeDraft N σ1 = some σ2 ∧ RelE σX0 σ2 := by
  have hL : LOk L0 := ⟨by decide, fun s hs => absurd hs (Nat.not_lt_zero s), by decide, ⟨by decide, by decide⟩, ⟨by decide, by decide⟩, by decide⟩
  have e1 : f_X12_beginDraft σM0 = some (si (si (si (si (si σM0 2 4 1) 2 5 24) 2 6 50) 2 7 1) 3 1 0) := rfl
  have f1 : Fr [2, 3] σM0 (si (si (si (si (si σM0 2 4 1) 2 5 24) 2 6 50) 2 7 1) 3 1 0) := (((((Fr.refl _ _).si _ _ _ rfl).si _ _ _ rfl).si _ _ _ rfl).si _ _ _ rfl).si _ _ _ rfl
  obtain ⟨σ1, hs1⟩ : ∃ x, x = si (si (si (si (si σM0 2 4 1) 2 5 24) 2 6 50) 2 7 1) 3 1 0 := ⟨_, rfl⟩
  have dm : DM σ1 L0 0 := by
    rw [hs1]
    exact ⟨by decide +kernel, fun s hs => absurd hs (Nat.not_lt_zero s), by decide +kernel, by decide +kernel, by decide +kernel, by decide +kernel, by decide +kernel⟩
  rw [← hs1] at e1 f1
  obtain ⟨σ2, e2, lm, f2⟩ := m_takeDraft hN hL dm
  have q1 := f1.at (l := [1001, 1, 1008, 1009, 1035, 1036, 1048, 1049, 1069, 1074, 1082, 1085, 1086, 1096, 1097]) rfl
  have q2 := f2.at (l := [1001, 1, 1008, 1009, 1035, 1036, 1048, 1049, 1069, 1074, 1082, 1085, 1086, 1096, 1097]) rfl
  have z : ∀ v ∈ [1001, 1, 1008, 1009, 1035, 1036, 1048, 1049, 1069, 1074, 1082, 1085, 1086, 1096, 1097], σ2.1 v = σM0.1 v := fun v hv => by rw [(q2 v hv).1, (q1 v hv).1]
  have y : ∀ (v : Nat) (x : Int32), v ∈ [1001, 1, 1008, 1009, 1035, 1036, 1048, 1049, 1069, 1074, 1082, 1085, 1086, 1096, 1097] → σM0.1 v 0 = x → σ2.1 v 0 = x := fun v x hv h => by rw [z v hv, h]
  refine ⟨σ1, σ2, e1, e2, L0, 0, fun _ => (0, 0, fun _ => 0, 0), ?_, ?_, ⟨hL, ?_, lm⟩, ⟨⟨by omega, fun t ht => absurd ht (Nat.not_lt_zero t)⟩, ⟨by decide +kernel, fun t ht => absurd ht (Nat.not_lt_zero t)⟩, ⟨y 1049 _ (by decide) (by decide +kernel), fun t ht => absurd ht (Nat.not_lt_zero t)⟩⟩, ?_, ?_, ?_, ?_, ?_, ?_, ?_, ?_, ?_, ?_⟩
  · exact rt_zero (by decide +kernel) (y 1001 _ (by decide) (by decide +kernel))
  · exact ⟨by rw [y 1008 0 (by decide) (by decide +kernel)]; decide +kernel, by rw [y 1009 (-1) (by decide) (by decide +kernel)]; decide +kernel⟩
  · exact ⟨by decide +kernel, fun s hs => absurd hs (Nat.not_lt_zero s), by decide +kernel, by decide +kernel, by decide +kernel, by decide +kernel⟩
  · exact .zero (by decide +kernel) (y 1035 _ (by decide) (by decide +kernel)) (by decide +kernel) (y 1036 _ (by decide) (by decide +kernel))
  · show σX0.1 1012 0 = σ2.1 1048 0
    rw [y 1048 0 (by decide) (by decide +kernel)]; decide +kernel
  · exact .zero (by decide +kernel) (y 1069 _ (by decide) (by decide +kernel))
  · exact .zero (by decide +kernel) (y 1074 _ (by decide) (by decide +kernel))
  · exact .zero (by decide +kernel) (y 1082 _ (by decide) (by decide +kernel))
  · exact .zero (by decide +kernel) (y 1085 _ (by decide) (by decide +kernel))
  · exact .zero (by decide +kernel) (y 1086 _ (by decide) (by decide +kernel))
  · exact .zero (by decide +kernel) (y 1096 _ (by decide) (by decide +kernel)) (by decide +kernel) (y 1097 _ (by decide) (by decide +kernel))
  · exact .zero (fun j _ => by rw [σX0_z 47 (by decide) (by decide) (by decide)])
  · exact Or.inl (by decide +kernel)
