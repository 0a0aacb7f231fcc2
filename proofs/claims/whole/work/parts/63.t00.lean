/-! both systems alike, and every call keeps it -/
def Rel (σ τ : St) (L : Lv) (nt : Nat) (T : Nat → Tv) : Prop := RTape σ τ ∧ RFault σ τ ∧ RList σ τ L ∧ RTerms σ τ nt T ∧ RBlocks σ τ L.n ∧ RFace σ τ ∧ RRow σ τ L.n ∧ RRead σ τ ∧ RGroup σ τ ∧ RPass σ τ nt ∧ RFill σ τ ∧ RVals σ τ L.n ∧ RCache σ L nt T ∧ RPlan σ L nt T
def RelE (σ τ : St) : Prop := ∃ L nt T, Rel σ τ L nt T
theorem ok_ex {α : Type} {x : Option α} {P : α → Prop} (h : ok x P) : ∃ a, x = some a ∧ P a := h
theorem RPass.up {σ τ : St} {nt : Nat} (h : RPass σ τ nt) : RPass σ τ (nt + 1) := by
  obtain ⟨n, h1, h2, h3, h4⟩ := h
  exact ⟨n, h1, h2, h3, fun i hi => ⟨(h4 i hi).1, (h4 i hi).2.choose, Nat.lt_succ_of_lt (h4 i hi).2.choose_spec.1, (h4 i hi).2.choose_spec.2⟩⟩
theorem RBlocks.zero {σ τ : St} {ns : Nat} (h1 : σ.1 5602 0 = 0) (h2 : τ.1 1035 0 = 0) (h3 : σ.1 5605 0 = 0) (h4 : τ.1 1036 0 = 0) : RBlocks σ τ ns := ⟨0, 0, by omega, by omega, h1, h2, h3, h4, fun b hb => by omega, fun b hb => by omega⟩
theorem RRow.zero {σ τ : St} {ns : Nat} (h1 : σ.1 12404 0 = 0) (h2 : τ.1 1069 0 = 0) : RRow σ τ ns := ⟨0, by omega, h1, h2, fun b hb => by omega⟩
theorem RRead.zero {σ τ : St} (h1 : σ.1 12411 0 = 0) (h2 : τ.1 1074 0 = 0) : RRead σ τ := ⟨0, by omega, h1, h2, fun b hb => by omega⟩
theorem RGroup.zero {σ τ : St} (h1 : σ.1 9004 0 = 0) (h2 : τ.1 1082 0 = 0) : RGroup σ τ := ⟨0, by omega, h1, h2, fun b hb => by omega⟩
theorem RPass.zero {σ τ : St} {nt : Nat} (h1 : σ.1 14402 0 = 0) (h2 : τ.1 1085 0 = 0) : RPass σ τ nt := ⟨0, by omega, h1, h2, fun b hb => by omega⟩
theorem RFill.zero {σ τ : St} (h1 : σ.1 14405 0 = 0) (h2 : τ.1 1086 0 = 0) : RFill σ τ := ⟨0, by omega, h1, h2, fun b hb => by omega⟩
theorem RVals.zero {σ τ : St} {ns : Nat} (h1 : σ.1 15600 0 = 0) (h2 : τ.1 1096 0 = 0) (h3 : σ.1 15601 0 = 0) (h4 : τ.1 1097 0 = 0) : RVals σ τ ns := ⟨0, 0, by omega, by omega, h1, h2, h3, h4, fun b hb => by omega⟩
theorem ok2 {α : Type} {x y : Option (α × St)} {P : α × St → α × St → Prop} (h : ok x (fun a => ok y (fun c => a.1 = c.1 ∧ P a c))) : ∃ r σ' τ', x = some (r, σ') ∧ y = some (r, τ') ∧ P (r, σ') (r, τ') := by
  obtain ⟨a, ha, h2⟩ := ok_ex h
  obtain ⟨c, hc, h3, h4⟩ := ok_ex h2
  obtain ⟨a1, a2⟩ := a
  obtain ⟨c1, c2⟩ := c
  have : a1 = c1 := h3
  subst this
  exact ⟨a1, a2, c2, ha, hc, h4⟩
theorem r_feed {N : Nat} (hN : 802 < N) {σ τ : St} (h : RelE σ τ) (x1 x2 x3 x4 x5 : Int32) : ∃ r σ' τ', f_X11_feed N x1 x2 x3 x4 x5 σ = some (r, σ') ∧ f_X12_feed N x1 x2 x3 x4 x5 τ = some (r, τ') ∧ RelE σ' τ' := by
  obtain ⟨L, nt, T, hTape, hFault, hList, hTerms, hBlocks, hFace, hRow, hRead, hGroup, hPass, hFill, hVals, hCache, hPlan⟩ := h
  obtain ⟨r, σ', τ', e1, e2, hq⟩ := ok2 (c_feed hN hTape x1 x2 x3 x4 x5)
  obtain ⟨n1, f, g⟩ := hq
  exact ⟨r, σ', τ', e1, e2, ⟨L, nt, T, ⟨n1, hFault.fr f g rfl rfl, hList.fr f g rfl rfl, hTerms.fr f g rfl rfl, hBlocks.fr f g rfl rfl, hFace.fr f g rfl rfl, hRow.fr f g rfl rfl, hRead.fr f g rfl rfl, hGroup.fr f g rfl rfl, hPass.fr f g rfl rfl, hFill.fr f g rfl rfl, hVals.fr f g rfl rfl, hCache.fr f rfl, hPlan.fr f rfl⟩⟩⟩
theorem r_end {σ τ : St} (h : RelE σ τ) (x1 : Int32) : ∃ r σ' τ', f_X11_end x1 σ = some (r, σ') ∧ f_X12_end x1 τ = some (r, τ') ∧ RelE σ' τ' := by
  obtain ⟨L, nt, T, hTape, hFault, hList, hTerms, hBlocks, hFace, hRow, hRead, hGroup, hPass, hFill, hVals, hCache, hPlan⟩ := h
  obtain ⟨r, σ', τ', e1, e2, hq⟩ := ok2 (c_end hTape x1)
  obtain ⟨n1, f, g⟩ := hq
  exact ⟨r, σ', τ', e1, e2, ⟨L, nt, T, ⟨n1, hFault.fr f g rfl rfl, hList.fr f g rfl rfl, hTerms.fr f g rfl rfl, hBlocks.fr f g rfl rfl, hFace.fr f g rfl rfl, hRow.fr f g rfl rfl, hRead.fr f g rfl rfl, hGroup.fr f g rfl rfl, hPass.fr f g rfl rfl, hFill.fr f g rfl rfl, hVals.fr f g rfl rfl, hCache.fr f rfl, hPlan.fr f rfl⟩⟩⟩
theorem r_list {N : Nat} (hN : 802 < N) {σ τ : St} (h : RelE σ τ) : ∃ r σ' τ', f_X11_list N σ = some (r, σ') ∧ f_X12_list N τ = some (r, τ') ∧ RelE σ' τ' := by
  obtain ⟨L, nt, T, hTape, hFault, hList, hTerms, hBlocks, hFace, hRow, hRead, hGroup, hPass, hFill, hVals, hCache, hPlan⟩ := h
  obtain ⟨r, σ', τ', e1, e2, hq⟩ := ok2 (c_list hN hTape hList)
  rcases hq with ⟨n1, n2, ⟨n3, f, g⟩ | ⟨L2, n3, zx, zm, f, g⟩⟩
  · exact ⟨r, σ', τ', e1, e2, ⟨L, nt, T, ⟨n1, n2, n3, hTerms.fr f g rfl rfl, hBlocks.fr f g rfl rfl, hFace.fr f g rfl rfl, hRow.fr f g rfl rfl, hRead.fr f g rfl rfl, hGroup.fr f g rfl rfl, hPass.fr f g rfl rfl, hFill.fr f g rfl rfl, hVals.fr f g rfl rfl, hCache.fr f rfl, hPlan.fr f rfl⟩⟩⟩
  · exact ⟨r, σ', τ', e1, e2, ⟨L2, nt, T, ⟨n1, n2, n3, hTerms.fr f g rfl rfl, .zero zx.1 zm.1 zx.2.1 zm.2.1, hFace.fr f g rfl rfl, .zero zx.2.2.1 zm.2.2.1, .zero zx.2.2.2.1 zm.2.2.2.2.2.1, .zero zx.2.2.2.2.1 zm.2.2.2.2.2.2.1, hPass.fr f g rfl rfl, .zero zx.2.2.2.2.2.2.2.1 zm.2.2.2.2.2.2.2, .zero zx.2.2.2.2.2.1 zm.2.2.2.1 zx.2.2.2.2.2.2.1 zm.2.2.2.2.1, .zero zx.2.2.2.2.2.2.2.2.2, Or.inl zx.2.2.2.2.2.2.2.2.1⟩⟩⟩
theorem r_named {N : Nat} (hN : 802 < N) {σ τ : St} (h : RelE σ τ) : ∃ r σ' τ', f_X11_named N σ = some (r, σ') ∧ f_X12_named N τ = some (r, τ') ∧ RelE σ' τ' := by
  obtain ⟨L, nt, T, hTape, hFault, hList, hTerms, hBlocks, hFace, hRow, hRead, hGroup, hPass, hFill, hVals, hCache, hPlan⟩ := h
  obtain ⟨r, σ', τ', e1, e2, hq⟩ := ok2 (c_named hN hTape hList)
  obtain ⟨n1, f, g⟩ := hq
  exact ⟨r, σ', τ', e1, e2, ⟨L, nt, T, ⟨n1, hFault.fr f g rfl rfl, hList.fr f g rfl rfl, hTerms.fr f g rfl rfl, hBlocks.fr f g rfl rfl, hFace.fr f g rfl rfl, hRow.fr f g rfl rfl, hRead.fr f g rfl rfl, hGroup.fr f g rfl rfl, hPass.fr f g rfl rfl, hFill.fr f g rfl rfl, hVals.fr f g rfl rfl, hCache.fr f rfl, hPlan.fr f rfl⟩⟩⟩
theorem r_blocks {N : Nat} (hN : 802 < N) {σ τ : St} (h : RelE σ τ) : ∃ r σ' τ', f_X11_blocks N σ = some (r, σ') ∧ f_X12_blocks N τ = some (r, τ') ∧ RelE σ' τ' := by
  obtain ⟨L, nt, T, hTape, hFault, hList, hTerms, hBlocks, hFace, hRow, hRead, hGroup, hPass, hFill, hVals, hCache, hPlan⟩ := h
  obtain ⟨r, σ', τ', e1, e2, hq⟩ := ok2 (c_blocks hN hTape hList)
  rcases hq with ⟨n1, n2, ⟨f, g⟩ | ⟨n3, f, g⟩⟩
  · exact ⟨r, σ', τ', e1, e2, ⟨L, nt, T, ⟨n1, n2, hList.fr f g rfl rfl, hTerms.fr f g rfl rfl, hBlocks.fr f g rfl rfl, hFace.fr f g rfl rfl, hRow.fr f g rfl rfl, hRead.fr f g rfl rfl, hGroup.fr f g rfl rfl, hPass.fr f g rfl rfl, hFill.fr f g rfl rfl, hVals.fr f g rfl rfl, hCache.fr f rfl, hPlan.fr f rfl⟩⟩⟩
  · exact ⟨r, σ', τ', e1, e2, ⟨L, nt, T, ⟨n1, n2, hList.fr f g rfl rfl, hTerms.fr f g rfl rfl, n3, hFace.fr f g rfl rfl, hRow.fr f g rfl rfl, hRead.fr f g rfl rfl, hGroup.fr f g rfl rfl, hPass.fr f g rfl rfl, hFill.fr f g rfl rfl, hVals.fr f g rfl rfl, hCache.fr f rfl, hPlan.fr f rfl⟩⟩⟩
theorem r_face {σ τ : St} (h : RelE σ τ) (x1 : Int32) (hz : zbb x1 = true) : ∃ r σ' τ', f_X11_face x1 σ = some (r, σ') ∧ f_X12_face x1 τ = some (r, τ') ∧ RelE σ' τ' := by
  obtain ⟨L, nt, T, hTape, hFault, hList, hTerms, hBlocks, hFace, hRow, hRead, hGroup, hPass, hFill, hVals, hCache, hPlan⟩ := h
  obtain ⟨r, σ', τ', e1, e2, hq⟩ := ok2 (c_face hFace x1 hz)
  obtain ⟨n1, f, g⟩ := hq
  exact ⟨r, σ', τ', e1, e2, ⟨L, nt, T, ⟨hTape.fr f g rfl rfl, hFault.fr f g rfl rfl, hList.fr f g rfl rfl, hTerms.fr f g rfl rfl, hBlocks.fr f g rfl rfl, n1, hRow.fr f g rfl rfl, hRead.fr f g rfl rfl, hGroup.fr f g rfl rfl, hPass.fr f g rfl rfl, hFill.fr f g rfl rfl, hVals.fr f g rfl rfl, hCache.fr f rfl, hPlan.fr f rfl⟩⟩⟩
theorem r_term {N : Nat} (hN : 802 < N) {σ τ : St} (h : RelE σ τ) : ∃ r σ' τ', f_X11_term N σ = some (r, σ') ∧ f_X12_term N τ = some (r, τ') ∧ RelE σ' τ' := by
  obtain ⟨L, nt, T, hTape, hFault, hList, hTerms, hBlocks, hFace, hRow, hRead, hGroup, hPass, hFill, hVals, hCache, hPlan⟩ := h
  obtain ⟨r, σ', τ', e1, e2, hq⟩ := ok2 (c_term hN hTape hTerms)
  rcases hq with ⟨n1, ⟨f, g⟩ | ⟨v, n3, f, g⟩⟩
  · exact ⟨r, σ', τ', e1, e2, ⟨L, nt, T, ⟨n1, hFault.fr f g rfl rfl, hList.fr f g rfl rfl, hTerms.fr f g rfl rfl, hBlocks.fr f g rfl rfl, hFace.fr f g rfl rfl, hRow.fr f g rfl rfl, hRead.fr f g rfl rfl, hGroup.fr f g rfl rfl, hPass.fr f g rfl rfl, hFill.fr f g rfl rfl, hVals.fr f g rfl rfl, hCache.fr f rfl, hPlan.fr f rfl⟩⟩⟩
  · exact ⟨r, σ', τ', e1, e2, ⟨L, nt + 1, up T nt v, ⟨n1, hFault.fr f g rfl rfl, hList.fr f g rfl rfl, n3, hBlocks.fr f g rfl rfl, hFace.fr f g rfl rfl, hRow.fr f g rfl rfl, hRead.fr f g rfl rfl, hGroup.fr f g rfl rfl, hPass.up.fr f g rfl rfl, hFill.fr f g rfl rfl, hVals.fr f g rfl rfl, (hCache.term v).fr f rfl, (hPlan.term v).fr f rfl⟩⟩⟩
theorem r_spellings {N : Nat} (hN : 802 < N) {σ τ : St} (h : RelE σ τ) (x1 : Int32) : ∃ r σ' τ', f_X11_spellings N x1 σ = some (r, σ') ∧ f_X12_spellings N x1 τ = some (r, τ') ∧ RelE σ' τ' := by
  obtain ⟨L, nt, T, hTape, hFault, hList, hTerms, hBlocks, hFace, hRow, hRead, hGroup, hPass, hFill, hVals, hCache, hPlan⟩ := h
  obtain ⟨r, σ', τ', e1, e2, hq⟩ := ok2 (c_spellings hN hList hTerms hCache x1)
  obtain ⟨n1, f, g⟩ := hq
  exact ⟨r, σ', τ', e1, e2, ⟨L, nt, T, ⟨hTape.fr f g rfl rfl, hFault.fr f g rfl rfl, hList.fr f g rfl rfl, hTerms.fr f g rfl rfl, hBlocks.fr f g rfl rfl, hFace.fr f g rfl rfl, hRow.fr f g rfl rfl, hRead.fr f g rfl rfl, hGroup.fr f g rfl rfl, hPass.fr f g rfl rfl, hFill.fr f g rfl rfl, hVals.fr f g rfl rfl, n1, hPlan.fr f rfl⟩⟩⟩
theorem r_best {N : Nat} (hN : 802 < N) {σ τ : St} (h : RelE σ τ) (x1 : Int32) : ∃ r σ' τ', f_X11_best N x1 σ = some (r, σ') ∧ f_X12_best N x1 τ = some (r, τ') ∧ RelE σ' τ' := by
  obtain ⟨L, nt, T, hTape, hFault, hList, hTerms, hBlocks, hFace, hRow, hRead, hGroup, hPass, hFill, hVals, hCache, hPlan⟩ := h
  obtain ⟨r, σ', τ', e1, e2, hq⟩ := ok2 (c_best hN hList hTerms hCache x1)
  obtain ⟨n1, f, g⟩ := hq
  exact ⟨r, σ', τ', e1, e2, ⟨L, nt, T, ⟨hTape.fr f g rfl rfl, hFault.fr f g rfl rfl, hList.fr f g rfl rfl, hTerms.fr f g rfl rfl, hBlocks.fr f g rfl rfl, hFace.fr f g rfl rfl, hRow.fr f g rfl rfl, hRead.fr f g rfl rfl, hGroup.fr f g rfl rfl, hPass.fr f g rfl rfl, hFill.fr f g rfl rfl, hVals.fr f g rfl rfl, n1, hPlan.fr f rfl⟩⟩⟩
theorem r_bestSign {N : Nat} (hN : 802 < N) {σ τ : St} (h : RelE σ τ) (x1 x2 : Int32) : ∃ r σ' τ', f_X11_bestSign N x1 x2 σ = some (r, σ') ∧ f_X12_bestSign N x1 x2 τ = some (r, τ') ∧ RelE σ' τ' := by
  obtain ⟨L, nt, T, hTape, hFault, hList, hTerms, hBlocks, hFace, hRow, hRead, hGroup, hPass, hFill, hVals, hCache, hPlan⟩ := h
  obtain ⟨r, σ', τ', e1, e2, hq⟩ := ok2 (c_bestSign hN hList hTerms hCache x1 x2)
  obtain ⟨n1, f, g⟩ := hq
  exact ⟨r, σ', τ', e1, e2, ⟨L, nt, T, ⟨hTape.fr f g rfl rfl, hFault.fr f g rfl rfl, hList.fr f g rfl rfl, hTerms.fr f g rfl rfl, hBlocks.fr f g rfl rfl, hFace.fr f g rfl rfl, hRow.fr f g rfl rfl, hRead.fr f g rfl rfl, hGroup.fr f g rfl rfl, hPass.fr f g rfl rfl, hFill.fr f g rfl rfl, hVals.fr f g rfl rfl, n1, hPlan.fr f rfl⟩⟩⟩
theorem r_write {N : Nat} (hN : 802 < N) {σ τ : St} (h : RelE σ τ) : ∃ r σ' τ', f_X11_write N σ = some (r, σ') ∧ f_X12_write N τ = some (r, τ') ∧ RelE σ' τ' := by
  obtain ⟨L, nt, T, hTape, hFault, hList, hTerms, hBlocks, hFace, hRow, hRead, hGroup, hPass, hFill, hVals, hCache, hPlan⟩ := h
  obtain ⟨r, σ', τ', e1, e2, hq⟩ := ok2 (c_write hN hTape hList)
  rcases hq with ⟨n1, ⟨f, g⟩ | ⟨n2, z1, z2, z3, z4, f, g⟩⟩
  · exact ⟨r, σ', τ', e1, e2, ⟨L, nt, T, ⟨n1, hFault.fr f g rfl rfl, hList.fr f g rfl rfl, hTerms.fr f g rfl rfl, hBlocks.fr f g rfl rfl, hFace.fr f g rfl rfl, hRow.fr f g rfl rfl, hRead.fr f g rfl rfl, hGroup.fr f g rfl rfl, hPass.fr f g rfl rfl, hFill.fr f g rfl rfl, hVals.fr f g rfl rfl, hCache.fr f rfl, hPlan.fr f rfl⟩⟩⟩
  · exact ⟨r, σ', τ', e1, e2, ⟨L, nt, T, ⟨n1, hFault.fr f g rfl rfl, hList.fr f g rfl rfl, hTerms.fr f g rfl rfl, hBlocks.fr f g rfl rfl, hFace.fr f g rfl rfl, n2, .zero z1 z2, .zero z3 z4, hPass.fr f g rfl rfl, hFill.fr f g rfl rfl, hVals.fr f g rfl rfl, hCache.fr f rfl, hPlan.fr f rfl⟩⟩⟩
theorem r_ways {N : Nat} (hN : 802 < N) {σ τ : St} (h : RelE σ τ) : ∃ r σ' τ', f_X11_ways N σ = some (r, σ') ∧ f_X12_ways N τ = some (r, τ') ∧ RelE σ' τ' := by
  obtain ⟨L, nt, T, hTape, hFault, hList, hTerms, hBlocks, hFace, hRow, hRead, hGroup, hPass, hFill, hVals, hCache, hPlan⟩ := h
  obtain ⟨r, σ', τ', e1, e2, hq⟩ := ok2 (c_ways hN hList hTerms hRow)
  obtain ⟨f, g⟩ := hq
  exact ⟨r, σ', τ', e1, e2, ⟨L, nt, T, ⟨hTape.fr f g rfl rfl, hFault.fr f g rfl rfl, hList.fr f g rfl rfl, hTerms.fr f g rfl rfl, hBlocks.fr f g rfl rfl, hFace.fr f g rfl rfl, hRow.fr f g rfl rfl, hRead.fr f g rfl rfl, hGroup.fr f g rfl rfl, hPass.fr f g rfl rfl, hFill.fr f g rfl rfl, hVals.fr f g rfl rfl, hCache.fr f rfl, hPlan.fr f rfl⟩⟩⟩
theorem r_waysOn {N : Nat} (hN : 802 < N) {σ τ : St} (h : RelE σ τ) (x1 x2 : Int32) : ∃ r σ' τ', f_X11_waysOn N x1 x2 σ = some (r, σ') ∧ f_X12_waysOn N x1 x2 τ = some (r, τ') ∧ RelE σ' τ' := by
  obtain ⟨L, nt, T, hTape, hFault, hList, hTerms, hBlocks, hFace, hRow, hRead, hGroup, hPass, hFill, hVals, hCache, hPlan⟩ := h
  obtain ⟨r, σ', τ', e1, e2, hq⟩ := ok2 (c_waysOn hN hList hTerms hRow hVals x1 x2)
  obtain ⟨f, g⟩ := hq
  exact ⟨r, σ', τ', e1, e2, ⟨L, nt, T, ⟨hTape.fr f g rfl rfl, hFault.fr f g rfl rfl, hList.fr f g rfl rfl, hTerms.fr f g rfl rfl, hBlocks.fr f g rfl rfl, hFace.fr f g rfl rfl, hRow.fr f g rfl rfl, hRead.fr f g rfl rfl, hGroup.fr f g rfl rfl, hPass.fr f g rfl rfl, hFill.fr f g rfl rfl, hVals.fr f g rfl rfl, hCache.fr f rfl, hPlan.fr f rfl⟩⟩⟩
theorem r_read {N : Nat} (hN : 802 < N) {σ τ : St} (h : RelE σ τ) : ∃ r σ' τ', f_X11_read N σ = some (r, σ') ∧ f_X12_read N τ = some (r, τ') ∧ RelE σ' τ' := by
  obtain ⟨L, nt, T, hTape, hFault, hList, hTerms, hBlocks, hFace, hRow, hRead, hGroup, hPass, hFill, hVals, hCache, hPlan⟩ := h
  obtain ⟨r, σ', τ', e1, e2, hq⟩ := ok2 (c_read hN hList hTerms hRow hRead)
  obtain ⟨n1, f, g⟩ := hq
  exact ⟨r, σ', τ', e1, e2, ⟨L, nt, T, ⟨hTape.fr f g rfl rfl, hFault.fr f g rfl rfl, hList.fr f g rfl rfl, hTerms.fr f g rfl rfl, hBlocks.fr f g rfl rfl, hFace.fr f g rfl rfl, hRow.fr f g rfl rfl, n1, hGroup.fr f g rfl rfl, hPass.fr f g rfl rfl, hFill.fr f g rfl rfl, hVals.fr f g rfl rfl, hCache.fr f rfl, hPlan.fr f rfl⟩⟩⟩
theorem r_spells {N : Nat} (hN : 802 < N) {σ τ : St} (h : RelE σ τ) (x1 : Int32) : ∃ r σ' τ', f_X11_spells N x1 σ = some (r, σ') ∧ f_X12_spells N x1 τ = some (r, τ') ∧ RelE σ' τ' := by
  obtain ⟨L, nt, T, hTape, hFault, hList, hTerms, hBlocks, hFace, hRow, hRead, hGroup, hPass, hFill, hVals, hCache, hPlan⟩ := h
  obtain ⟨r, σ', τ', e1, e2, hq⟩ := ok2 (c_spells hN hList hTerms hRow x1)
  obtain ⟨f, g⟩ := hq
  exact ⟨r, σ', τ', e1, e2, ⟨L, nt, T, ⟨hTape.fr f g rfl rfl, hFault.fr f g rfl rfl, hList.fr f g rfl rfl, hTerms.fr f g rfl rfl, hBlocks.fr f g rfl rfl, hFace.fr f g rfl rfl, hRow.fr f g rfl rfl, hRead.fr f g rfl rfl, hGroup.fr f g rfl rfl, hPass.fr f g rfl rfl, hFill.fr f g rfl rfl, hVals.fr f g rfl rfl, hCache.fr f rfl, hPlan.fr f rfl⟩⟩⟩
theorem r_group {N : Nat} (hN : 802 < N) {σ τ : St} (h : RelE σ τ) : ∃ r σ' τ', f_X11_group N σ = some (r, σ') ∧ f_X12_group N τ = some (r, τ') ∧ RelE σ' τ' := by
  obtain ⟨L, nt, T, hTape, hFault, hList, hTerms, hBlocks, hFace, hRow, hRead, hGroup, hPass, hFill, hVals, hCache, hPlan⟩ := h
  obtain ⟨r, σ', τ', e1, e2, hq⟩ := ok2 (c_group hN hList hRow hGroup)
  obtain ⟨n1, f, g⟩ := hq
  exact ⟨r, σ', τ', e1, e2, ⟨L, nt, T, ⟨hTape.fr f g rfl rfl, hFault.fr f g rfl rfl, hList.fr f g rfl rfl, hTerms.fr f g rfl rfl, hBlocks.fr f g rfl rfl, hFace.fr f g rfl rfl, hRow.fr f g rfl rfl, hRead.fr f g rfl rfl, n1, hPass.fr f g rfl rfl, hFill.fr f g rfl rfl, hVals.fr f g rfl rfl, hCache.fr f rfl, hPlan.fr f rfl⟩⟩⟩
theorem r_clear {σ τ : St} (h : RelE σ τ) : ∃ r σ' τ', f_X11_clear σ = some (r, σ') ∧ f_X12_clear τ = some (r, τ') ∧ RelE σ' τ' := by
  obtain ⟨L, nt, T, hTape, hFault, hList, hTerms, hBlocks, hFace, hRow, hRead, hGroup, hPass, hFill, hVals, hCache, hPlan⟩ := h
  obtain ⟨r, σ', τ', e1, e2, hq⟩ := ok2 (c_clear hPass)
  obtain ⟨n1, n2, n3, f, g⟩ := hq
  exact ⟨r, σ', τ', e1, e2, ⟨L, nt, T, ⟨hTape.fr f g rfl rfl, hFault.fr f g rfl rfl, hList.fr f g rfl rfl, hTerms.fr f g rfl rfl, hBlocks.fr f g rfl rfl, hFace.fr f g rfl rfl, hRow.fr f g rfl rfl, hRead.fr f g rfl rfl, hGroup.fr f g rfl rfl, n1, n2, hVals.fr f g rfl rfl, hCache.fr f rfl, Or.inl n3⟩⟩⟩
theorem r_say {σ τ : St} (h : RelE σ τ) (x1 : Int32) : ∃ r σ' τ', f_X11_say x1 σ = some (r, σ') ∧ f_X12_say x1 τ = some (r, τ') ∧ RelE σ' τ' := by
  obtain ⟨L, nt, T, hTape, hFault, hList, hTerms, hBlocks, hFace, hRow, hRead, hGroup, hPass, hFill, hVals, hCache, hPlan⟩ := h
  obtain ⟨r, σ', τ', e1, e2, hq⟩ := ok2 (c_say hTerms hPass x1)
  rcases hq with ⟨z1, z2⟩ | ⟨n1, n2, n3, f, g⟩
  · exact ⟨r, σ', τ', e1, e2, by rw [show σ' = σ from z1, show τ' = τ from z2]; exact ⟨L, nt, T, hTape, hFault, hList, hTerms, hBlocks, hFace, hRow, hRead, hGroup, hPass, hFill, hVals, hCache, hPlan⟩⟩
  · exact ⟨r, σ', τ', e1, e2, ⟨L, nt, T, ⟨hTape.fr f g rfl rfl, hFault.fr f g rfl rfl, hList.fr f g rfl rfl, hTerms.fr f g rfl rfl, hBlocks.fr f g rfl rfl, hFace.fr f g rfl rfl, hRow.fr f g rfl rfl, hRead.fr f g rfl rfl, hGroup.fr f g rfl rfl, n1, n2, hVals.fr f g rfl rfl, hCache.fr f rfl, Or.inl n3⟩⟩⟩
theorem r_fill {N : Nat} (hN : 802 < N) {σ τ : St} (h : RelE σ τ) (x1 : Int32) : ∃ r σ' τ', f_X11_fill N x1 σ = some (r, σ') ∧ f_X12_fill N x1 τ = some (r, τ') ∧ RelE σ' τ' := by
  obtain ⟨L, nt, T, hTape, hFault, hList, hTerms, hBlocks, hFace, hRow, hRead, hGroup, hPass, hFill, hVals, hCache, hPlan⟩ := h
  obtain ⟨r, σ', τ', e1, e2, hq⟩ := ok2 (c_fill hN hList hTerms hCache hPass hPlan hFill x1)
  obtain ⟨n1, n2, n3, f, g⟩ := hq
  exact ⟨r, σ', τ', e1, e2, ⟨L, nt, T, ⟨hTape.fr f g rfl rfl, hFault.fr f g rfl rfl, hList.fr f g rfl rfl, hTerms.fr f g rfl rfl, hBlocks.fr f g rfl rfl, hFace.fr f g rfl rfl, hRow.fr f g rfl rfl, hRead.fr f g rfl rfl, hGroup.fr f g rfl rfl, hPass.fr f g rfl rfl, n3, hVals.fr f g rfl rfl, n1, n2⟩⟩⟩
theorem r_fills {N : Nat} (hN : 802 < N) {σ τ : St} (h : RelE σ τ) : ∃ r σ' τ', f_X11_fills N σ = some (r, σ') ∧ f_X12_fills N τ = some (r, τ') ∧ RelE σ' τ' := by
  obtain ⟨L, nt, T, hTape, hFault, hList, hTerms, hBlocks, hFace, hRow, hRead, hGroup, hPass, hFill, hVals, hCache, hPlan⟩ := h
  obtain ⟨r, σ', τ', e1, e2, hq⟩ := ok2 (c_fills hN hList hTerms hCache hPass hPlan)
  obtain ⟨n1, n2, f, g⟩ := hq
  exact ⟨r, σ', τ', e1, e2, ⟨L, nt, T, ⟨hTape.fr f g rfl rfl, hFault.fr f g rfl rfl, hList.fr f g rfl rfl, hTerms.fr f g rfl rfl, hBlocks.fr f g rfl rfl, hFace.fr f g rfl rfl, hRow.fr f g rfl rfl, hRead.fr f g rfl rfl, hGroup.fr f g rfl rfl, hPass.fr f g rfl rfl, hFill.fr f g rfl rfl, hVals.fr f g rfl rfl, n1, n2⟩⟩⟩
theorem r_judge {N : Nat} (hN : 802 < N) {σ τ : St} (h : RelE σ τ) : ∃ r σ' τ', f_X11_judge N σ = some (r, σ') ∧ f_X12_judge N τ = some (r, τ') ∧ RelE σ' τ' := by
  obtain ⟨L, nt, T, hTape, hFault, hList, hTerms, hBlocks, hFace, hRow, hRead, hGroup, hPass, hFill, hVals, hCache, hPlan⟩ := h
  obtain ⟨r, σ', τ', e1, e2, hq⟩ := ok2 (c_judge hN hList hTerms hBlocks hPass)
  obtain ⟨f, g⟩ := hq
  exact ⟨r, σ', τ', e1, e2, ⟨L, nt, T, ⟨hTape.fr f g rfl rfl, hFault.fr f g rfl rfl, hList.fr f g rfl rfl, hTerms.fr f g rfl rfl, hBlocks.fr f g rfl rfl, hFace.fr f g rfl rfl, hRow.fr f g rfl rfl, hRead.fr f g rfl rfl, hGroup.fr f g rfl rfl, hPass.fr f g rfl rfl, hFill.fr f g rfl rfl, hVals.fr f g rfl rfl, hCache.fr f rfl, hPlan.fr f rfl⟩⟩⟩
theorem r_value {N : Nat} (hN : 802 < N) {σ τ : St} (h : RelE σ τ) (x1 x2 x3 : Int32) : ∃ r σ' τ', f_X11_value N x1 x2 x3 σ = some (r, σ') ∧ f_X12_value N x1 x2 x3 τ = some (r, τ') ∧ RelE σ' τ' := by
  obtain ⟨L, nt, T, hTape, hFault, hList, hTerms, hBlocks, hFace, hRow, hRead, hGroup, hPass, hFill, hVals, hCache, hPlan⟩ := h
  obtain ⟨r, σ', τ', e1, e2, hq⟩ := ok2 (c_value hN hTape hList hVals x1 x2 x3)
  obtain ⟨n1, n2, f, g⟩ := hq
  exact ⟨r, σ', τ', e1, e2, ⟨L, nt, T, ⟨n1, hFault.fr f g rfl rfl, hList.fr f g rfl rfl, hTerms.fr f g rfl rfl, hBlocks.fr f g rfl rfl, hFace.fr f g rfl rfl, hRow.fr f g rfl rfl, hRead.fr f g rfl rfl, hGroup.fr f g rfl rfl, hPass.fr f g rfl rfl, hFill.fr f g rfl rfl, n2, hCache.fr f rfl, hPlan.fr f rfl⟩⟩⟩
theorem r_rule {σ τ : St} (h : RelE σ τ) (x1 : Int32) : ∃ r, f_X11_rule x1 σ = some r ∧ f_X12_rule x1 τ = some r := by
  obtain ⟨L, nt, T, hTape, hFault, hList, hTerms, hBlocks, hFace, hRow, hRead, hGroup, hPass, hFill, hVals, hCache, hPlan⟩ := h
  exact c_rule hList x1
theorem r_sign {σ τ : St} (h : RelE σ τ) (x1 x2 : Int32) : ∃ r, f_X11_sign x1 x2 σ = some r ∧ f_X12_sign x1 x2 τ = some r := by
  obtain ⟨L, nt, T, hTape, hFault, hList, hTerms, hBlocks, hFace, hRow, hRead, hGroup, hPass, hFill, hVals, hCache, hPlan⟩ := h
  exact c_sign hList x1 x2
theorem r_block {σ τ : St} (h : RelE σ τ) (x1 x2 : Int32) : ∃ r, f_X11_block x1 x2 σ = some r ∧ f_X12_block x1 x2 τ = some r := by
  obtain ⟨L, nt, T, hTape, hFault, hList, hTerms, hBlocks, hFace, hRow, hRead, hGroup, hPass, hFill, hVals, hCache, hPlan⟩ := h
  exact c_block hList hBlocks x1 x2
theorem r_box {σ τ : St} (h : RelE σ τ) (x1 x2 : Int32) : ∃ r, f_X11_box x1 x2 σ = some r ∧ f_X12_box x1 x2 τ = some r := by
  obtain ⟨L, nt, T, hTape, hFault, hList, hTerms, hBlocks, hFace, hRow, hRead, hGroup, hPass, hFill, hVals, hCache, hPlan⟩ := h
  exact c_box hList hBlocks hFace x1 x2
theorem r_about {σ τ : St} (h : RelE σ τ) (x1 x2 : Int32) : ∃ r, f_X11_about x1 x2 σ = some r ∧ f_X12_about x1 x2 τ = some r := by
  obtain ⟨L, nt, T, hTape, hFault, hList, hTerms, hBlocks, hFace, hRow, hRead, hGroup, hPass, hFill, hVals, hCache, hPlan⟩ := h
  exact c_about hTerms x1 x2
theorem r_written {σ τ : St} (h : RelE σ τ) (x1 : Int32) : ∃ r, f_X11_written x1 σ = some r ∧ f_X12_written x1 τ = some r := by
  obtain ⟨L, nt, T, hTape, hFault, hList, hTerms, hBlocks, hFace, hRow, hRead, hGroup, hPass, hFill, hVals, hCache, hPlan⟩ := h
  exact c_written hRow x1
theorem r_readTerm {σ τ : St} (h : RelE σ τ) (x1 x2 : Int32) : ∃ r, f_X11_readTerm x1 x2 σ = some r ∧ f_X12_readTerm x1 x2 τ = some r := by
  obtain ⟨L, nt, T, hTape, hFault, hList, hTerms, hBlocks, hFace, hRow, hRead, hGroup, hPass, hFill, hVals, hCache, hPlan⟩ := h
  exact c_readTerm hRead x1 x2
theorem r_grouped {σ τ : St} (h : RelE σ τ) (x1 x2 : Int32) : ∃ r, f_X11_grouped x1 x2 σ = some r ∧ f_X12_grouped x1 x2 τ = some r := by
  obtain ⟨L, nt, T, hTape, hFault, hList, hTerms, hBlocks, hFace, hRow, hRead, hGroup, hPass, hFill, hVals, hCache, hPlan⟩ := h
  exact c_grouped hGroup x1 x2
theorem r_filled {σ τ : St} (h : RelE σ τ) (x1 x2 : Int32) : ∃ r, f_X11_filled x1 x2 σ = some r ∧ f_X12_filled x1 x2 τ = some r := by
  obtain ⟨L, nt, T, hTape, hFault, hList, hTerms, hBlocks, hFace, hRow, hRead, hGroup, hPass, hFill, hVals, hCache, hPlan⟩ := h
  exact c_filled hFill x1 x2
theorem r_valueOn {N : Nat} (hN : 802 < N) {σ τ : St} (h : RelE σ τ) (x1 x2 x3 x4 : Int32) : ∃ r, f_X11_valueOn N x1 x2 x3 x4 σ = some r ∧ f_X12_valueOn N x1 x2 x3 x4 τ = some r := by
  obtain ⟨L, nt, T, hTape, hFault, hList, hTerms, hBlocks, hFace, hRow, hRead, hGroup, hPass, hFill, hVals, hCache, hPlan⟩ := h
  exact c_valueOn hN hList hVals x1 x2 x3 x4
theorem r_fault {σ τ : St} (h : RelE σ τ) (x1 : Int32) : f_X11_fault x1 σ = f_X12_fault x1 τ := by
  obtain ⟨L, nt, T, hTape, hFault, hList, hTerms, hBlocks, hFace, hRow, hRead, hGroup, hPass, hFill, hVals, hCache, hPlan⟩ := h
  exact c_fault hFault x1
theorem r_count {σ τ : St} (h : RelE σ τ) (x1 : Int32) : f_X12_count x1 τ = some (f_X11_count x1 σ) := by
  obtain ⟨L, nt, T, hTape, hFault, hList, hTerms, hBlocks, hFace, hRow, hRead, hGroup, hPass, hFill, hVals, hCache, hPlan⟩ := h
  exact c_count hTape hList hTerms hBlocks hRow hPass hVals x1
