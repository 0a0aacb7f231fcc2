section LAWC
variable {p : Program} {l : Launch} {e : Env} {s : State} {m : MethodId} {below : List Frame} {meth : Method} {c : Code} {H : Heap} {locs : List Loc} {cells slots : Nat} {Q : State → Prop}
variable {g : XG} {qx qm : Nat → Nat} {b L i N : Nat} {xs : Nat → Int32} {x3 : Int32} {ls : Array Slot} {σ τ : St}
theorem lw_case_0 (hN : 802 < N) (C : LA g qx qm b L xs p s m c) (w : LWd g qx qm s σ τ H locs) (hR : RelE σ τ) (hi : i + 6 ≤ L) (hL : L ≤ 3072) (hx3 : x3 = nI i) (hl : lv_has ls 4 [(0, .ref b), (1, .ref (qx 0)), (2, .ref (qm 0)), (3, .int x3)]) (hcl : cells ≤ room_1.cells ∧ slots ≤ room_1.slots) (kend : ∀ (σ τ : St) (H : Heap) (locs : List Loc), RelE σ τ → LWd g qx qm s σ τ H locs → W p l e room_1 s m #[Value.ref b] below meth c H locs cells slots Q (F0 m 1052 ls [])) : W p l e room_1 s m #[Value.ref b] below meth c H locs cells slots Q (F0 m 184 ls []) := by
  have hx := C.1
  have hb := C.2.1
  obtain ⟨r, σ', τ', e1, e2, hR⟩ := r_feed hN hR (xs (i + 1)) (xs (i + 2)) (xs (i + 3)) (xs (i + 4)) (xs (i + 5))
  refine lv_aload_n hx hb d_law_184 rfl (lv_at hl 1 rfl) ?_
  refine lsld (k := 1) C w.2.2 hl hi hL hx3 rfl (by omega) d_law_185 d_law_186 d_law_187 d_law_188 d_law_189 ?_
  refine lsld (k := 2) C w.2.2 hl hi hL hx3 rfl (by omega) d_law_190 d_law_191 d_law_192 d_law_193 d_law_194 ?_
  refine lsld (k := 3) C w.2.2 hl hi hL hx3 rfl (by omega) d_law_195 d_law_196 d_law_197 d_law_198 d_law_199 ?_
  refine lsld (k := 4) C w.2.2 hl hi hL hx3 rfl (by omega) d_law_200 d_law_201 d_law_202 d_law_203 d_law_204 ?_
  refine lsld (k := 5) C w.2.2 hl hi hL hx3 rfl (by omega) d_law_205 d_law_206 d_law_207 d_law_208 d_law_209 ?_
  refine lcX (As := [.int (xs (i + 1)), .int (xs (i + 2)), .int (xs (i + 3)), .int (xs (i + 4)), .int (xs (i + 5))]) (rest := []) C w (m_X11_feed N _ _ _ _ _ _ e1) mf_X11_feed mv_X11_feed ml_law_13 ⟨rfl, rfl⟩ ⟨Nat.le_of_ble_eq_true rfl, Nat.le_of_ble_eq_true rfl⟩ hcl rfl hl.1 rfl rfl (Nat.le_of_ble_eq_true rfl) d_law_210 (fun H locs w => ?_)
  refine W.eq (g2 := F0 m 213 ls [.int _]) rfl ?_
  refine lv_aload_n hx hb d_law_213 rfl (lv_at hl 2 rfl) ?_
  refine lsld (k := 1) C w.2.2 hl hi hL hx3 rfl (by omega) d_law_214 d_law_215 d_law_216 d_law_217 d_law_218 ?_
  refine lsld (k := 2) C w.2.2 hl hi hL hx3 rfl (by omega) d_law_219 d_law_220 d_law_221 d_law_222 d_law_223 ?_
  refine lsld (k := 3) C w.2.2 hl hi hL hx3 rfl (by omega) d_law_224 d_law_225 d_law_226 d_law_227 d_law_228 ?_
  refine lsld (k := 4) C w.2.2 hl hi hL hx3 rfl (by omega) d_law_229 d_law_230 d_law_231 d_law_232 d_law_233 ?_
  refine lsld (k := 5) C w.2.2 hl hi hL hx3 rfl (by omega) d_law_234 d_law_235 d_law_236 d_law_237 d_law_238 ?_
  refine lcM (As := [.int (xs (i + 1)), .int (xs (i + 2)), .int (xs (i + 3)), .int (xs (i + 4)), .int (xs (i + 5))]) (rest := [.int _]) C w (m_X12_feed N _ _ _ _ _ _ e2) mf_X12_feed mv_X12_feed ml_law_17 ⟨rfl, rfl⟩ ⟨Nat.le_of_ble_eq_true rfl, Nat.le_of_ble_eq_true rfl⟩ hcl rfl hl.1 rfl rfl (Nat.le_of_ble_eq_true rfl) d_law_239 (fun H locs w => ?_)
  refine W.eq (g2 := F0 m 242 ls [.int _, .int _]) rfl ?_
  exact lv_icmp_eq (tgt := 1052) hx hb d_law_242 (by decide) (fun _ => kend σ' τ' _ _ hR w) (fun h => absurd rfl h)
theorem lw_case_1 (hN : 802 < N) (C : LA g qx qm b L xs p s m c) (w : LWd g qx qm s σ τ H locs) (hR : RelE σ τ) (hi : i + 6 ≤ L) (hL : L ≤ 3072) (hx3 : x3 = nI i) (hl : lv_has ls 4 [(0, .ref b), (1, .ref (qx 0)), (2, .ref (qm 0)), (3, .int x3)]) (hcl : cells ≤ room_1.cells ∧ slots ≤ room_1.slots) (kend : ∀ (σ τ : St) (H : Heap) (locs : List Loc), RelE σ τ → LWd g qx qm s σ τ H locs → W p l e room_1 s m #[Value.ref b] below meth c H locs cells slots Q (F0 m 1052 ls [])) : W p l e room_1 s m #[Value.ref b] below meth c H locs cells slots Q (F0 m 247 ls []) := by
  have hx := C.1
  have hb := C.2.1
  obtain ⟨r, σ', τ', e1, e2, hR⟩ := r_end hR (xs (i + 1))
  refine lv_aload_n hx hb d_law_247 rfl (lv_at hl 1 rfl) ?_
  refine lsld (k := 1) C w.2.2 hl hi hL hx3 rfl (by omega) d_law_248 d_law_249 d_law_250 d_law_251 d_law_252 ?_
  refine lcX (As := [.int (xs (i + 1))]) (rest := []) C w (m_X11_end _ _ e1) mf_X11_end mv_X11_end ml_law_18 ⟨rfl, rfl⟩ ⟨Nat.le_of_ble_eq_true rfl, Nat.le_of_ble_eq_true rfl⟩ hcl rfl hl.1 rfl rfl (Nat.le_of_ble_eq_true rfl) d_law_253 (fun H locs w => ?_)
  refine W.eq (g2 := F0 m 256 ls [.int _]) rfl ?_
  refine lv_aload_n hx hb d_law_256 rfl (lv_at hl 2 rfl) ?_
  refine lsld (k := 1) C w.2.2 hl hi hL hx3 rfl (by omega) d_law_257 d_law_258 d_law_259 d_law_260 d_law_261 ?_
  refine lcM (As := [.int (xs (i + 1))]) (rest := [.int _]) C w (m_X12_end _ _ e2) mf_X12_end mv_X12_end ml_law_22 ⟨rfl, rfl⟩ ⟨Nat.le_of_ble_eq_true rfl, Nat.le_of_ble_eq_true rfl⟩ hcl rfl hl.1 rfl rfl (Nat.le_of_ble_eq_true rfl) d_law_262 (fun H locs w => ?_)
  refine W.eq (g2 := F0 m 265 ls [.int _, .int _]) rfl ?_
  exact lv_icmp_eq (tgt := 1052) hx hb d_law_265 (by decide) (fun _ => kend σ' τ' _ _ hR w) (fun h => absurd rfl h)
theorem lw_case_2 (hN : 802 < N) (C : LA g qx qm b L xs p s m c) (w : LWd g qx qm s σ τ H locs) (hR : RelE σ τ) (hi : i + 6 ≤ L) (hL : L ≤ 3072) (hx3 : x3 = nI i) (hl : lv_has ls 4 [(0, .ref b), (1, .ref (qx 0)), (2, .ref (qm 0)), (3, .int x3)]) (hcl : cells ≤ room_1.cells ∧ slots ≤ room_1.slots) (kend : ∀ (σ τ : St) (H : Heap) (locs : List Loc), RelE σ τ → LWd g qx qm s σ τ H locs → W p l e room_1 s m #[Value.ref b] below meth c H locs cells slots Q (F0 m 1052 ls [])) : W p l e room_1 s m #[Value.ref b] below meth c H locs cells slots Q (F0 m 270 ls []) := by
  have hx := C.1
  have hb := C.2.1
  obtain ⟨r, σ', τ', e1, e2, hR⟩ := r_list hN hR
  refine lv_aload_n hx hb d_law_270 rfl (lv_at hl 1 rfl) ?_
  refine lcX (As := []) (rest := []) C w (m_X11_list N _ e1) mf_X11_list mv_X11_list ml_law_23 ⟨rfl, rfl⟩ ⟨Nat.le_of_ble_eq_true rfl, Nat.le_of_ble_eq_true rfl⟩ hcl rfl hl.1 rfl rfl (Nat.le_of_ble_eq_true rfl) d_law_271 (fun H locs w => ?_)
  refine W.eq (g2 := F0 m 274 ls [.int _]) rfl ?_
  refine lv_aload_n hx hb d_law_274 rfl (lv_at hl 2 rfl) ?_
  refine lcM (As := []) (rest := [.int _]) C w (m_X12_list N _ e2) mf_X12_list mv_X12_list ml_law_27 ⟨rfl, rfl⟩ ⟨Nat.le_of_ble_eq_true rfl, Nat.le_of_ble_eq_true rfl⟩ hcl rfl hl.1 rfl rfl (Nat.le_of_ble_eq_true rfl) d_law_275 (fun H locs w => ?_)
  refine W.eq (g2 := F0 m 278 ls [.int _, .int _]) rfl ?_
  exact lv_icmp_eq (tgt := 1052) hx hb d_law_278 (by decide) (fun _ => kend σ' τ' _ _ hR w) (fun h => absurd rfl h)
theorem lw_case_3 (hN : 802 < N) (C : LA g qx qm b L xs p s m c) (w : LWd g qx qm s σ τ H locs) (hR : RelE σ τ) (hi : i + 6 ≤ L) (hL : L ≤ 3072) (hx3 : x3 = nI i) (hl : lv_has ls 4 [(0, .ref b), (1, .ref (qx 0)), (2, .ref (qm 0)), (3, .int x3)]) (hcl : cells ≤ room_1.cells ∧ slots ≤ room_1.slots) (kend : ∀ (σ τ : St) (H : Heap) (locs : List Loc), RelE σ τ → LWd g qx qm s σ τ H locs → W p l e room_1 s m #[Value.ref b] below meth c H locs cells slots Q (F0 m 1052 ls [])) : W p l e room_1 s m #[Value.ref b] below meth c H locs cells slots Q (F0 m 283 ls []) := by
  have hx := C.1
  have hb := C.2.1
  have e2 := (r_fault hR (xs (i + 1))).symm
  refine lv_aload_n hx hb d_law_283 rfl (lv_at hl 1 rfl) ?_
  refine lsld (k := 1) C w.2.2 hl hi hL hx3 rfl (by omega) d_law_284 d_law_285 d_law_286 d_law_287 d_law_288 ?_
  refine lcX (As := [.int (xs (i + 1))]) (rest := []) C w (m_X11_fault _ _ rfl) mf_X11_fault mv_X11_fault ml_law_28 ⟨rfl, rfl⟩ ⟨Nat.le_of_ble_eq_true rfl, Nat.le_of_ble_eq_true rfl⟩ hcl rfl hl.1 rfl rfl (Nat.le_of_ble_eq_true rfl) d_law_289 (fun H locs w => ?_)
  refine W.eq (g2 := F0 m 292 ls [.int _]) rfl ?_
  refine lv_aload_n hx hb d_law_292 rfl (lv_at hl 2 rfl) ?_
  refine lsld (k := 1) C w.2.2 hl hi hL hx3 rfl (by omega) d_law_293 d_law_294 d_law_295 d_law_296 d_law_297 ?_
  refine lcM (As := [.int (xs (i + 1))]) (rest := [.int _]) C w (m_X12_fault _ _ e2) mf_X12_fault mv_X12_fault ml_law_31 ⟨rfl, rfl⟩ ⟨Nat.le_of_ble_eq_true rfl, Nat.le_of_ble_eq_true rfl⟩ hcl rfl hl.1 rfl rfl (Nat.le_of_ble_eq_true rfl) d_law_298 (fun H locs w => ?_)
  refine W.eq (g2 := F0 m 301 ls [.int _, .int _]) rfl ?_
  exact lv_icmp_eq (tgt := 1052) hx hb d_law_301 (by decide) (fun _ => kend σ τ _ _ hR w) (fun h => absurd rfl h)
theorem lw_case_4 (hN : 802 < N) (C : LA g qx qm b L xs p s m c) (w : LWd g qx qm s σ τ H locs) (hR : RelE σ τ) (hi : i + 6 ≤ L) (hL : L ≤ 3072) (hx3 : x3 = nI i) (hl : lv_has ls 4 [(0, .ref b), (1, .ref (qx 0)), (2, .ref (qm 0)), (3, .int x3)]) (hcl : cells ≤ room_1.cells ∧ slots ≤ room_1.slots) (kend : ∀ (σ τ : St) (H : Heap) (locs : List Loc), RelE σ τ → LWd g qx qm s σ τ H locs → W p l e room_1 s m #[Value.ref b] below meth c H locs cells slots Q (F0 m 1052 ls [])) : W p l e room_1 s m #[Value.ref b] below meth c H locs cells slots Q (F0 m 306 ls []) := by
  have hx := C.1
  have hb := C.2.1
  obtain ⟨r, e1, e2⟩ := r_rule hR (xs (i + 1))
  refine lv_aload_n hx hb d_law_306 rfl (lv_at hl 1 rfl) ?_
  refine lsld (k := 1) C w.2.2 hl hi hL hx3 rfl (by omega) d_law_307 d_law_308 d_law_309 d_law_310 d_law_311 ?_
  refine lcX (As := [.int (xs (i + 1))]) (rest := []) C w (m_X11_rule _ _ e1) mf_X11_rule mv_X11_rule ml_law_32 ⟨rfl, rfl⟩ ⟨Nat.le_of_ble_eq_true rfl, Nat.le_of_ble_eq_true rfl⟩ hcl rfl hl.1 rfl rfl (Nat.le_of_ble_eq_true rfl) d_law_312 (fun H locs w => ?_)
  refine W.eq (g2 := F0 m 315 ls [.int _]) rfl ?_
  refine lv_aload_n hx hb d_law_315 rfl (lv_at hl 2 rfl) ?_
  refine lsld (k := 1) C w.2.2 hl hi hL hx3 rfl (by omega) d_law_316 d_law_317 d_law_318 d_law_319 d_law_320 ?_
  refine lcM (As := [.int (xs (i + 1))]) (rest := [.int _]) C w (m_X12_rule _ _ e2) mf_X12_rule mv_X12_rule ml_law_35 ⟨rfl, rfl⟩ ⟨Nat.le_of_ble_eq_true rfl, Nat.le_of_ble_eq_true rfl⟩ hcl rfl hl.1 rfl rfl (Nat.le_of_ble_eq_true rfl) d_law_321 (fun H locs w => ?_)
  refine W.eq (g2 := F0 m 324 ls [.int _, .int _]) rfl ?_
  exact lv_icmp_eq (tgt := 1052) hx hb d_law_324 (by decide) (fun _ => kend σ τ _ _ hR w) (fun h => absurd rfl h)
theorem lw_case_5 (hN : 802 < N) (C : LA g qx qm b L xs p s m c) (w : LWd g qx qm s σ τ H locs) (hR : RelE σ τ) (hi : i + 6 ≤ L) (hL : L ≤ 3072) (hx3 : x3 = nI i) (hl : lv_has ls 4 [(0, .ref b), (1, .ref (qx 0)), (2, .ref (qm 0)), (3, .int x3)]) (hcl : cells ≤ room_1.cells ∧ slots ≤ room_1.slots) (kend : ∀ (σ τ : St) (H : Heap) (locs : List Loc), RelE σ τ → LWd g qx qm s σ τ H locs → W p l e room_1 s m #[Value.ref b] below meth c H locs cells slots Q (F0 m 1052 ls [])) : W p l e room_1 s m #[Value.ref b] below meth c H locs cells slots Q (F0 m 329 ls []) := by
  have hx := C.1
  have hb := C.2.1
  obtain ⟨r, e1, e2⟩ := r_sign hR (xs (i + 1)) (xs (i + 2))
  refine lv_aload_n hx hb d_law_329 rfl (lv_at hl 1 rfl) ?_
  refine lsld (k := 1) C w.2.2 hl hi hL hx3 rfl (by omega) d_law_330 d_law_331 d_law_332 d_law_333 d_law_334 ?_
  refine lsld (k := 2) C w.2.2 hl hi hL hx3 rfl (by omega) d_law_335 d_law_336 d_law_337 d_law_338 d_law_339 ?_
  refine lcX (As := [.int (xs (i + 1)), .int (xs (i + 2))]) (rest := []) C w (m_X11_sign _ _ _ e1) mf_X11_sign mv_X11_sign ml_law_36 ⟨rfl, rfl⟩ ⟨Nat.le_of_ble_eq_true rfl, Nat.le_of_ble_eq_true rfl⟩ hcl rfl hl.1 rfl rfl (Nat.le_of_ble_eq_true rfl) d_law_340 (fun H locs w => ?_)
  refine W.eq (g2 := F0 m 343 ls [.int _]) rfl ?_
  refine lv_aload_n hx hb d_law_343 rfl (lv_at hl 2 rfl) ?_
  refine lsld (k := 1) C w.2.2 hl hi hL hx3 rfl (by omega) d_law_344 d_law_345 d_law_346 d_law_347 d_law_348 ?_
  refine lsld (k := 2) C w.2.2 hl hi hL hx3 rfl (by omega) d_law_349 d_law_350 d_law_351 d_law_352 d_law_353 ?_
  refine lcM (As := [.int (xs (i + 1)), .int (xs (i + 2))]) (rest := [.int _]) C w (m_X12_sign _ _ _ e2) mf_X12_sign mv_X12_sign ml_law_40 ⟨rfl, rfl⟩ ⟨Nat.le_of_ble_eq_true rfl, Nat.le_of_ble_eq_true rfl⟩ hcl rfl hl.1 rfl rfl (Nat.le_of_ble_eq_true rfl) d_law_354 (fun H locs w => ?_)
  refine W.eq (g2 := F0 m 357 ls [.int _, .int _]) rfl ?_
  exact lv_icmp_eq (tgt := 1052) hx hb d_law_357 (by decide) (fun _ => kend σ τ _ _ hR w) (fun h => absurd rfl h)
theorem lw_case_6 (hN : 802 < N) (C : LA g qx qm b L xs p s m c) (w : LWd g qx qm s σ τ H locs) (hR : RelE σ τ) (hi : i + 6 ≤ L) (hL : L ≤ 3072) (hx3 : x3 = nI i) (hl : lv_has ls 4 [(0, .ref b), (1, .ref (qx 0)), (2, .ref (qm 0)), (3, .int x3)]) (hcl : cells ≤ room_1.cells ∧ slots ≤ room_1.slots) (kend : ∀ (σ τ : St) (H : Heap) (locs : List Loc), RelE σ τ → LWd g qx qm s σ τ H locs → W p l e room_1 s m #[Value.ref b] below meth c H locs cells slots Q (F0 m 1052 ls [])) : W p l e room_1 s m #[Value.ref b] below meth c H locs cells slots Q (F0 m 362 ls []) := by
  have hx := C.1
  have hb := C.2.1
  obtain ⟨r, σ', τ', e1, e2, hR⟩ := r_named hN hR
  refine lv_aload_n hx hb d_law_362 rfl (lv_at hl 1 rfl) ?_
  refine lcX (As := []) (rest := []) C w (m_X11_named N _ e1) mf_X11_named mv_X11_named ml_law_41 ⟨rfl, rfl⟩ ⟨Nat.le_of_ble_eq_true rfl, Nat.le_of_ble_eq_true rfl⟩ hcl rfl hl.1 rfl rfl (Nat.le_of_ble_eq_true rfl) d_law_363 (fun H locs w => ?_)
  refine W.eq (g2 := F0 m 366 ls [.int _]) rfl ?_
  refine lv_aload_n hx hb d_law_366 rfl (lv_at hl 2 rfl) ?_
  refine lcM (As := []) (rest := [.int _]) C w (m_X12_named N _ e2) mf_X12_named mv_X12_named ml_law_44 ⟨rfl, rfl⟩ ⟨Nat.le_of_ble_eq_true rfl, Nat.le_of_ble_eq_true rfl⟩ hcl rfl hl.1 rfl rfl (Nat.le_of_ble_eq_true rfl) d_law_367 (fun H locs w => ?_)
  refine W.eq (g2 := F0 m 370 ls [.int _, .int _]) rfl ?_
  exact lv_icmp_eq (tgt := 1052) hx hb d_law_370 (by decide) (fun _ => kend σ' τ' _ _ hR w) (fun h => absurd rfl h)
theorem lw_case_7 (hN : 802 < N) (C : LA g qx qm b L xs p s m c) (w : LWd g qx qm s σ τ H locs) (hR : RelE σ τ) (hi : i + 6 ≤ L) (hL : L ≤ 3072) (hx3 : x3 = nI i) (hl : lv_has ls 4 [(0, .ref b), (1, .ref (qx 0)), (2, .ref (qm 0)), (3, .int x3)]) (hcl : cells ≤ room_1.cells ∧ slots ≤ room_1.slots) (kend : ∀ (σ τ : St) (H : Heap) (locs : List Loc), RelE σ τ → LWd g qx qm s σ τ H locs → W p l e room_1 s m #[Value.ref b] below meth c H locs cells slots Q (F0 m 1052 ls [])) : W p l e room_1 s m #[Value.ref b] below meth c H locs cells slots Q (F0 m 375 ls []) := by
  have hx := C.1
  have hb := C.2.1
  obtain ⟨r, σ', τ', e1, e2, hR⟩ := r_blocks hN hR
  refine lv_aload_n hx hb d_law_375 rfl (lv_at hl 1 rfl) ?_
  refine lcX (As := []) (rest := []) C w (m_X11_blocks N _ e1) mf_X11_blocks mv_X11_blocks ml_law_45 ⟨rfl, rfl⟩ ⟨Nat.le_of_ble_eq_true rfl, Nat.le_of_ble_eq_true rfl⟩ hcl rfl hl.1 rfl rfl (Nat.le_of_ble_eq_true rfl) d_law_376 (fun H locs w => ?_)
  refine W.eq (g2 := F0 m 379 ls [.int _]) rfl ?_
  refine lv_aload_n hx hb d_law_379 rfl (lv_at hl 2 rfl) ?_
  refine lcM (As := []) (rest := [.int _]) C w (m_X12_blocks N _ e2) mf_X12_blocks mv_X12_blocks ml_law_48 ⟨rfl, rfl⟩ ⟨Nat.le_of_ble_eq_true rfl, Nat.le_of_ble_eq_true rfl⟩ hcl rfl hl.1 rfl rfl (Nat.le_of_ble_eq_true rfl) d_law_380 (fun H locs w => ?_)
  refine W.eq (g2 := F0 m 383 ls [.int _, .int _]) rfl ?_
  exact lv_icmp_eq (tgt := 1052) hx hb d_law_383 (by decide) (fun _ => kend σ' τ' _ _ hR w) (fun h => absurd rfl h)
theorem lw_case_8 (hN : 802 < N) (C : LA g qx qm b L xs p s m c) (w : LWd g qx qm s σ τ H locs) (hR : RelE σ τ) (hi : i + 6 ≤ L) (hL : L ≤ 3072) (hx3 : x3 = nI i) (hl : lv_has ls 4 [(0, .ref b), (1, .ref (qx 0)), (2, .ref (qm 0)), (3, .int x3)]) (hcl : cells ≤ room_1.cells ∧ slots ≤ room_1.slots) (kend : ∀ (σ τ : St) (H : Heap) (locs : List Loc), RelE σ τ → LWd g qx qm s σ τ H locs → W p l e room_1 s m #[Value.ref b] below meth c H locs cells slots Q (F0 m 1052 ls [])) : W p l e room_1 s m #[Value.ref b] below meth c H locs cells slots Q (F0 m 388 ls []) := by
  have hx := C.1
  have hb := C.2.1
  obtain ⟨r, e1, e2⟩ := r_block hR (xs (i + 1)) (xs (i + 2))
  refine lv_aload_n hx hb d_law_388 rfl (lv_at hl 1 rfl) ?_
  refine lsld (k := 1) C w.2.2 hl hi hL hx3 rfl (by omega) d_law_389 d_law_390 d_law_391 d_law_392 d_law_393 ?_
  refine lsld (k := 2) C w.2.2 hl hi hL hx3 rfl (by omega) d_law_394 d_law_395 d_law_396 d_law_397 d_law_398 ?_
  refine lcX (As := [.int (xs (i + 1)), .int (xs (i + 2))]) (rest := []) C w (m_X11_block _ _ _ e1) mf_X11_block mv_X11_block ml_law_49 ⟨rfl, rfl⟩ ⟨Nat.le_of_ble_eq_true rfl, Nat.le_of_ble_eq_true rfl⟩ hcl rfl hl.1 rfl rfl (Nat.le_of_ble_eq_true rfl) d_law_399 (fun H locs w => ?_)
  refine W.eq (g2 := F0 m 402 ls [.int _]) rfl ?_
  refine lv_aload_n hx hb d_law_402 rfl (lv_at hl 2 rfl) ?_
  refine lsld (k := 1) C w.2.2 hl hi hL hx3 rfl (by omega) d_law_403 d_law_404 d_law_405 d_law_406 d_law_407 ?_
  refine lsld (k := 2) C w.2.2 hl hi hL hx3 rfl (by omega) d_law_408 d_law_409 d_law_410 d_law_411 d_law_412 ?_
  refine lcM (As := [.int (xs (i + 1)), .int (xs (i + 2))]) (rest := [.int _]) C w (m_X12_block _ _ _ e2) mf_X12_block mv_X12_block ml_law_52 ⟨rfl, rfl⟩ ⟨Nat.le_of_ble_eq_true rfl, Nat.le_of_ble_eq_true rfl⟩ hcl rfl hl.1 rfl rfl (Nat.le_of_ble_eq_true rfl) d_law_413 (fun H locs w => ?_)
  refine W.eq (g2 := F0 m 416 ls [.int _, .int _]) rfl ?_
  exact lv_icmp_eq (tgt := 1052) hx hb d_law_416 (by decide) (fun _ => kend σ τ _ _ hR w) (fun h => absurd rfl h)
end LAWC
