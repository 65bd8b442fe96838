/-! the law, a case a row (by program: wip/whole/gen_law.py) -/
set_option maxHeartbeats 4000000 in
theorem law_c0 {p : Program} {l : Launch} {e : Env} {s : State} {m : MethodId} {b L : Nat} {xs : Nat → Int32} {below : List Frame} {meth : Method} {c : Code} {D : va_G} {ad : Nat → Nat} {cs : Nat → ClassId} (C : Cy p s m meth c b L xs D ad cs) {F : Nat} (hF : FB ≤ F) {M1 M2 : Mem} (hR : Rel M1 M2) {x3 : Int32} (h1 : vp_in (x3 + 1) L) (h2 : vp_in (x3 + 2) L) (h3 : vp_in (x3 + 3) L) (h4 : vp_in (x3 + 4) L) (h5 : vp_in (x3 + 5) L) (K : ∀ N1 N2, Rel N1 N2 → Y p l e s m b below meth c D ad cs N1 N2 1386 [(0, .ref b), (1, .ref (ad 0)), (2, .ref (ad 100)), (3, .int x3)] []) : Y p l e s m b below meth c D ad cs M1 M2 228 [(0, .ref b), (1, .ref (ad 0)), (2, .ref (ad 100)), (3, .int x3)] [] := by
  obtain ⟨r, M1', M2', hf1, hf2, hR2⟩ := op_row hF M1 M2 (xs (x3 + 1).toNatClampNeg) (xs (x3 + 2).toNatClampNeg) hR
  refine y_aload_n C d_law_228 1 rfl ?_
  refine y_aload_n C d_law_229 0 rfl ?_
  refine y_iload_n C d_law_230 3 rfl ?_
  refine y_iconst (v := 1) C d_law_231 rfl ?_
  refine y_iadd C d_law_232 ?_
  refine y_sld C h1 d_law_233 ?_
  refine y_aload_n C d_law_234 0 rfl ?_
  refine y_iload_n C d_law_235 3 rfl ?_
  refine y_iconst (v := 2) C d_law_236 rfl ?_
  refine y_iadd C d_law_237 ?_
  refine y_sld C h2 d_law_238 ?_
  refine y_callX (rest := []) (V' := some (.int r)) (M1' := M1') (n := 2) C (ct_K_row C.2.2.2.2.2.2.2.2.2.2.2.1.1 F M1 (xs (x3 + 1).toNatClampNeg) (xs (x3 + 2).toNatClampNeg) (r, M1') hf1) mi_K_row (by decide) mc_0 ⟨_, cel_K kc_0⟩ rfl rfl wL_L_13 d_law_239 rfl rfl (Nat.le_of_ble_eq_true rfl) ?_
  show Y _ _ _ _ _ _ _ _ _ _ _ _ _ _ _ _ [.int r]
  refine y_aload_n C d_law_242 2 rfl ?_
  refine y_aload_n C d_law_243 0 rfl ?_
  refine y_iload_n C d_law_244 3 rfl ?_
  refine y_iconst (v := 1) C d_law_245 rfl ?_
  refine y_iadd C d_law_246 ?_
  refine y_sld C h1 d_law_247 ?_
  refine y_aload_n C d_law_248 0 rfl ?_
  refine y_iload_n C d_law_249 3 rfl ?_
  refine y_iconst (v := 2) C d_law_250 rfl ?_
  refine y_iadd C d_law_251 ?_
  refine y_sld C h2 d_law_252 ?_
  refine y_callM (rest := [.int r]) (V' := some (.int r)) (M2' := M2') (n := 2) C (ct_M_row C.2.2.2.2.2.2.2.2.2.2.2.1.2 F M2 (xs (x3 + 1).toNatClampNeg) (xs (x3 + 2).toNatClampNeg) (r, M2') hf2) mi_M_row (by decide) mc_100 ⟨_, cel_M kc_100⟩ rfl rfl wL_L_17 d_law_253 rfl rfl (Nat.le_of_ble_eq_true rfl) ?_
  show Y _ _ _ _ _ _ _ _ _ _ _ _ _ _ _ _ [.int r, .int r]
  refine y_icmp_eqT C 1386 d_law_256 (by decide) rfl ?_
  exact K M1' M2' hR2
set_option maxHeartbeats 4000000 in
theorem law_c1 {p : Program} {l : Launch} {e : Env} {s : State} {m : MethodId} {b L : Nat} {xs : Nat → Int32} {below : List Frame} {meth : Method} {c : Code} {D : va_G} {ad : Nat → Nat} {cs : Nat → ClassId} (C : Cy p s m meth c b L xs D ad cs) {F : Nat} (hF : FB ≤ F) {M1 M2 : Mem} (hR : Rel M1 M2) {x3 : Int32} (h1 : vp_in (x3 + 1) L) (h2 : vp_in (x3 + 2) L) (h3 : vp_in (x3 + 3) L) (h4 : vp_in (x3 + 4) L) (h5 : vp_in (x3 + 5) L) (K : ∀ N1 N2, Rel N1 N2 → Y p l e s m b below meth c D ad cs N1 N2 1386 [(0, .ref b), (1, .ref (ad 0)), (2, .ref (ad 100)), (3, .int x3)] []) : Y p l e s m b below meth c D ad cs M1 M2 261 [(0, .ref b), (1, .ref (ad 0)), (2, .ref (ad 100)), (3, .int x3)] [] := by
  obtain ⟨r, M1', M2', hf1, hf2, hR2⟩ := op_lay hF M1 M2 (xs (x3 + 1).toNatClampNeg) (xs (x3 + 2).toNatClampNeg) (xs (x3 + 3).toNatClampNeg) hR
  refine y_aload_n C d_law_261 1 rfl ?_
  refine y_aload_n C d_law_262 0 rfl ?_
  refine y_iload_n C d_law_263 3 rfl ?_
  refine y_iconst (v := 1) C d_law_264 rfl ?_
  refine y_iadd C d_law_265 ?_
  refine y_sld C h1 d_law_266 ?_
  refine y_aload_n C d_law_267 0 rfl ?_
  refine y_iload_n C d_law_268 3 rfl ?_
  refine y_iconst (v := 2) C d_law_269 rfl ?_
  refine y_iadd C d_law_270 ?_
  refine y_sld C h2 d_law_271 ?_
  refine y_aload_n C d_law_272 0 rfl ?_
  refine y_iload_n C d_law_273 3 rfl ?_
  refine y_iconst (v := 3) C d_law_274 rfl ?_
  refine y_iadd C d_law_275 ?_
  refine y_sld C h3 d_law_276 ?_
  refine y_callX (rest := []) (V' := some (.int r)) (M1' := M1') (n := 3) C (ct_K_lay C.2.2.2.2.2.2.2.2.2.2.2.1.1 F M1 (xs (x3 + 1).toNatClampNeg) (xs (x3 + 2).toNatClampNeg) (xs (x3 + 3).toNatClampNeg) (r, M1') hf1) mi_K_lay (by decide) mc_0 ⟨_, cel_K kc_0⟩ rfl rfl wL_L_18 d_law_277 rfl rfl (Nat.le_of_ble_eq_true rfl) ?_
  show Y _ _ _ _ _ _ _ _ _ _ _ _ _ _ _ _ [.int r]
  refine y_aload_n C d_law_280 2 rfl ?_
  refine y_aload_n C d_law_281 0 rfl ?_
  refine y_iload_n C d_law_282 3 rfl ?_
  refine y_iconst (v := 1) C d_law_283 rfl ?_
  refine y_iadd C d_law_284 ?_
  refine y_sld C h1 d_law_285 ?_
  refine y_aload_n C d_law_286 0 rfl ?_
  refine y_iload_n C d_law_287 3 rfl ?_
  refine y_iconst (v := 2) C d_law_288 rfl ?_
  refine y_iadd C d_law_289 ?_
  refine y_sld C h2 d_law_290 ?_
  refine y_aload_n C d_law_291 0 rfl ?_
  refine y_iload_n C d_law_292 3 rfl ?_
  refine y_iconst (v := 3) C d_law_293 rfl ?_
  refine y_iadd C d_law_294 ?_
  refine y_sld C h3 d_law_295 ?_
  refine y_callM (rest := [.int r]) (V' := some (.int r)) (M2' := M2') (n := 3) C (ct_M_lay C.2.2.2.2.2.2.2.2.2.2.2.1.2 F M2 (xs (x3 + 1).toNatClampNeg) (xs (x3 + 2).toNatClampNeg) (xs (x3 + 3).toNatClampNeg) (r, M2') hf2) mi_M_lay (by decide) mc_100 ⟨_, cel_M kc_100⟩ rfl rfl wL_L_22 d_law_296 rfl rfl (Nat.le_of_ble_eq_true rfl) ?_
  show Y _ _ _ _ _ _ _ _ _ _ _ _ _ _ _ _ [.int r, .int r]
  refine y_icmp_eqT C 1386 d_law_299 (by decide) rfl ?_
  exact K M1' M2' hR2
set_option maxHeartbeats 4000000 in
theorem law_c2 {p : Program} {l : Launch} {e : Env} {s : State} {m : MethodId} {b L : Nat} {xs : Nat → Int32} {below : List Frame} {meth : Method} {c : Code} {D : va_G} {ad : Nat → Nat} {cs : Nat → ClassId} (C : Cy p s m meth c b L xs D ad cs) {F : Nat} (hF : FB ≤ F) {M1 M2 : Mem} (hR : Rel M1 M2) {x3 : Int32} (h1 : vp_in (x3 + 1) L) (h2 : vp_in (x3 + 2) L) (h3 : vp_in (x3 + 3) L) (h4 : vp_in (x3 + 4) L) (h5 : vp_in (x3 + 5) L) (K : ∀ N1 N2, Rel N1 N2 → Y p l e s m b below meth c D ad cs N1 N2 1386 [(0, .ref b), (1, .ref (ad 0)), (2, .ref (ad 100)), (3, .int x3)] []) : Y p l e s m b below meth c D ad cs M1 M2 304 [(0, .ref b), (1, .ref (ad 0)), (2, .ref (ad 100)), (3, .int x3)] [] := by
  obtain ⟨r, M1', M2', hf1, hf2, hR2⟩ := op_at hF M1 M2 (xs (x3 + 1).toNatClampNeg) (xs (x3 + 2).toNatClampNeg) hR
  refine y_aload_n C d_law_304 1 rfl ?_
  refine y_aload_n C d_law_305 0 rfl ?_
  refine y_iload_n C d_law_306 3 rfl ?_
  refine y_iconst (v := 1) C d_law_307 rfl ?_
  refine y_iadd C d_law_308 ?_
  refine y_sld C h1 d_law_309 ?_
  refine y_aload_n C d_law_310 0 rfl ?_
  refine y_iload_n C d_law_311 3 rfl ?_
  refine y_iconst (v := 2) C d_law_312 rfl ?_
  refine y_iadd C d_law_313 ?_
  refine y_sld C h2 d_law_314 ?_
  refine y_callX (rest := []) (V' := some (.int r)) (M1' := M1') (n := 2) C (ct_K_at C.2.2.2.2.2.2.2.2.2.2.2.1.1 F M1 (xs (x3 + 1).toNatClampNeg) (xs (x3 + 2).toNatClampNeg) (r, M1') hf1) mi_K_at (by decide) mc_0 ⟨_, cel_K kc_0⟩ rfl rfl wL_L_23 d_law_315 rfl rfl (Nat.le_of_ble_eq_true rfl) ?_
  show Y _ _ _ _ _ _ _ _ _ _ _ _ _ _ _ _ [.int r]
  refine y_aload_n C d_law_318 2 rfl ?_
  refine y_aload_n C d_law_319 0 rfl ?_
  refine y_iload_n C d_law_320 3 rfl ?_
  refine y_iconst (v := 1) C d_law_321 rfl ?_
  refine y_iadd C d_law_322 ?_
  refine y_sld C h1 d_law_323 ?_
  refine y_aload_n C d_law_324 0 rfl ?_
  refine y_iload_n C d_law_325 3 rfl ?_
  refine y_iconst (v := 2) C d_law_326 rfl ?_
  refine y_iadd C d_law_327 ?_
  refine y_sld C h2 d_law_328 ?_
  refine y_callM (rest := [.int r]) (V' := some (.int r)) (M2' := M2') (n := 2) C (ct_M_at C.2.2.2.2.2.2.2.2.2.2.2.1.2 F M2 (xs (x3 + 1).toNatClampNeg) (xs (x3 + 2).toNatClampNeg) (r, M2') hf2) mi_M_at (by decide) mc_100 ⟨_, cel_M kc_100⟩ rfl rfl wL_L_26 d_law_329 rfl rfl (Nat.le_of_ble_eq_true rfl) ?_
  show Y _ _ _ _ _ _ _ _ _ _ _ _ _ _ _ _ [.int r, .int r]
  refine y_icmp_eqT C 1386 d_law_332 (by decide) rfl ?_
  exact K M1' M2' hR2
set_option maxHeartbeats 4000000 in
theorem law_c3 {p : Program} {l : Launch} {e : Env} {s : State} {m : MethodId} {b L : Nat} {xs : Nat → Int32} {below : List Frame} {meth : Method} {c : Code} {D : va_G} {ad : Nat → Nat} {cs : Nat → ClassId} (C : Cy p s m meth c b L xs D ad cs) {F : Nat} (hF : FB ≤ F) {M1 M2 : Mem} (hR : Rel M1 M2) {x3 : Int32} (h1 : vp_in (x3 + 1) L) (h2 : vp_in (x3 + 2) L) (h3 : vp_in (x3 + 3) L) (h4 : vp_in (x3 + 4) L) (h5 : vp_in (x3 + 5) L) (K : ∀ N1 N2, Rel N1 N2 → Y p l e s m b below meth c D ad cs N1 N2 1386 [(0, .ref b), (1, .ref (ad 0)), (2, .ref (ad 100)), (3, .int x3)] []) : Y p l e s m b below meth c D ad cs M1 M2 337 [(0, .ref b), (1, .ref (ad 0)), (2, .ref (ad 100)), (3, .int x3)] [] := by
  obtain ⟨r, M1', M2', hf1, hf2, hR2⟩ := op_tear hF M1 M2 (xs (x3 + 1).toNatClampNeg) hR
  refine y_aload_n C d_law_337 1 rfl ?_
  refine y_aload_n C d_law_338 0 rfl ?_
  refine y_iload_n C d_law_339 3 rfl ?_
  refine y_iconst (v := 1) C d_law_340 rfl ?_
  refine y_iadd C d_law_341 ?_
  refine y_sld C h1 d_law_342 ?_
  refine y_callX (rest := []) (V' := some (.int r)) (M1' := M1') (n := 1) C (ct_K_tear C.2.2.2.2.2.2.2.2.2.2.2.1.1 F M1 (xs (x3 + 1).toNatClampNeg) (r, M1') hf1) mi_K_tear (by decide) mc_0 ⟨_, cel_K kc_0⟩ rfl rfl wL_L_27 d_law_343 rfl rfl (Nat.le_of_ble_eq_true rfl) ?_
  show Y _ _ _ _ _ _ _ _ _ _ _ _ _ _ _ _ [.int r]
  refine y_aload_n C d_law_346 2 rfl ?_
  refine y_aload_n C d_law_347 0 rfl ?_
  refine y_iload_n C d_law_348 3 rfl ?_
  refine y_iconst (v := 1) C d_law_349 rfl ?_
  refine y_iadd C d_law_350 ?_
  refine y_sld C h1 d_law_351 ?_
  refine y_callM (rest := [.int r]) (V' := some (.int r)) (M2' := M2') (n := 1) C (ct_M_tear C.2.2.2.2.2.2.2.2.2.2.2.1.2 F M2 (xs (x3 + 1).toNatClampNeg) (r, M2') hf2) mi_M_tear (by decide) mc_100 ⟨_, cel_M kc_100⟩ rfl rfl wL_L_31 d_law_352 rfl rfl (Nat.le_of_ble_eq_true rfl) ?_
  show Y _ _ _ _ _ _ _ _ _ _ _ _ _ _ _ _ [.int r, .int r]
  refine y_icmp_eqT C 1386 d_law_355 (by decide) rfl ?_
  exact K M1' M2' hR2
set_option maxHeartbeats 4000000 in
theorem law_c4 {p : Program} {l : Launch} {e : Env} {s : State} {m : MethodId} {b L : Nat} {xs : Nat → Int32} {below : List Frame} {meth : Method} {c : Code} {D : va_G} {ad : Nat → Nat} {cs : Nat → ClassId} (C : Cy p s m meth c b L xs D ad cs) {F : Nat} (hF : FB ≤ F) {M1 M2 : Mem} (hR : Rel M1 M2) {x3 : Int32} (h1 : vp_in (x3 + 1) L) (h2 : vp_in (x3 + 2) L) (h3 : vp_in (x3 + 3) L) (h4 : vp_in (x3 + 4) L) (h5 : vp_in (x3 + 5) L) (K : ∀ N1 N2, Rel N1 N2 → Y p l e s m b below meth c D ad cs N1 N2 1386 [(0, .ref b), (1, .ref (ad 0)), (2, .ref (ad 100)), (3, .int x3)] []) : Y p l e s m b below meth c D ad cs M1 M2 360 [(0, .ref b), (1, .ref (ad 0)), (2, .ref (ad 100)), (3, .int x3)] [] := by
  obtain ⟨r, M1', M2', hf1, hf2, hR2⟩ := op_copy hF M1 M2 (xs (x3 + 1).toNatClampNeg) (xs (x3 + 2).toNatClampNeg) (xs (x3 + 3).toNatClampNeg) (xs (x3 + 4).toNatClampNeg) (xs (x3 + 5).toNatClampNeg) hR
  refine y_aload_n C d_law_360 1 rfl ?_
  refine y_aload_n C d_law_361 0 rfl ?_
  refine y_iload_n C d_law_362 3 rfl ?_
  refine y_iconst (v := 1) C d_law_363 rfl ?_
  refine y_iadd C d_law_364 ?_
  refine y_sld C h1 d_law_365 ?_
  refine y_aload_n C d_law_366 0 rfl ?_
  refine y_iload_n C d_law_367 3 rfl ?_
  refine y_iconst (v := 2) C d_law_368 rfl ?_
  refine y_iadd C d_law_369 ?_
  refine y_sld C h2 d_law_370 ?_
  refine y_aload_n C d_law_371 0 rfl ?_
  refine y_iload_n C d_law_372 3 rfl ?_
  refine y_iconst (v := 3) C d_law_373 rfl ?_
  refine y_iadd C d_law_374 ?_
  refine y_sld C h3 d_law_375 ?_
  refine y_aload_n C d_law_376 0 rfl ?_
  refine y_iload_n C d_law_377 3 rfl ?_
  refine y_iconst (v := 4) C d_law_378 rfl ?_
  refine y_iadd C d_law_379 ?_
  refine y_sld C h4 d_law_380 ?_
  refine y_aload_n C d_law_381 0 rfl ?_
  refine y_iload_n C d_law_382 3 rfl ?_
  refine y_iconst (v := 5) C d_law_383 rfl ?_
  refine y_iadd C d_law_384 ?_
  refine y_sld C h5 d_law_385 ?_
  refine y_callX (rest := []) (V' := some (.int r)) (M1' := M1') (n := 5) C (ct_K_copy C.2.2.2.2.2.2.2.2.2.2.2.1.1 F M1 (xs (x3 + 1).toNatClampNeg) (xs (x3 + 2).toNatClampNeg) (xs (x3 + 3).toNatClampNeg) (xs (x3 + 4).toNatClampNeg) (xs (x3 + 5).toNatClampNeg) (r, M1') hf1) mi_K_copy (by decide) mc_0 ⟨_, cel_K kc_0⟩ rfl rfl wL_L_32 d_law_386 rfl rfl (Nat.le_of_ble_eq_true rfl) ?_
  show Y _ _ _ _ _ _ _ _ _ _ _ _ _ _ _ _ [.int r]
  refine y_aload_n C d_law_389 2 rfl ?_
  refine y_aload_n C d_law_390 0 rfl ?_
  refine y_iload_n C d_law_391 3 rfl ?_
  refine y_iconst (v := 1) C d_law_392 rfl ?_
  refine y_iadd C d_law_393 ?_
  refine y_sld C h1 d_law_394 ?_
  refine y_aload_n C d_law_395 0 rfl ?_
  refine y_iload_n C d_law_396 3 rfl ?_
  refine y_iconst (v := 2) C d_law_397 rfl ?_
  refine y_iadd C d_law_398 ?_
  refine y_sld C h2 d_law_399 ?_
  refine y_aload_n C d_law_400 0 rfl ?_
  refine y_iload_n C d_law_401 3 rfl ?_
  refine y_iconst (v := 3) C d_law_402 rfl ?_
  refine y_iadd C d_law_403 ?_
  refine y_sld C h3 d_law_404 ?_
  refine y_aload_n C d_law_405 0 rfl ?_
  refine y_iload_n C d_law_406 3 rfl ?_
  refine y_iconst (v := 4) C d_law_407 rfl ?_
  refine y_iadd C d_law_408 ?_
  refine y_sld C h4 d_law_409 ?_
  refine y_aload_n C d_law_410 0 rfl ?_
  refine y_iload_n C d_law_411 3 rfl ?_
  refine y_iconst (v := 5) C d_law_412 rfl ?_
  refine y_iadd C d_law_413 ?_
  refine y_sld C h5 d_law_414 ?_
  refine y_callM (rest := [.int r]) (V' := some (.int r)) (M2' := M2') (n := 5) C (ct_M_copy C.2.2.2.2.2.2.2.2.2.2.2.1.2 F M2 (xs (x3 + 1).toNatClampNeg) (xs (x3 + 2).toNatClampNeg) (xs (x3 + 3).toNatClampNeg) (xs (x3 + 4).toNatClampNeg) (xs (x3 + 5).toNatClampNeg) (r, M2') hf2) mi_M_copy (by decide) mc_100 ⟨_, cel_M kc_100⟩ rfl rfl wL_L_36 d_law_415 rfl rfl (Nat.le_of_ble_eq_true rfl) ?_
  show Y _ _ _ _ _ _ _ _ _ _ _ _ _ _ _ _ [.int r, .int r]
  refine y_icmp_eqT C 1386 d_law_418 (by decide) rfl ?_
  exact K M1' M2' hR2
set_option maxHeartbeats 4000000 in
theorem law_c5 {p : Program} {l : Launch} {e : Env} {s : State} {m : MethodId} {b L : Nat} {xs : Nat → Int32} {below : List Frame} {meth : Method} {c : Code} {D : va_G} {ad : Nat → Nat} {cs : Nat → ClassId} (C : Cy p s m meth c b L xs D ad cs) {F : Nat} (hF : FB ≤ F) {M1 M2 : Mem} (hR : Rel M1 M2) {x3 : Int32} (h1 : vp_in (x3 + 1) L) (h2 : vp_in (x3 + 2) L) (h3 : vp_in (x3 + 3) L) (h4 : vp_in (x3 + 4) L) (h5 : vp_in (x3 + 5) L) (K : ∀ N1 N2, Rel N1 N2 → Y p l e s m b below meth c D ad cs N1 N2 1386 [(0, .ref b), (1, .ref (ad 0)), (2, .ref (ad 100)), (3, .int x3)] []) : Y p l e s m b below meth c D ad cs M1 M2 423 [(0, .ref b), (1, .ref (ad 0)), (2, .ref (ad 100)), (3, .int x3)] [] := by
  obtain ⟨r, M1', M2', hf1, hf2, hR2⟩ := op_mean hF M1 M2 (xs (x3 + 1).toNatClampNeg) hR
  refine y_aload_n C d_law_423 1 rfl ?_
  refine y_aload_n C d_law_424 0 rfl ?_
  refine y_iload_n C d_law_425 3 rfl ?_
  refine y_iconst (v := 1) C d_law_426 rfl ?_
  refine y_iadd C d_law_427 ?_
  refine y_sld C h1 d_law_428 ?_
  refine y_callX (rest := []) (V' := some (.int r)) (M1' := M1') (n := 1) C (ct_K_mean C.2.2.2.2.2.2.2.2.2.2.2.1.1 F M1 (xs (x3 + 1).toNatClampNeg) (r, M1') hf1) mi_K_mean (by decide) mc_0 ⟨_, cel_K kc_0⟩ rfl rfl wL_L_37 d_law_429 rfl rfl (Nat.le_of_ble_eq_true rfl) ?_
  show Y _ _ _ _ _ _ _ _ _ _ _ _ _ _ _ _ [.int r]
  refine y_aload_n C d_law_432 2 rfl ?_
  refine y_aload_n C d_law_433 0 rfl ?_
  refine y_iload_n C d_law_434 3 rfl ?_
  refine y_iconst (v := 1) C d_law_435 rfl ?_
  refine y_iadd C d_law_436 ?_
  refine y_sld C h1 d_law_437 ?_
  refine y_callM (rest := [.int r]) (V' := some (.int r)) (M2' := M2') (n := 1) C (ct_M_mean C.2.2.2.2.2.2.2.2.2.2.2.1.2 F M2 (xs (x3 + 1).toNatClampNeg) (r, M2') hf2) mi_M_mean (by decide) mc_100 ⟨_, cel_M kc_100⟩ rfl rfl wL_L_40 d_law_438 rfl rfl (Nat.le_of_ble_eq_true rfl) ?_
  show Y _ _ _ _ _ _ _ _ _ _ _ _ _ _ _ _ [.int r, .int r]
  refine y_icmp_eqT C 1386 d_law_441 (by decide) rfl ?_
  exact K M1' M2' hR2
set_option maxHeartbeats 4000000 in
theorem law_c6 {p : Program} {l : Launch} {e : Env} {s : State} {m : MethodId} {b L : Nat} {xs : Nat → Int32} {below : List Frame} {meth : Method} {c : Code} {D : va_G} {ad : Nat → Nat} {cs : Nat → ClassId} (C : Cy p s m meth c b L xs D ad cs) {F : Nat} (hF : FB ≤ F) {M1 M2 : Mem} (hR : Rel M1 M2) {x3 : Int32} (h1 : vp_in (x3 + 1) L) (h2 : vp_in (x3 + 2) L) (h3 : vp_in (x3 + 3) L) (h4 : vp_in (x3 + 4) L) (h5 : vp_in (x3 + 5) L) (K : ∀ N1 N2, Rel N1 N2 → Y p l e s m b below meth c D ad cs N1 N2 1386 [(0, .ref b), (1, .ref (ad 0)), (2, .ref (ad 100)), (3, .int x3)] []) : Y p l e s m b below meth c D ad cs M1 M2 446 [(0, .ref b), (1, .ref (ad 0)), (2, .ref (ad 100)), (3, .int x3)] [] := by
  obtain ⟨r, M1', M2', hf1, hf2, hR2⟩ := op_text hF M1 M2 (xs (x3 + 1).toNatClampNeg) (xs (x3 + 2).toNatClampNeg) hR
  refine y_aload_n C d_law_446 1 rfl ?_
  refine y_aload_n C d_law_447 0 rfl ?_
  refine y_iload_n C d_law_448 3 rfl ?_
  refine y_iconst (v := 1) C d_law_449 rfl ?_
  refine y_iadd C d_law_450 ?_
  refine y_sld C h1 d_law_451 ?_
  refine y_aload_n C d_law_452 0 rfl ?_
  refine y_iload_n C d_law_453 3 rfl ?_
  refine y_iconst (v := 2) C d_law_454 rfl ?_
  refine y_iadd C d_law_455 ?_
  refine y_sld C h2 d_law_456 ?_
  refine y_callX (rest := []) (V' := some (.int r)) (M1' := M1') (n := 2) C (ct_K_text C.2.2.2.2.2.2.2.2.2.2.2.1.1 F M1 (xs (x3 + 1).toNatClampNeg) (xs (x3 + 2).toNatClampNeg) (r, M1') hf1) mi_K_text (by decide) mc_0 ⟨_, cel_K kc_0⟩ rfl rfl wL_L_41 d_law_457 rfl rfl (Nat.le_of_ble_eq_true rfl) ?_
  show Y _ _ _ _ _ _ _ _ _ _ _ _ _ _ _ _ [.int r]
  refine y_aload_n C d_law_460 2 rfl ?_
  refine y_aload_n C d_law_461 0 rfl ?_
  refine y_iload_n C d_law_462 3 rfl ?_
  refine y_iconst (v := 1) C d_law_463 rfl ?_
  refine y_iadd C d_law_464 ?_
  refine y_sld C h1 d_law_465 ?_
  refine y_aload_n C d_law_466 0 rfl ?_
  refine y_iload_n C d_law_467 3 rfl ?_
  refine y_iconst (v := 2) C d_law_468 rfl ?_
  refine y_iadd C d_law_469 ?_
  refine y_sld C h2 d_law_470 ?_
  refine y_callM (rest := [.int r]) (V' := some (.int r)) (M2' := M2') (n := 2) C (ct_M_text C.2.2.2.2.2.2.2.2.2.2.2.1.2 F M2 (xs (x3 + 1).toNatClampNeg) (xs (x3 + 2).toNatClampNeg) (r, M2') hf2) mi_M_text (by decide) mc_100 ⟨_, cel_M kc_100⟩ rfl rfl wL_L_44 d_law_471 rfl rfl (Nat.le_of_ble_eq_true rfl) ?_
  show Y _ _ _ _ _ _ _ _ _ _ _ _ _ _ _ _ [.int r, .int r]
  refine y_icmp_eqT C 1386 d_law_474 (by decide) rfl ?_
  exact K M1' M2' hR2
set_option maxHeartbeats 4000000 in
theorem law_c7 {p : Program} {l : Launch} {e : Env} {s : State} {m : MethodId} {b L : Nat} {xs : Nat → Int32} {below : List Frame} {meth : Method} {c : Code} {D : va_G} {ad : Nat → Nat} {cs : Nat → ClassId} (C : Cy p s m meth c b L xs D ad cs) {F : Nat} (hF : FB ≤ F) {M1 M2 : Mem} (hR : Rel M1 M2) {x3 : Int32} (h1 : vp_in (x3 + 1) L) (h2 : vp_in (x3 + 2) L) (h3 : vp_in (x3 + 3) L) (h4 : vp_in (x3 + 4) L) (h5 : vp_in (x3 + 5) L) (K : ∀ N1 N2, Rel N1 N2 → Y p l e s m b below meth c D ad cs N1 N2 1386 [(0, .ref b), (1, .ref (ad 0)), (2, .ref (ad 100)), (3, .int x3)] []) : Y p l e s m b below meth c D ad cs M1 M2 479 [(0, .ref b), (1, .ref (ad 0)), (2, .ref (ad 100)), (3, .int x3)] [] := by
  obtain ⟨r, M1', M2', hf1, hf2, hR2⟩ := op_put hF M1 M2 (xs (x3 + 1).toNatClampNeg) (xs (x3 + 2).toNatClampNeg) (xs (x3 + 3).toNatClampNeg) hR
  refine y_aload_n C d_law_479 1 rfl ?_
  refine y_aload_n C d_law_480 0 rfl ?_
  refine y_iload_n C d_law_481 3 rfl ?_
  refine y_iconst (v := 1) C d_law_482 rfl ?_
  refine y_iadd C d_law_483 ?_
  refine y_sld C h1 d_law_484 ?_
  refine y_aload_n C d_law_485 0 rfl ?_
  refine y_iload_n C d_law_486 3 rfl ?_
  refine y_iconst (v := 2) C d_law_487 rfl ?_
  refine y_iadd C d_law_488 ?_
  refine y_sld C h2 d_law_489 ?_
  refine y_aload_n C d_law_490 0 rfl ?_
  refine y_iload_n C d_law_491 3 rfl ?_
  refine y_iconst (v := 3) C d_law_492 rfl ?_
  refine y_iadd C d_law_493 ?_
  refine y_sld C h3 d_law_494 ?_
  refine y_callX (rest := []) (V' := some (.int r)) (M1' := M1') (n := 3) C (ct_K_put C.2.2.2.2.2.2.2.2.2.2.2.1.1 F M1 (xs (x3 + 1).toNatClampNeg) (xs (x3 + 2).toNatClampNeg) (xs (x3 + 3).toNatClampNeg) (r, M1') hf1) mi_K_put (by decide) mc_0 ⟨_, cel_K kc_0⟩ rfl rfl wL_L_45 d_law_495 rfl rfl (Nat.le_of_ble_eq_true rfl) ?_
  show Y _ _ _ _ _ _ _ _ _ _ _ _ _ _ _ _ [.int r]
  refine y_aload_n C d_law_498 2 rfl ?_
  refine y_aload_n C d_law_499 0 rfl ?_
  refine y_iload_n C d_law_500 3 rfl ?_
  refine y_iconst (v := 1) C d_law_501 rfl ?_
  refine y_iadd C d_law_502 ?_
  refine y_sld C h1 d_law_503 ?_
  refine y_aload_n C d_law_504 0 rfl ?_
  refine y_iload_n C d_law_505 3 rfl ?_
  refine y_iconst (v := 2) C d_law_506 rfl ?_
  refine y_iadd C d_law_507 ?_
  refine y_sld C h2 d_law_508 ?_
  refine y_aload_n C d_law_509 0 rfl ?_
  refine y_iload_n C d_law_510 3 rfl ?_
  refine y_iconst (v := 3) C d_law_511 rfl ?_
  refine y_iadd C d_law_512 ?_
  refine y_sld C h3 d_law_513 ?_
  refine y_callM (rest := [.int r]) (V' := some (.int r)) (M2' := M2') (n := 3) C (ct_M_put C.2.2.2.2.2.2.2.2.2.2.2.1.2 F M2 (xs (x3 + 1).toNatClampNeg) (xs (x3 + 2).toNatClampNeg) (xs (x3 + 3).toNatClampNeg) (r, M2') hf2) mi_M_put (by decide) mc_100 ⟨_, cel_M kc_100⟩ rfl rfl wL_L_48 d_law_514 rfl rfl (Nat.le_of_ble_eq_true rfl) ?_
  show Y _ _ _ _ _ _ _ _ _ _ _ _ _ _ _ _ [.int r, .int r]
  refine y_icmp_eqT C 1386 d_law_517 (by decide) rfl ?_
  exact K M1' M2' hR2
set_option maxHeartbeats 4000000 in
theorem law_c8 {p : Program} {l : Launch} {e : Env} {s : State} {m : MethodId} {b L : Nat} {xs : Nat → Int32} {below : List Frame} {meth : Method} {c : Code} {D : va_G} {ad : Nat → Nat} {cs : Nat → ClassId} (C : Cy p s m meth c b L xs D ad cs) {F : Nat} (hF : FB ≤ F) {M1 M2 : Mem} (hR : Rel M1 M2) {x3 : Int32} (h1 : vp_in (x3 + 1) L) (h2 : vp_in (x3 + 2) L) (h3 : vp_in (x3 + 3) L) (h4 : vp_in (x3 + 4) L) (h5 : vp_in (x3 + 5) L) (K : ∀ N1 N2, Rel N1 N2 → Y p l e s m b below meth c D ad cs N1 N2 1386 [(0, .ref b), (1, .ref (ad 0)), (2, .ref (ad 100)), (3, .int x3)] []) : Y p l e s m b below meth c D ad cs M1 M2 522 [(0, .ref b), (1, .ref (ad 0)), (2, .ref (ad 100)), (3, .int x3)] [] := by
  obtain ⟨r, M1', M2', hf1, hf2, hR2⟩ := op_fault hF M1 M2 (xs (x3 + 1).toNatClampNeg) hR
  refine y_aload_n C d_law_522 1 rfl ?_
  refine y_aload_n C d_law_523 0 rfl ?_
  refine y_iload_n C d_law_524 3 rfl ?_
  refine y_iconst (v := 1) C d_law_525 rfl ?_
  refine y_iadd C d_law_526 ?_
  refine y_sld C h1 d_law_527 ?_
  refine y_callX (rest := []) (V' := some (.int r)) (M1' := M1') (n := 1) C (ct_K_fault C.2.2.2.2.2.2.2.2.2.2.2.1.1 F M1 (xs (x3 + 1).toNatClampNeg) (r, M1') hf1) mi_K_fault (by decide) mc_0 ⟨_, cel_K kc_0⟩ rfl rfl wL_L_49 d_law_528 rfl rfl (Nat.le_of_ble_eq_true rfl) ?_
  show Y _ _ _ _ _ _ _ _ _ _ _ _ _ _ _ _ [.int r]
  refine y_aload_n C d_law_531 2 rfl ?_
  refine y_aload_n C d_law_532 0 rfl ?_
  refine y_iload_n C d_law_533 3 rfl ?_
  refine y_iconst (v := 1) C d_law_534 rfl ?_
  refine y_iadd C d_law_535 ?_
  refine y_sld C h1 d_law_536 ?_
  refine y_callM (rest := [.int r]) (V' := some (.int r)) (M2' := M2') (n := 1) C (ct_M_fault C.2.2.2.2.2.2.2.2.2.2.2.1.2 F M2 (xs (x3 + 1).toNatClampNeg) (r, M2') hf2) mi_M_fault (by decide) mc_100 ⟨_, cel_M kc_100⟩ rfl rfl wL_L_52 d_law_537 rfl rfl (Nat.le_of_ble_eq_true rfl) ?_
  show Y _ _ _ _ _ _ _ _ _ _ _ _ _ _ _ _ [.int r, .int r]
  refine y_icmp_eqT C 1386 d_law_540 (by decide) rfl ?_
  exact K M1' M2' hR2
set_option maxHeartbeats 4000000 in
theorem law_c9 {p : Program} {l : Launch} {e : Env} {s : State} {m : MethodId} {b L : Nat} {xs : Nat → Int32} {below : List Frame} {meth : Method} {c : Code} {D : va_G} {ad : Nat → Nat} {cs : Nat → ClassId} (C : Cy p s m meth c b L xs D ad cs) {F : Nat} (hF : FB ≤ F) {M1 M2 : Mem} (hR : Rel M1 M2) {x3 : Int32} (h1 : vp_in (x3 + 1) L) (h2 : vp_in (x3 + 2) L) (h3 : vp_in (x3 + 3) L) (h4 : vp_in (x3 + 4) L) (h5 : vp_in (x3 + 5) L) (K : ∀ N1 N2, Rel N1 N2 → Y p l e s m b below meth c D ad cs N1 N2 1386 [(0, .ref b), (1, .ref (ad 0)), (2, .ref (ad 100)), (3, .int x3)] []) : Y p l e s m b below meth c D ad cs M1 M2 545 [(0, .ref b), (1, .ref (ad 0)), (2, .ref (ad 100)), (3, .int x3)] [] := by
  obtain ⟨r, M1', M2', hf1, hf2, hR2⟩ := op_village hF M1 M2 (xs (x3 + 1).toNatClampNeg) hR
  refine y_aload_n C d_law_545 1 rfl ?_
  refine y_aload_n C d_law_546 0 rfl ?_
  refine y_iload_n C d_law_547 3 rfl ?_
  refine y_iconst (v := 1) C d_law_548 rfl ?_
  refine y_iadd C d_law_549 ?_
  refine y_sld C h1 d_law_550 ?_
  refine y_callX (rest := []) (V' := some (.int r)) (M1' := M1') (n := 1) C (ct_K_village C.2.2.2.2.2.2.2.2.2.2.2.1.1 F M1 (xs (x3 + 1).toNatClampNeg) (r, M1') hf1) mi_K_village (by decide) mc_0 ⟨_, cel_K kc_0⟩ rfl rfl wL_L_53 d_law_551 rfl rfl (Nat.le_of_ble_eq_true rfl) ?_
  show Y _ _ _ _ _ _ _ _ _ _ _ _ _ _ _ _ [.int r]
  refine y_aload_n C d_law_554 2 rfl ?_
  refine y_aload_n C d_law_555 0 rfl ?_
  refine y_iload_n C d_law_556 3 rfl ?_
  refine y_iconst (v := 1) C d_law_557 rfl ?_
  refine y_iadd C d_law_558 ?_
  refine y_sld C h1 d_law_559 ?_
  refine y_callM (rest := [.int r]) (V' := some (.int r)) (M2' := M2') (n := 1) C (ct_M_village C.2.2.2.2.2.2.2.2.2.2.2.1.2 F M2 (xs (x3 + 1).toNatClampNeg) (r, M2') hf2) mi_M_village (by decide) mc_100 ⟨_, cel_M kc_100⟩ rfl rfl wL_L_56 d_law_560 rfl rfl (Nat.le_of_ble_eq_true rfl) ?_
  show Y _ _ _ _ _ _ _ _ _ _ _ _ _ _ _ _ [.int r, .int r]
  refine y_icmp_eqT C 1386 d_law_563 (by decide) rfl ?_
  exact K M1' M2' hR2
set_option maxHeartbeats 4000000 in
theorem law_c10 {p : Program} {l : Launch} {e : Env} {s : State} {m : MethodId} {b L : Nat} {xs : Nat → Int32} {below : List Frame} {meth : Method} {c : Code} {D : va_G} {ad : Nat → Nat} {cs : Nat → ClassId} (C : Cy p s m meth c b L xs D ad cs) {F : Nat} (hF : FB ≤ F) {M1 M2 : Mem} (hR : Rel M1 M2) {x3 : Int32} (h1 : vp_in (x3 + 1) L) (h2 : vp_in (x3 + 2) L) (h3 : vp_in (x3 + 3) L) (h4 : vp_in (x3 + 4) L) (h5 : vp_in (x3 + 5) L) (K : ∀ N1 N2, Rel N1 N2 → Y p l e s m b below meth c D ad cs N1 N2 1386 [(0, .ref b), (1, .ref (ad 0)), (2, .ref (ad 100)), (3, .int x3)] []) : Y p l e s m b below meth c D ad cs M1 M2 568 [(0, .ref b), (1, .ref (ad 0)), (2, .ref (ad 100)), (3, .int x3)] [] := by
  obtain ⟨r, M1', M2', hf1, hf2, hR2⟩ := op_person hF M1 M2 (xs (x3 + 1).toNatClampNeg) (xs (x3 + 2).toNatClampNeg) hR
  refine y_aload_n C d_law_568 1 rfl ?_
  refine y_aload_n C d_law_569 0 rfl ?_
  refine y_iload_n C d_law_570 3 rfl ?_
  refine y_iconst (v := 1) C d_law_571 rfl ?_
  refine y_iadd C d_law_572 ?_
  refine y_sld C h1 d_law_573 ?_
  refine y_aload_n C d_law_574 0 rfl ?_
  refine y_iload_n C d_law_575 3 rfl ?_
  refine y_iconst (v := 2) C d_law_576 rfl ?_
  refine y_iadd C d_law_577 ?_
  refine y_sld C h2 d_law_578 ?_
  refine y_callX (rest := []) (V' := some (.int r)) (M1' := M1') (n := 2) C (ct_K_person C.2.2.2.2.2.2.2.2.2.2.2.1.1 F M1 (xs (x3 + 1).toNatClampNeg) (xs (x3 + 2).toNatClampNeg) (r, M1') hf1) mi_K_person (by decide) mc_0 ⟨_, cel_K kc_0⟩ rfl rfl wL_L_57 d_law_579 rfl rfl (Nat.le_of_ble_eq_true rfl) ?_
  show Y _ _ _ _ _ _ _ _ _ _ _ _ _ _ _ _ [.int r]
  refine y_aload_n C d_law_582 2 rfl ?_
  refine y_aload_n C d_law_583 0 rfl ?_
  refine y_iload_n C d_law_584 3 rfl ?_
  refine y_iconst (v := 1) C d_law_585 rfl ?_
  refine y_iadd C d_law_586 ?_
  refine y_sld C h1 d_law_587 ?_
  refine y_aload_n C d_law_588 0 rfl ?_
  refine y_iload_n C d_law_589 3 rfl ?_
  refine y_iconst (v := 2) C d_law_590 rfl ?_
  refine y_iadd C d_law_591 ?_
  refine y_sld C h2 d_law_592 ?_
  refine y_callM (rest := [.int r]) (V' := some (.int r)) (M2' := M2') (n := 2) C (ct_M_person C.2.2.2.2.2.2.2.2.2.2.2.1.2 F M2 (xs (x3 + 1).toNatClampNeg) (xs (x3 + 2).toNatClampNeg) (r, M2') hf2) mi_M_person (by decide) mc_100 ⟨_, cel_M kc_100⟩ rfl rfl wL_L_60 d_law_593 rfl rfl (Nat.le_of_ble_eq_true rfl) ?_
  show Y _ _ _ _ _ _ _ _ _ _ _ _ _ _ _ _ [.int r, .int r]
  refine y_icmp_eqT C 1386 d_law_596 (by decide) rfl ?_
  exact K M1' M2' hR2
set_option maxHeartbeats 4000000 in
theorem law_c11 {p : Program} {l : Launch} {e : Env} {s : State} {m : MethodId} {b L : Nat} {xs : Nat → Int32} {below : List Frame} {meth : Method} {c : Code} {D : va_G} {ad : Nat → Nat} {cs : Nat → ClassId} (C : Cy p s m meth c b L xs D ad cs) {F : Nat} (hF : FB ≤ F) {M1 M2 : Mem} (hR : Rel M1 M2) {x3 : Int32} (h1 : vp_in (x3 + 1) L) (h2 : vp_in (x3 + 2) L) (h3 : vp_in (x3 + 3) L) (h4 : vp_in (x3 + 4) L) (h5 : vp_in (x3 + 5) L) (K : ∀ N1 N2, Rel N1 N2 → Y p l e s m b below meth c D ad cs N1 N2 1386 [(0, .ref b), (1, .ref (ad 0)), (2, .ref (ad 100)), (3, .int x3)] []) : Y p l e s m b below meth c D ad cs M1 M2 601 [(0, .ref b), (1, .ref (ad 0)), (2, .ref (ad 100)), (3, .int x3)] [] := by
  obtain ⟨r, M1', M2', hf1, hf2, hR2⟩ := op_draft hF M1 M2 (xs (x3 + 1).toNatClampNeg) (xs (x3 + 2).toNatClampNeg) hR
  refine y_aload_n C d_law_601 1 rfl ?_
  refine y_aload_n C d_law_602 0 rfl ?_
  refine y_iload_n C d_law_603 3 rfl ?_
  refine y_iconst (v := 1) C d_law_604 rfl ?_
  refine y_iadd C d_law_605 ?_
  refine y_sld C h1 d_law_606 ?_
  refine y_aload_n C d_law_607 0 rfl ?_
  refine y_iload_n C d_law_608 3 rfl ?_
  refine y_iconst (v := 2) C d_law_609 rfl ?_
  refine y_iadd C d_law_610 ?_
  refine y_sld C h2 d_law_611 ?_
  refine y_callX (rest := []) (V' := some (.int r)) (M1' := M1') (n := 2) C (ct_K_draft C.2.2.2.2.2.2.2.2.2.2.2.1.1 F M1 (xs (x3 + 1).toNatClampNeg) (xs (x3 + 2).toNatClampNeg) (r, M1') hf1) mi_K_draft (by decide) mc_0 ⟨_, cel_K kc_0⟩ rfl rfl wL_L_61 d_law_612 rfl rfl (Nat.le_of_ble_eq_true rfl) ?_
  show Y _ _ _ _ _ _ _ _ _ _ _ _ _ _ _ _ [.int r]
  refine y_aload_n C d_law_615 2 rfl ?_
  refine y_aload_n C d_law_616 0 rfl ?_
  refine y_iload_n C d_law_617 3 rfl ?_
  refine y_iconst (v := 1) C d_law_618 rfl ?_
  refine y_iadd C d_law_619 ?_
  refine y_sld C h1 d_law_620 ?_
  refine y_aload_n C d_law_621 0 rfl ?_
  refine y_iload_n C d_law_622 3 rfl ?_
  refine y_iconst (v := 2) C d_law_623 rfl ?_
  refine y_iadd C d_law_624 ?_
  refine y_sld C h2 d_law_625 ?_
  refine y_callM (rest := [.int r]) (V' := some (.int r)) (M2' := M2') (n := 2) C (ct_M_draft C.2.2.2.2.2.2.2.2.2.2.2.1.2 F M2 (xs (x3 + 1).toNatClampNeg) (xs (x3 + 2).toNatClampNeg) (r, M2') hf2) mi_M_draft (by decide) mc_100 ⟨_, cel_M kc_100⟩ rfl rfl wL_L_64 d_law_626 rfl rfl (Nat.le_of_ble_eq_true rfl) ?_
  show Y _ _ _ _ _ _ _ _ _ _ _ _ _ _ _ _ [.int r, .int r]
  refine y_icmp_eqT C 1386 d_law_629 (by decide) rfl ?_
  exact K M1' M2' hR2
set_option maxHeartbeats 4000000 in
theorem law_c12 {p : Program} {l : Launch} {e : Env} {s : State} {m : MethodId} {b L : Nat} {xs : Nat → Int32} {below : List Frame} {meth : Method} {c : Code} {D : va_G} {ad : Nat → Nat} {cs : Nat → ClassId} (C : Cy p s m meth c b L xs D ad cs) {F : Nat} (hF : FB ≤ F) {M1 M2 : Mem} (hR : Rel M1 M2) {x3 : Int32} (h1 : vp_in (x3 + 1) L) (h2 : vp_in (x3 + 2) L) (h3 : vp_in (x3 + 3) L) (h4 : vp_in (x3 + 4) L) (h5 : vp_in (x3 + 5) L) (K : ∀ N1 N2, Rel N1 N2 → Y p l e s m b below meth c D ad cs N1 N2 1386 [(0, .ref b), (1, .ref (ad 0)), (2, .ref (ad 100)), (3, .int x3)] []) : Y p l e s m b below meth c D ad cs M1 M2 634 [(0, .ref b), (1, .ref (ad 0)), (2, .ref (ad 100)), (3, .int x3)] [] := by
  obtain ⟨r, M1', M2', hf1, hf2, hR2⟩ := op_mark hF M1 M2 (xs (x3 + 1).toNatClampNeg) (xs (x3 + 2).toNatClampNeg) hR
  refine y_aload_n C d_law_634 1 rfl ?_
  refine y_aload_n C d_law_635 0 rfl ?_
  refine y_iload_n C d_law_636 3 rfl ?_
  refine y_iconst (v := 1) C d_law_637 rfl ?_
  refine y_iadd C d_law_638 ?_
  refine y_sld C h1 d_law_639 ?_
  refine y_aload_n C d_law_640 0 rfl ?_
  refine y_iload_n C d_law_641 3 rfl ?_
  refine y_iconst (v := 2) C d_law_642 rfl ?_
  refine y_iadd C d_law_643 ?_
  refine y_sld C h2 d_law_644 ?_
  refine y_callX (rest := []) (V' := some (.int r)) (M1' := M1') (n := 2) C (ct_K_mark C.2.2.2.2.2.2.2.2.2.2.2.1.1 F M1 (xs (x3 + 1).toNatClampNeg) (xs (x3 + 2).toNatClampNeg) (r, M1') hf1) mi_K_mark (by decide) mc_0 ⟨_, cel_K kc_0⟩ rfl rfl wL_L_65 d_law_645 rfl rfl (Nat.le_of_ble_eq_true rfl) ?_
  show Y _ _ _ _ _ _ _ _ _ _ _ _ _ _ _ _ [.int r]
  refine y_aload_n C d_law_648 2 rfl ?_
  refine y_aload_n C d_law_649 0 rfl ?_
  refine y_iload_n C d_law_650 3 rfl ?_
  refine y_iconst (v := 1) C d_law_651 rfl ?_
  refine y_iadd C d_law_652 ?_
  refine y_sld C h1 d_law_653 ?_
  refine y_aload_n C d_law_654 0 rfl ?_
  refine y_iload_n C d_law_655 3 rfl ?_
  refine y_iconst (v := 2) C d_law_656 rfl ?_
  refine y_iadd C d_law_657 ?_
  refine y_sld C h2 d_law_658 ?_
  refine y_callM (rest := [.int r]) (V' := some (.int r)) (M2' := M2') (n := 2) C (ct_M_mark C.2.2.2.2.2.2.2.2.2.2.2.1.2 F M2 (xs (x3 + 1).toNatClampNeg) (xs (x3 + 2).toNatClampNeg) (r, M2') hf2) mi_M_mark (by decide) mc_100 ⟨_, cel_M kc_100⟩ rfl rfl wL_L_68 d_law_659 rfl rfl (Nat.le_of_ble_eq_true rfl) ?_
  show Y _ _ _ _ _ _ _ _ _ _ _ _ _ _ _ _ [.int r, .int r]
  refine y_icmp_eqT C 1386 d_law_662 (by decide) rfl ?_
  exact K M1' M2' hR2
set_option maxHeartbeats 4000000 in
theorem law_c13 {p : Program} {l : Launch} {e : Env} {s : State} {m : MethodId} {b L : Nat} {xs : Nat → Int32} {below : List Frame} {meth : Method} {c : Code} {D : va_G} {ad : Nat → Nat} {cs : Nat → ClassId} (C : Cy p s m meth c b L xs D ad cs) {F : Nat} (hF : FB ≤ F) {M1 M2 : Mem} (hR : Rel M1 M2) {x3 : Int32} (h1 : vp_in (x3 + 1) L) (h2 : vp_in (x3 + 2) L) (h3 : vp_in (x3 + 3) L) (h4 : vp_in (x3 + 4) L) (h5 : vp_in (x3 + 5) L) (K : ∀ N1 N2, Rel N1 N2 → Y p l e s m b below meth c D ad cs N1 N2 1386 [(0, .ref b), (1, .ref (ad 0)), (2, .ref (ad 100)), (3, .int x3)] []) : Y p l e s m b below meth c D ad cs M1 M2 667 [(0, .ref b), (1, .ref (ad 0)), (2, .ref (ad 100)), (3, .int x3)] [] := by
  obtain ⟨r, M1', M2', hf1, hf2, hR2⟩ := op_owe hF M1 M2 (xs (x3 + 1).toNatClampNeg) (xs (x3 + 2).toNatClampNeg) hR
  refine y_aload_n C d_law_667 1 rfl ?_
  refine y_aload_n C d_law_668 0 rfl ?_
  refine y_iload_n C d_law_669 3 rfl ?_
  refine y_iconst (v := 1) C d_law_670 rfl ?_
  refine y_iadd C d_law_671 ?_
  refine y_sld C h1 d_law_672 ?_
  refine y_aload_n C d_law_673 0 rfl ?_
  refine y_iload_n C d_law_674 3 rfl ?_
  refine y_iconst (v := 2) C d_law_675 rfl ?_
  refine y_iadd C d_law_676 ?_
  refine y_sld C h2 d_law_677 ?_
  refine y_callX (rest := []) (V' := some (.int r)) (M1' := M1') (n := 2) C (ct_K_owe C.2.2.2.2.2.2.2.2.2.2.2.1.1 F M1 (xs (x3 + 1).toNatClampNeg) (xs (x3 + 2).toNatClampNeg) (r, M1') hf1) mi_K_owe (by decide) mc_0 ⟨_, cel_K kc_0⟩ rfl rfl wL_L_69 d_law_678 rfl rfl (Nat.le_of_ble_eq_true rfl) ?_
  show Y _ _ _ _ _ _ _ _ _ _ _ _ _ _ _ _ [.int r]
  refine y_aload_n C d_law_681 2 rfl ?_
  refine y_aload_n C d_law_682 0 rfl ?_
  refine y_iload_n C d_law_683 3 rfl ?_
  refine y_iconst (v := 1) C d_law_684 rfl ?_
  refine y_iadd C d_law_685 ?_
  refine y_sld C h1 d_law_686 ?_
  refine y_aload_n C d_law_687 0 rfl ?_
  refine y_iload_n C d_law_688 3 rfl ?_
  refine y_iconst (v := 2) C d_law_689 rfl ?_
  refine y_iadd C d_law_690 ?_
  refine y_sld C h2 d_law_691 ?_
  refine y_callM (rest := [.int r]) (V' := some (.int r)) (M2' := M2') (n := 2) C (ct_M_owe C.2.2.2.2.2.2.2.2.2.2.2.1.2 F M2 (xs (x3 + 1).toNatClampNeg) (xs (x3 + 2).toNatClampNeg) (r, M2') hf2) mi_M_owe (by decide) mc_100 ⟨_, cel_M kc_100⟩ rfl rfl wL_L_72 d_law_692 rfl rfl (Nat.le_of_ble_eq_true rfl) ?_
  show Y _ _ _ _ _ _ _ _ _ _ _ _ _ _ _ _ [.int r, .int r]
  refine y_icmp_eqT C 1386 d_law_695 (by decide) rfl ?_
  exact K M1' M2' hR2
set_option maxHeartbeats 4000000 in
theorem law_c14 {p : Program} {l : Launch} {e : Env} {s : State} {m : MethodId} {b L : Nat} {xs : Nat → Int32} {below : List Frame} {meth : Method} {c : Code} {D : va_G} {ad : Nat → Nat} {cs : Nat → ClassId} (C : Cy p s m meth c b L xs D ad cs) {F : Nat} (hF : FB ≤ F) {M1 M2 : Mem} (hR : Rel M1 M2) {x3 : Int32} (h1 : vp_in (x3 + 1) L) (h2 : vp_in (x3 + 2) L) (h3 : vp_in (x3 + 3) L) (h4 : vp_in (x3 + 4) L) (h5 : vp_in (x3 + 5) L) (K : ∀ N1 N2, Rel N1 N2 → Y p l e s m b below meth c D ad cs N1 N2 1386 [(0, .ref b), (1, .ref (ad 0)), (2, .ref (ad 100)), (3, .int x3)] []) : Y p l e s m b below meth c D ad cs M1 M2 700 [(0, .ref b), (1, .ref (ad 0)), (2, .ref (ad 100)), (3, .int x3)] [] := by
  obtain ⟨r, M1', M2', hf1, hf2, hR2⟩ := op_meet hF M1 M2 (xs (x3 + 1).toNatClampNeg) (xs (x3 + 2).toNatClampNeg) hR
  refine y_aload_n C d_law_700 1 rfl ?_
  refine y_aload_n C d_law_701 0 rfl ?_
  refine y_iload_n C d_law_702 3 rfl ?_
  refine y_iconst (v := 1) C d_law_703 rfl ?_
  refine y_iadd C d_law_704 ?_
  refine y_sld C h1 d_law_705 ?_
  refine y_aload_n C d_law_706 0 rfl ?_
  refine y_iload_n C d_law_707 3 rfl ?_
  refine y_iconst (v := 2) C d_law_708 rfl ?_
  refine y_iadd C d_law_709 ?_
  refine y_sld C h2 d_law_710 ?_
  refine y_callX (rest := []) (V' := some (.int r)) (M1' := M1') (n := 2) C (ct_K_meet C.2.2.2.2.2.2.2.2.2.2.2.1.1 F M1 (xs (x3 + 1).toNatClampNeg) (xs (x3 + 2).toNatClampNeg) (r, M1') hf1) mi_K_meet (by decide) mc_0 ⟨_, cel_K kc_0⟩ rfl rfl wL_L_73 d_law_711 rfl rfl (Nat.le_of_ble_eq_true rfl) ?_
  show Y _ _ _ _ _ _ _ _ _ _ _ _ _ _ _ _ [.int r]
  refine y_aload_n C d_law_714 2 rfl ?_
  refine y_aload_n C d_law_715 0 rfl ?_
  refine y_iload_n C d_law_716 3 rfl ?_
  refine y_iconst (v := 1) C d_law_717 rfl ?_
  refine y_iadd C d_law_718 ?_
  refine y_sld C h1 d_law_719 ?_
  refine y_aload_n C d_law_720 0 rfl ?_
  refine y_iload_n C d_law_721 3 rfl ?_
  refine y_iconst (v := 2) C d_law_722 rfl ?_
  refine y_iadd C d_law_723 ?_
  refine y_sld C h2 d_law_724 ?_
  refine y_callM (rest := [.int r]) (V' := some (.int r)) (M2' := M2') (n := 2) C (ct_M_meet C.2.2.2.2.2.2.2.2.2.2.2.1.2 F M2 (xs (x3 + 1).toNatClampNeg) (xs (x3 + 2).toNatClampNeg) (r, M2') hf2) mi_M_meet (by decide) mc_100 ⟨_, cel_M kc_100⟩ rfl rfl wL_L_76 d_law_725 rfl rfl (Nat.le_of_ble_eq_true rfl) ?_
  show Y _ _ _ _ _ _ _ _ _ _ _ _ _ _ _ _ [.int r, .int r]
  refine y_icmp_eqT C 1386 d_law_728 (by decide) rfl ?_
  exact K M1' M2' hR2
set_option maxHeartbeats 4000000 in
theorem law_c15 {p : Program} {l : Launch} {e : Env} {s : State} {m : MethodId} {b L : Nat} {xs : Nat → Int32} {below : List Frame} {meth : Method} {c : Code} {D : va_G} {ad : Nat → Nat} {cs : Nat → ClassId} (C : Cy p s m meth c b L xs D ad cs) {F : Nat} (hF : FB ≤ F) {M1 M2 : Mem} (hR : Rel M1 M2) {x3 : Int32} (h1 : vp_in (x3 + 1) L) (h2 : vp_in (x3 + 2) L) (h3 : vp_in (x3 + 3) L) (h4 : vp_in (x3 + 4) L) (h5 : vp_in (x3 + 5) L) (K : ∀ N1 N2, Rel N1 N2 → Y p l e s m b below meth c D ad cs N1 N2 1386 [(0, .ref b), (1, .ref (ad 0)), (2, .ref (ad 100)), (3, .int x3)] []) : Y p l e s m b below meth c D ad cs M1 M2 733 [(0, .ref b), (1, .ref (ad 0)), (2, .ref (ad 100)), (3, .int x3)] [] := by
  obtain ⟨r, M1', M2', hf1, hf2, hR2⟩ := op_clear hF M1 M2 (xs (x3 + 1).toNatClampNeg) hR
  refine y_aload_n C d_law_733 1 rfl ?_
  refine y_aload_n C d_law_734 0 rfl ?_
  refine y_iload_n C d_law_735 3 rfl ?_
  refine y_iconst (v := 1) C d_law_736 rfl ?_
  refine y_iadd C d_law_737 ?_
  refine y_sld C h1 d_law_738 ?_
  refine y_callX (rest := []) (V' := some (.int r)) (M1' := M1') (n := 1) C (ct_K_clear C.2.2.2.2.2.2.2.2.2.2.2.1.1 F M1 (xs (x3 + 1).toNatClampNeg) (r, M1') hf1) mi_K_clear (by decide) mc_0 ⟨_, cel_K kc_0⟩ rfl rfl wL_L_77 d_law_739 rfl rfl (Nat.le_of_ble_eq_true rfl) ?_
  show Y _ _ _ _ _ _ _ _ _ _ _ _ _ _ _ _ [.int r]
  refine y_aload_n C d_law_742 2 rfl ?_
  refine y_aload_n C d_law_743 0 rfl ?_
  refine y_iload_n C d_law_744 3 rfl ?_
  refine y_iconst (v := 1) C d_law_745 rfl ?_
  refine y_iadd C d_law_746 ?_
  refine y_sld C h1 d_law_747 ?_
  refine y_callM (rest := [.int r]) (V' := some (.int r)) (M2' := M2') (n := 1) C (ct_M_clear C.2.2.2.2.2.2.2.2.2.2.2.1.2 F M2 (xs (x3 + 1).toNatClampNeg) (r, M2') hf2) mi_M_clear (by decide) mc_100 ⟨_, cel_M kc_100⟩ rfl rfl wL_L_80 d_law_748 rfl rfl (Nat.le_of_ble_eq_true rfl) ?_
  show Y _ _ _ _ _ _ _ _ _ _ _ _ _ _ _ _ [.int r, .int r]
  refine y_icmp_eqT C 1386 d_law_751 (by decide) rfl ?_
  exact K M1' M2' hR2
set_option maxHeartbeats 4000000 in
theorem law_c16 {p : Program} {l : Launch} {e : Env} {s : State} {m : MethodId} {b L : Nat} {xs : Nat → Int32} {below : List Frame} {meth : Method} {c : Code} {D : va_G} {ad : Nat → Nat} {cs : Nat → ClassId} (C : Cy p s m meth c b L xs D ad cs) {F : Nat} (hF : FB ≤ F) {M1 M2 : Mem} (hR : Rel M1 M2) {x3 : Int32} (h1 : vp_in (x3 + 1) L) (h2 : vp_in (x3 + 2) L) (h3 : vp_in (x3 + 3) L) (h4 : vp_in (x3 + 4) L) (h5 : vp_in (x3 + 5) L) (K : ∀ N1 N2, Rel N1 N2 → Y p l e s m b below meth c D ad cs N1 N2 1386 [(0, .ref b), (1, .ref (ad 0)), (2, .ref (ad 100)), (3, .int x3)] []) : Y p l e s m b below meth c D ad cs M1 M2 756 [(0, .ref b), (1, .ref (ad 0)), (2, .ref (ad 100)), (3, .int x3)] [] := by
  obtain ⟨r, M1', M2', hf1, hf2, hR2⟩ := op_endorse hF M1 M2 (xs (x3 + 1).toNatClampNeg) (xs (x3 + 2).toNatClampNeg) hR
  refine y_aload_n C d_law_756 1 rfl ?_
  refine y_aload_n C d_law_757 0 rfl ?_
  refine y_iload_n C d_law_758 3 rfl ?_
  refine y_iconst (v := 1) C d_law_759 rfl ?_
  refine y_iadd C d_law_760 ?_
  refine y_sld C h1 d_law_761 ?_
  refine y_aload_n C d_law_762 0 rfl ?_
  refine y_iload_n C d_law_763 3 rfl ?_
  refine y_iconst (v := 2) C d_law_764 rfl ?_
  refine y_iadd C d_law_765 ?_
  refine y_sld C h2 d_law_766 ?_
  refine y_callX (rest := []) (V' := some (.int r)) (M1' := M1') (n := 2) C (ct_K_endorse C.2.2.2.2.2.2.2.2.2.2.2.1.1 F M1 (xs (x3 + 1).toNatClampNeg) (xs (x3 + 2).toNatClampNeg) (r, M1') hf1) mi_K_endorse (by decide) mc_0 ⟨_, cel_K kc_0⟩ rfl rfl wL_L_81 d_law_767 rfl rfl (Nat.le_of_ble_eq_true rfl) ?_
  show Y _ _ _ _ _ _ _ _ _ _ _ _ _ _ _ _ [.int r]
  refine y_aload_n C d_law_770 2 rfl ?_
  refine y_aload_n C d_law_771 0 rfl ?_
  refine y_iload_n C d_law_772 3 rfl ?_
  refine y_iconst (v := 1) C d_law_773 rfl ?_
  refine y_iadd C d_law_774 ?_
  refine y_sld C h1 d_law_775 ?_
  refine y_aload_n C d_law_776 0 rfl ?_
  refine y_iload_n C d_law_777 3 rfl ?_
  refine y_iconst (v := 2) C d_law_778 rfl ?_
  refine y_iadd C d_law_779 ?_
  refine y_sld C h2 d_law_780 ?_
  refine y_callM (rest := [.int r]) (V' := some (.int r)) (M2' := M2') (n := 2) C (ct_M_endorse C.2.2.2.2.2.2.2.2.2.2.2.1.2 F M2 (xs (x3 + 1).toNatClampNeg) (xs (x3 + 2).toNatClampNeg) (r, M2') hf2) mi_M_endorse (by decide) mc_100 ⟨_, cel_M kc_100⟩ rfl rfl wL_L_84 d_law_781 rfl rfl (Nat.le_of_ble_eq_true rfl) ?_
  show Y _ _ _ _ _ _ _ _ _ _ _ _ _ _ _ _ [.int r, .int r]
  refine y_icmp_eqT C 1386 d_law_784 (by decide) rfl ?_
  exact K M1' M2' hR2
set_option maxHeartbeats 4000000 in
theorem law_c17 {p : Program} {l : Launch} {e : Env} {s : State} {m : MethodId} {b L : Nat} {xs : Nat → Int32} {below : List Frame} {meth : Method} {c : Code} {D : va_G} {ad : Nat → Nat} {cs : Nat → ClassId} (C : Cy p s m meth c b L xs D ad cs) {F : Nat} (hF : FB ≤ F) {M1 M2 : Mem} (hR : Rel M1 M2) {x3 : Int32} (h1 : vp_in (x3 + 1) L) (h2 : vp_in (x3 + 2) L) (h3 : vp_in (x3 + 3) L) (h4 : vp_in (x3 + 4) L) (h5 : vp_in (x3 + 5) L) (K : ∀ N1 N2, Rel N1 N2 → Y p l e s m b below meth c D ad cs N1 N2 1386 [(0, .ref b), (1, .ref (ad 0)), (2, .ref (ad 100)), (3, .int x3)] []) : Y p l e s m b below meth c D ad cs M1 M2 789 [(0, .ref b), (1, .ref (ad 0)), (2, .ref (ad 100)), (3, .int x3)] [] := by
  obtain ⟨r, M1', M2', hf1, hf2, hR2⟩ := op_week hF M1 M2 hR
  refine y_aload_n C d_law_789 1 rfl ?_
  refine y_callX (rest := []) (V' := some (.int r)) (M1' := M1') (n := 0) C (ct_K_week C.2.2.2.2.2.2.2.2.2.2.2.1.1 F M1  (r, M1') hf1) mi_K_week (by decide) mc_0 ⟨_, cel_K kc_0⟩ rfl rfl wL_L_85 d_law_790 rfl rfl (Nat.le_of_ble_eq_true rfl) ?_
  show Y _ _ _ _ _ _ _ _ _ _ _ _ _ _ _ _ [.int r]
  refine y_aload_n C d_law_793 2 rfl ?_
  refine y_callM (rest := [.int r]) (V' := some (.int r)) (M2' := M2') (n := 0) C (ct_M_week C.2.2.2.2.2.2.2.2.2.2.2.1.2 F M2  (r, M2') hf2) mi_M_week (by decide) mc_100 ⟨_, cel_M kc_100⟩ rfl rfl wL_L_89 d_law_794 rfl rfl (Nat.le_of_ble_eq_true rfl) ?_
  show Y _ _ _ _ _ _ _ _ _ _ _ _ _ _ _ _ [.int r, .int r]
  refine y_icmp_eqT C 1386 d_law_797 (by decide) rfl ?_
  exact K M1' M2' hR2
set_option maxHeartbeats 4000000 in
theorem law_c18 {p : Program} {l : Launch} {e : Env} {s : State} {m : MethodId} {b L : Nat} {xs : Nat → Int32} {below : List Frame} {meth : Method} {c : Code} {D : va_G} {ad : Nat → Nat} {cs : Nat → ClassId} (C : Cy p s m meth c b L xs D ad cs) {F : Nat} (hF : FB ≤ F) {M1 M2 : Mem} (hR : Rel M1 M2) {x3 : Int32} (h1 : vp_in (x3 + 1) L) (h2 : vp_in (x3 + 2) L) (h3 : vp_in (x3 + 3) L) (h4 : vp_in (x3 + 4) L) (h5 : vp_in (x3 + 5) L) (K : ∀ N1 N2, Rel N1 N2 → Y p l e s m b below meth c D ad cs N1 N2 1386 [(0, .ref b), (1, .ref (ad 0)), (2, .ref (ad 100)), (3, .int x3)] []) : Y p l e s m b below meth c D ad cs M1 M2 802 [(0, .ref b), (1, .ref (ad 0)), (2, .ref (ad 100)), (3, .int x3)] [] := by
  obtain ⟨r, M1', M2', hf1, hf2, hR2⟩ := op_undo hF M1 M2 (xs (x3 + 1).toNatClampNeg) hR
  refine y_aload_n C d_law_802 1 rfl ?_
  refine y_aload_n C d_law_803 0 rfl ?_
  refine y_iload_n C d_law_804 3 rfl ?_
  refine y_iconst (v := 1) C d_law_805 rfl ?_
  refine y_iadd C d_law_806 ?_
  refine y_sld C h1 d_law_807 ?_
  refine y_callX (rest := []) (V' := some (.int r)) (M1' := M1') (n := 1) C (ct_K_undo C.2.2.2.2.2.2.2.2.2.2.2.1.1 F M1 (xs (x3 + 1).toNatClampNeg) (r, M1') hf1) mi_K_undo (by decide) mc_0 ⟨_, cel_K kc_0⟩ rfl rfl wL_L_90 d_law_808 rfl rfl (Nat.le_of_ble_eq_true rfl) ?_
  show Y _ _ _ _ _ _ _ _ _ _ _ _ _ _ _ _ [.int r]
  refine y_aload_n C d_law_811 2 rfl ?_
  refine y_aload_n C d_law_812 0 rfl ?_
  refine y_iload_n C d_law_813 3 rfl ?_
  refine y_iconst (v := 1) C d_law_814 rfl ?_
  refine y_iadd C d_law_815 ?_
  refine y_sld C h1 d_law_816 ?_
  refine y_callM (rest := [.int r]) (V' := some (.int r)) (M2' := M2') (n := 1) C (ct_M_undo C.2.2.2.2.2.2.2.2.2.2.2.1.2 F M2 (xs (x3 + 1).toNatClampNeg) (r, M2') hf2) mi_M_undo (by decide) mc_100 ⟨_, cel_M kc_100⟩ rfl rfl wL_L_93 d_law_817 rfl rfl (Nat.le_of_ble_eq_true rfl) ?_
  show Y _ _ _ _ _ _ _ _ _ _ _ _ _ _ _ _ [.int r, .int r]
  refine y_icmp_eqT C 1386 d_law_820 (by decide) rfl ?_
  exact K M1' M2' hR2
set_option maxHeartbeats 4000000 in
theorem law_c19 {p : Program} {l : Launch} {e : Env} {s : State} {m : MethodId} {b L : Nat} {xs : Nat → Int32} {below : List Frame} {meth : Method} {c : Code} {D : va_G} {ad : Nat → Nat} {cs : Nat → ClassId} (C : Cy p s m meth c b L xs D ad cs) {F : Nat} (hF : FB ≤ F) {M1 M2 : Mem} (hR : Rel M1 M2) {x3 : Int32} (h1 : vp_in (x3 + 1) L) (h2 : vp_in (x3 + 2) L) (h3 : vp_in (x3 + 3) L) (h4 : vp_in (x3 + 4) L) (h5 : vp_in (x3 + 5) L) (K : ∀ N1 N2, Rel N1 N2 → Y p l e s m b below meth c D ad cs N1 N2 1386 [(0, .ref b), (1, .ref (ad 0)), (2, .ref (ad 100)), (3, .int x3)] []) : Y p l e s m b below meth c D ad cs M1 M2 825 [(0, .ref b), (1, .ref (ad 0)), (2, .ref (ad 100)), (3, .int x3)] [] := by
  obtain ⟨r, M1', M2', hf1, hf2, hR2⟩ := op_keep hF M1 M2 (xs (x3 + 1).toNatClampNeg) hR
  refine y_aload_n C d_law_825 1 rfl ?_
  refine y_aload_n C d_law_826 0 rfl ?_
  refine y_iload_n C d_law_827 3 rfl ?_
  refine y_iconst (v := 1) C d_law_828 rfl ?_
  refine y_iadd C d_law_829 ?_
  refine y_sld C h1 d_law_830 ?_
  refine y_callX (rest := []) (V' := some (.int r)) (M1' := M1') (n := 1) C (ct_K_keep C.2.2.2.2.2.2.2.2.2.2.2.1.1 F M1 (xs (x3 + 1).toNatClampNeg) (r, M1') hf1) mi_K_keep (by decide) mc_0 ⟨_, cel_K kc_0⟩ rfl rfl wL_L_94 d_law_831 rfl rfl (Nat.le_of_ble_eq_true rfl) ?_
  show Y _ _ _ _ _ _ _ _ _ _ _ _ _ _ _ _ [.int r]
  refine y_aload_n C d_law_834 2 rfl ?_
  refine y_aload_n C d_law_835 0 rfl ?_
  refine y_iload_n C d_law_836 3 rfl ?_
  refine y_iconst (v := 1) C d_law_837 rfl ?_
  refine y_iadd C d_law_838 ?_
  refine y_sld C h1 d_law_839 ?_
  refine y_callM (rest := [.int r]) (V' := some (.int r)) (M2' := M2') (n := 1) C (ct_M_keep C.2.2.2.2.2.2.2.2.2.2.2.1.2 F M2 (xs (x3 + 1).toNatClampNeg) (r, M2') hf2) mi_M_keep (by decide) mc_100 ⟨_, cel_M kc_100⟩ rfl rfl wL_L_97 d_law_840 rfl rfl (Nat.le_of_ble_eq_true rfl) ?_
  show Y _ _ _ _ _ _ _ _ _ _ _ _ _ _ _ _ [.int r, .int r]
  refine y_icmp_eqT C 1386 d_law_843 (by decide) rfl ?_
  exact K M1' M2' hR2
set_option maxHeartbeats 4000000 in
theorem law_c20 {p : Program} {l : Launch} {e : Env} {s : State} {m : MethodId} {b L : Nat} {xs : Nat → Int32} {below : List Frame} {meth : Method} {c : Code} {D : va_G} {ad : Nat → Nat} {cs : Nat → ClassId} (C : Cy p s m meth c b L xs D ad cs) {F : Nat} (hF : FB ≤ F) {M1 M2 : Mem} (hR : Rel M1 M2) {x3 : Int32} (h1 : vp_in (x3 + 1) L) (h2 : vp_in (x3 + 2) L) (h3 : vp_in (x3 + 3) L) (h4 : vp_in (x3 + 4) L) (h5 : vp_in (x3 + 5) L) (K : ∀ N1 N2, Rel N1 N2 → Y p l e s m b below meth c D ad cs N1 N2 1386 [(0, .ref b), (1, .ref (ad 0)), (2, .ref (ad 100)), (3, .int x3)] []) : Y p l e s m b below meth c D ad cs M1 M2 848 [(0, .ref b), (1, .ref (ad 0)), (2, .ref (ad 100)), (3, .int x3)] [] := by
  obtain ⟨r, M1', M2', hf1, hf2, hR2⟩ := op_on hF M1 M2 (xs (x3 + 1).toNatClampNeg) hR
  refine y_aload_n C d_law_848 1 rfl ?_
  refine y_aload_n C d_law_849 0 rfl ?_
  refine y_iload_n C d_law_850 3 rfl ?_
  refine y_iconst (v := 1) C d_law_851 rfl ?_
  refine y_iadd C d_law_852 ?_
  refine y_sld C h1 d_law_853 ?_
  refine y_callX (rest := []) (V' := some (.int r)) (M1' := M1') (n := 1) C (ct_K_on C.2.2.2.2.2.2.2.2.2.2.2.1.1 F M1 (xs (x3 + 1).toNatClampNeg) (r, M1') hf1) mi_K_on (by decide) mc_0 ⟨_, cel_K kc_0⟩ rfl rfl wL_L_98 d_law_854 rfl rfl (Nat.le_of_ble_eq_true rfl) ?_
  show Y _ _ _ _ _ _ _ _ _ _ _ _ _ _ _ _ [.int r]
  refine y_aload_n C d_law_857 2 rfl ?_
  refine y_aload_n C d_law_858 0 rfl ?_
  refine y_iload_n C d_law_859 3 rfl ?_
  refine y_iconst (v := 1) C d_law_860 rfl ?_
  refine y_iadd C d_law_861 ?_
  refine y_sld C h1 d_law_862 ?_
  refine y_callM (rest := [.int r]) (V' := some (.int r)) (M2' := M2') (n := 1) C (ct_M_on C.2.2.2.2.2.2.2.2.2.2.2.1.2 F M2 (xs (x3 + 1).toNatClampNeg) (r, M2') hf2) mi_M_on (by decide) mc_100 ⟨_, cel_M kc_100⟩ rfl rfl wL_L_101 d_law_863 rfl rfl (Nat.le_of_ble_eq_true rfl) ?_
  show Y _ _ _ _ _ _ _ _ _ _ _ _ _ _ _ _ [.int r, .int r]
  refine y_icmp_eqT C 1386 d_law_866 (by decide) rfl ?_
  exact K M1' M2' hR2
set_option maxHeartbeats 4000000 in
theorem law_c21 {p : Program} {l : Launch} {e : Env} {s : State} {m : MethodId} {b L : Nat} {xs : Nat → Int32} {below : List Frame} {meth : Method} {c : Code} {D : va_G} {ad : Nat → Nat} {cs : Nat → ClassId} (C : Cy p s m meth c b L xs D ad cs) {F : Nat} (hF : FB ≤ F) {M1 M2 : Mem} (hR : Rel M1 M2) {x3 : Int32} (h1 : vp_in (x3 + 1) L) (h2 : vp_in (x3 + 2) L) (h3 : vp_in (x3 + 3) L) (h4 : vp_in (x3 + 4) L) (h5 : vp_in (x3 + 5) L) (K : ∀ N1 N2, Rel N1 N2 → Y p l e s m b below meth c D ad cs N1 N2 1386 [(0, .ref b), (1, .ref (ad 0)), (2, .ref (ad 100)), (3, .int x3)] []) : Y p l e s m b below meth c D ad cs M1 M2 871 [(0, .ref b), (1, .ref (ad 0)), (2, .ref (ad 100)), (3, .int x3)] [] := by
  obtain ⟨r, hf1, hf2⟩ := op_between hF M1 M2 (xs (x3 + 1).toNatClampNeg) (xs (x3 + 2).toNatClampNeg) (xs (x3 + 3).toNatClampNeg) hR
  have hR2 := hR
  refine y_aload_n C d_law_871 1 rfl ?_
  refine y_aload_n C d_law_872 0 rfl ?_
  refine y_iload_n C d_law_873 3 rfl ?_
  refine y_iconst (v := 1) C d_law_874 rfl ?_
  refine y_iadd C d_law_875 ?_
  refine y_sld C h1 d_law_876 ?_
  refine y_aload_n C d_law_877 0 rfl ?_
  refine y_iload_n C d_law_878 3 rfl ?_
  refine y_iconst (v := 2) C d_law_879 rfl ?_
  refine y_iadd C d_law_880 ?_
  refine y_sld C h2 d_law_881 ?_
  refine y_aload_n C d_law_882 0 rfl ?_
  refine y_iload_n C d_law_883 3 rfl ?_
  refine y_iconst (v := 3) C d_law_884 rfl ?_
  refine y_iadd C d_law_885 ?_
  refine y_sld C h3 d_law_886 ?_
  refine y_callX (rest := []) (V' := some (.int r)) (M1' := M1) (n := 3) C (ct_K_between C.2.2.2.2.2.2.2.2.2.2.2.1.1 F M1 (xs (x3 + 1).toNatClampNeg) (xs (x3 + 2).toNatClampNeg) (xs (x3 + 3).toNatClampNeg) r hf1) mi_K_between (by decide) mc_0 ⟨_, cel_K kc_0⟩ rfl rfl wL_L_102 d_law_887 rfl rfl (Nat.le_of_ble_eq_true rfl) ?_
  show Y _ _ _ _ _ _ _ _ _ _ _ _ _ _ _ _ [.int r]
  refine y_aload_n C d_law_890 2 rfl ?_
  refine y_aload_n C d_law_891 0 rfl ?_
  refine y_iload_n C d_law_892 3 rfl ?_
  refine y_iconst (v := 1) C d_law_893 rfl ?_
  refine y_iadd C d_law_894 ?_
  refine y_sld C h1 d_law_895 ?_
  refine y_aload_n C d_law_896 0 rfl ?_
  refine y_iload_n C d_law_897 3 rfl ?_
  refine y_iconst (v := 2) C d_law_898 rfl ?_
  refine y_iadd C d_law_899 ?_
  refine y_sld C h2 d_law_900 ?_
  refine y_aload_n C d_law_901 0 rfl ?_
  refine y_iload_n C d_law_902 3 rfl ?_
  refine y_iconst (v := 3) C d_law_903 rfl ?_
  refine y_iadd C d_law_904 ?_
  refine y_sld C h3 d_law_905 ?_
  refine y_callM (rest := [.int r]) (V' := some (.int r)) (M2' := M2) (n := 3) C (ct_M_between C.2.2.2.2.2.2.2.2.2.2.2.1.2 F M2 (xs (x3 + 1).toNatClampNeg) (xs (x3 + 2).toNatClampNeg) (xs (x3 + 3).toNatClampNeg) r hf2) mi_M_between (by decide) mc_100 ⟨_, cel_M kc_100⟩ rfl rfl wL_L_105 d_law_906 rfl rfl (Nat.le_of_ble_eq_true rfl) ?_
  show Y _ _ _ _ _ _ _ _ _ _ _ _ _ _ _ _ [.int r, .int r]
  refine y_icmp_eqT C 1386 d_law_909 (by decide) rfl ?_
  exact K M1 M2 hR2
set_option maxHeartbeats 4000000 in
theorem law_c22 {p : Program} {l : Launch} {e : Env} {s : State} {m : MethodId} {b L : Nat} {xs : Nat → Int32} {below : List Frame} {meth : Method} {c : Code} {D : va_G} {ad : Nat → Nat} {cs : Nat → ClassId} (C : Cy p s m meth c b L xs D ad cs) {F : Nat} (hF : FB ≤ F) {M1 M2 : Mem} (hR : Rel M1 M2) {x3 : Int32} (h1 : vp_in (x3 + 1) L) (h2 : vp_in (x3 + 2) L) (h3 : vp_in (x3 + 3) L) (h4 : vp_in (x3 + 4) L) (h5 : vp_in (x3 + 5) L) (K : ∀ N1 N2, Rel N1 N2 → Y p l e s m b below meth c D ad cs N1 N2 1386 [(0, .ref b), (1, .ref (ad 0)), (2, .ref (ad 100)), (3, .int x3)] []) : Y p l e s m b below meth c D ad cs M1 M2 914 [(0, .ref b), (1, .ref (ad 0)), (2, .ref (ad 100)), (3, .int x3)] [] := by
  obtain ⟨r, M1', M2', hf1, hf2, hR2⟩ := op_all hF M1 M2 (xs (x3 + 1).toNatClampNeg) hR
  refine y_aload_n C d_law_914 1 rfl ?_
  refine y_aload_n C d_law_915 0 rfl ?_
  refine y_iload_n C d_law_916 3 rfl ?_
  refine y_iconst (v := 1) C d_law_917 rfl ?_
  refine y_iadd C d_law_918 ?_
  refine y_sld C h1 d_law_919 ?_
  refine y_callX (rest := []) (V' := some (.int r)) (M1' := M1') (n := 1) C (ct_K_all C.2.2.2.2.2.2.2.2.2.2.2.1.1 F M1 (xs (x3 + 1).toNatClampNeg) (r, M1') hf1) mi_K_all (by decide) mc_0 ⟨_, cel_K kc_0⟩ rfl rfl wL_L_106 d_law_920 rfl rfl (Nat.le_of_ble_eq_true rfl) ?_
  show Y _ _ _ _ _ _ _ _ _ _ _ _ _ _ _ _ [.int r]
  refine y_aload_n C d_law_923 2 rfl ?_
  refine y_aload_n C d_law_924 0 rfl ?_
  refine y_iload_n C d_law_925 3 rfl ?_
  refine y_iconst (v := 1) C d_law_926 rfl ?_
  refine y_iadd C d_law_927 ?_
  refine y_sld C h1 d_law_928 ?_
  refine y_callM (rest := [.int r]) (V' := some (.int r)) (M2' := M2') (n := 1) C (ct_M_all C.2.2.2.2.2.2.2.2.2.2.2.1.2 F M2 (xs (x3 + 1).toNatClampNeg) (r, M2') hf2) mi_M_all (by decide) mc_100 ⟨_, cel_M kc_100⟩ rfl rfl wL_L_109 d_law_929 rfl rfl (Nat.le_of_ble_eq_true rfl) ?_
  show Y _ _ _ _ _ _ _ _ _ _ _ _ _ _ _ _ [.int r, .int r]
  refine y_icmp_eqT C 1386 d_law_932 (by decide) rfl ?_
  exact K M1' M2' hR2
set_option maxHeartbeats 4000000 in
theorem law_c23 {p : Program} {l : Launch} {e : Env} {s : State} {m : MethodId} {b L : Nat} {xs : Nat → Int32} {below : List Frame} {meth : Method} {c : Code} {D : va_G} {ad : Nat → Nat} {cs : Nat → ClassId} (C : Cy p s m meth c b L xs D ad cs) {F : Nat} (hF : FB ≤ F) {M1 M2 : Mem} (hR : Rel M1 M2) {x3 : Int32} (h1 : vp_in (x3 + 1) L) (h2 : vp_in (x3 + 2) L) (h3 : vp_in (x3 + 3) L) (h4 : vp_in (x3 + 4) L) (h5 : vp_in (x3 + 5) L) (K : ∀ N1 N2, Rel N1 N2 → Y p l e s m b below meth c D ad cs N1 N2 1386 [(0, .ref b), (1, .ref (ad 0)), (2, .ref (ad 100)), (3, .int x3)] []) : Y p l e s m b below meth c D ad cs M1 M2 937 [(0, .ref b), (1, .ref (ad 0)), (2, .ref (ad 100)), (3, .int x3)] [] := by
  obtain ⟨r, M1', M2', hf1, hf2, hR2⟩ := op_ring hF M1 M2 (xs (x3 + 1).toNatClampNeg) (xs (x3 + 2).toNatClampNeg) hR
  refine y_aload_n C d_law_937 1 rfl ?_
  refine y_aload_n C d_law_938 0 rfl ?_
  refine y_iload_n C d_law_939 3 rfl ?_
  refine y_iconst (v := 1) C d_law_940 rfl ?_
  refine y_iadd C d_law_941 ?_
  refine y_sld C h1 d_law_942 ?_
  refine y_aload_n C d_law_943 0 rfl ?_
  refine y_iload_n C d_law_944 3 rfl ?_
  refine y_iconst (v := 2) C d_law_945 rfl ?_
  refine y_iadd C d_law_946 ?_
  refine y_sld C h2 d_law_947 ?_
  refine y_callX (rest := []) (V' := some (.int r)) (M1' := M1') (n := 2) C (ct_K_ring C.2.2.2.2.2.2.2.2.2.2.2.1.1 F M1 (xs (x3 + 1).toNatClampNeg) (xs (x3 + 2).toNatClampNeg) (r, M1') hf1) mi_K_ring (by decide) mc_0 ⟨_, cel_K kc_0⟩ rfl rfl wL_L_110 d_law_948 rfl rfl (Nat.le_of_ble_eq_true rfl) ?_
  show Y _ _ _ _ _ _ _ _ _ _ _ _ _ _ _ _ [.int r]
  refine y_aload_n C d_law_951 2 rfl ?_
  refine y_aload_n C d_law_952 0 rfl ?_
  refine y_iload_n C d_law_953 3 rfl ?_
  refine y_iconst (v := 1) C d_law_954 rfl ?_
  refine y_iadd C d_law_955 ?_
  refine y_sld C h1 d_law_956 ?_
  refine y_aload_n C d_law_957 0 rfl ?_
  refine y_iload_n C d_law_958 3 rfl ?_
  refine y_iconst (v := 2) C d_law_959 rfl ?_
  refine y_iadd C d_law_960 ?_
  refine y_sld C h2 d_law_961 ?_
  refine y_callM (rest := [.int r]) (V' := some (.int r)) (M2' := M2') (n := 2) C (ct_M_ring C.2.2.2.2.2.2.2.2.2.2.2.1.2 F M2 (xs (x3 + 1).toNatClampNeg) (xs (x3 + 2).toNatClampNeg) (r, M2') hf2) mi_M_ring (by decide) mc_100 ⟨_, cel_M kc_100⟩ rfl rfl wL_L_113 d_law_962 rfl rfl (Nat.le_of_ble_eq_true rfl) ?_
  show Y _ _ _ _ _ _ _ _ _ _ _ _ _ _ _ _ [.int r, .int r]
  refine y_icmp_eqT C 1386 d_law_965 (by decide) rfl ?_
  exact K M1' M2' hR2
set_option maxHeartbeats 4000000 in
theorem law_c24 {p : Program} {l : Launch} {e : Env} {s : State} {m : MethodId} {b L : Nat} {xs : Nat → Int32} {below : List Frame} {meth : Method} {c : Code} {D : va_G} {ad : Nat → Nat} {cs : Nat → ClassId} (C : Cy p s m meth c b L xs D ad cs) {F : Nat} (hF : FB ≤ F) {M1 M2 : Mem} (hR : Rel M1 M2) {x3 : Int32} (h1 : vp_in (x3 + 1) L) (h2 : vp_in (x3 + 2) L) (h3 : vp_in (x3 + 3) L) (h4 : vp_in (x3 + 4) L) (h5 : vp_in (x3 + 5) L) (K : ∀ N1 N2, Rel N1 N2 → Y p l e s m b below meth c D ad cs N1 N2 1386 [(0, .ref b), (1, .ref (ad 0)), (2, .ref (ad 100)), (3, .int x3)] []) : Y p l e s m b below meth c D ad cs M1 M2 970 [(0, .ref b), (1, .ref (ad 0)), (2, .ref (ad 100)), (3, .int x3)] [] := by
  obtain ⟨r, hf1, hf2⟩ := op_net hF M1 M2 (xs (x3 + 1).toNatClampNeg) hR
  have hR2 := hR
  refine y_aload_n C d_law_970 1 rfl ?_
  refine y_aload_n C d_law_971 0 rfl ?_
  refine y_iload_n C d_law_972 3 rfl ?_
  refine y_iconst (v := 1) C d_law_973 rfl ?_
  refine y_iadd C d_law_974 ?_
  refine y_sld C h1 d_law_975 ?_
  refine y_callX (rest := []) (V' := some (.int r)) (M1' := M1) (n := 1) C (ct_K_net C.2.2.2.2.2.2.2.2.2.2.2.1.1 F M1 (xs (x3 + 1).toNatClampNeg) r hf1) mi_K_net (by decide) mc_0 ⟨_, cel_K kc_0⟩ rfl rfl wL_L_114 d_law_976 rfl rfl (Nat.le_of_ble_eq_true rfl) ?_
  show Y _ _ _ _ _ _ _ _ _ _ _ _ _ _ _ _ [.int r]
  refine y_aload_n C d_law_979 2 rfl ?_
  refine y_aload_n C d_law_980 0 rfl ?_
  refine y_iload_n C d_law_981 3 rfl ?_
  refine y_iconst (v := 1) C d_law_982 rfl ?_
  refine y_iadd C d_law_983 ?_
  refine y_sld C h1 d_law_984 ?_
  refine y_callM (rest := [.int r]) (V' := some (.int r)) (M2' := M2) (n := 1) C (ct_M_net C.2.2.2.2.2.2.2.2.2.2.2.1.2 F M2 (xs (x3 + 1).toNatClampNeg) r hf2) mi_M_net (by decide) mc_100 ⟨_, cel_M kc_100⟩ rfl rfl wL_L_117 d_law_985 rfl rfl (Nat.le_of_ble_eq_true rfl) ?_
  show Y _ _ _ _ _ _ _ _ _ _ _ _ _ _ _ _ [.int r, .int r]
  refine y_icmp_eqT C 1386 d_law_988 (by decide) rfl ?_
  exact K M1 M2 hR2
set_option maxHeartbeats 4000000 in
theorem law_c25 {p : Program} {l : Launch} {e : Env} {s : State} {m : MethodId} {b L : Nat} {xs : Nat → Int32} {below : List Frame} {meth : Method} {c : Code} {D : va_G} {ad : Nat → Nat} {cs : Nat → ClassId} (C : Cy p s m meth c b L xs D ad cs) {F : Nat} (hF : FB ≤ F) {M1 M2 : Mem} (hR : Rel M1 M2) {x3 : Int32} (h1 : vp_in (x3 + 1) L) (h2 : vp_in (x3 + 2) L) (h3 : vp_in (x3 + 3) L) (h4 : vp_in (x3 + 4) L) (h5 : vp_in (x3 + 5) L) (K : ∀ N1 N2, Rel N1 N2 → Y p l e s m b below meth c D ad cs N1 N2 1386 [(0, .ref b), (1, .ref (ad 0)), (2, .ref (ad 100)), (3, .int x3)] []) : Y p l e s m b below meth c D ad cs M1 M2 993 [(0, .ref b), (1, .ref (ad 0)), (2, .ref (ad 100)), (3, .int x3)] [] := by
  obtain ⟨r, M1', M2', hf1, hf2, hR2⟩ := op_left hF M1 M2 (xs (x3 + 1).toNatClampNeg) hR
  refine y_aload_n C d_law_993 1 rfl ?_
  refine y_aload_n C d_law_994 0 rfl ?_
  refine y_iload_n C d_law_995 3 rfl ?_
  refine y_iconst (v := 1) C d_law_996 rfl ?_
  refine y_iadd C d_law_997 ?_
  refine y_sld C h1 d_law_998 ?_
  refine y_callX (rest := []) (V' := some (.int r)) (M1' := M1') (n := 1) C (ct_K_left C.2.2.2.2.2.2.2.2.2.2.2.1.1 F M1 (xs (x3 + 1).toNatClampNeg) (r, M1') hf1) mi_K_left (by decide) mc_0 ⟨_, cel_K kc_0⟩ rfl rfl wL_L_118 d_law_999 rfl rfl (Nat.le_of_ble_eq_true rfl) ?_
  show Y _ _ _ _ _ _ _ _ _ _ _ _ _ _ _ _ [.int r]
  refine y_aload_n C d_law_1002 2 rfl ?_
  refine y_aload_n C d_law_1003 0 rfl ?_
  refine y_iload_n C d_law_1004 3 rfl ?_
  refine y_iconst (v := 1) C d_law_1005 rfl ?_
  refine y_iadd C d_law_1006 ?_
  refine y_sld C h1 d_law_1007 ?_
  refine y_callM (rest := [.int r]) (V' := some (.int r)) (M2' := M2') (n := 1) C (ct_M_left C.2.2.2.2.2.2.2.2.2.2.2.1.2 F M2 (xs (x3 + 1).toNatClampNeg) (r, M2') hf2) mi_M_left (by decide) mc_100 ⟨_, cel_M kc_100⟩ rfl rfl wL_L_121 d_law_1008 rfl rfl (Nat.le_of_ble_eq_true rfl) ?_
  show Y _ _ _ _ _ _ _ _ _ _ _ _ _ _ _ _ [.int r, .int r]
  refine y_icmp_eqT C 1386 d_law_1011 (by decide) rfl ?_
  exact K M1' M2' hR2
set_option maxHeartbeats 4000000 in
theorem law_c26 {p : Program} {l : Launch} {e : Env} {s : State} {m : MethodId} {b L : Nat} {xs : Nat → Int32} {below : List Frame} {meth : Method} {c : Code} {D : va_G} {ad : Nat → Nat} {cs : Nat → ClassId} (C : Cy p s m meth c b L xs D ad cs) {F : Nat} (hF : FB ≤ F) {M1 M2 : Mem} (hR : Rel M1 M2) {x3 : Int32} (h1 : vp_in (x3 + 1) L) (h2 : vp_in (x3 + 2) L) (h3 : vp_in (x3 + 3) L) (h4 : vp_in (x3 + 4) L) (h5 : vp_in (x3 + 5) L) (K : ∀ N1 N2, Rel N1 N2 → Y p l e s m b below meth c D ad cs N1 N2 1386 [(0, .ref b), (1, .ref (ad 0)), (2, .ref (ad 100)), (3, .int x3)] []) : Y p l e s m b below meth c D ad cs M1 M2 1016 [(0, .ref b), (1, .ref (ad 0)), (2, .ref (ad 100)), (3, .int x3)] [] := by
  obtain ⟨r, hf1, hf2⟩ := op_falls hF M1 M2 (xs (x3 + 1).toNatClampNeg) hR
  have hR2 := hR
  refine y_aload_n C d_law_1016 1 rfl ?_
  refine y_aload_n C d_law_1017 0 rfl ?_
  refine y_iload_n C d_law_1018 3 rfl ?_
  refine y_iconst (v := 1) C d_law_1019 rfl ?_
  refine y_iadd C d_law_1020 ?_
  refine y_sld C h1 d_law_1021 ?_
  refine y_callX (rest := []) (V' := some (.int r)) (M1' := M1) (n := 1) C (ct_K_falls C.2.2.2.2.2.2.2.2.2.2.2.1.1 F M1 (xs (x3 + 1).toNatClampNeg) r hf1) mi_K_falls (by decide) mc_0 ⟨_, cel_K kc_0⟩ rfl rfl wL_L_122 d_law_1022 rfl rfl (Nat.le_of_ble_eq_true rfl) ?_
  show Y _ _ _ _ _ _ _ _ _ _ _ _ _ _ _ _ [.int r]
  refine y_aload_n C d_law_1025 2 rfl ?_
  refine y_aload_n C d_law_1026 0 rfl ?_
  refine y_iload_n C d_law_1027 3 rfl ?_
  refine y_iconst (v := 1) C d_law_1028 rfl ?_
  refine y_iadd C d_law_1029 ?_
  refine y_sld C h1 d_law_1030 ?_
  refine y_callM (rest := [.int r]) (V' := some (.int r)) (M2' := M2) (n := 1) C (ct_M_falls C.2.2.2.2.2.2.2.2.2.2.2.1.2 F M2 (xs (x3 + 1).toNatClampNeg) r hf2) mi_M_falls (by decide) mc_100 ⟨_, cel_M kc_100⟩ rfl rfl wL_L_125 d_law_1031 rfl rfl (Nat.le_of_ble_eq_true rfl) ?_
  show Y _ _ _ _ _ _ _ _ _ _ _ _ _ _ _ _ [.int r, .int r]
  refine y_icmp_eqT C 1386 d_law_1034 (by decide) rfl ?_
  exact K M1 M2 hR2
set_option maxHeartbeats 4000000 in
theorem law_c27 {p : Program} {l : Launch} {e : Env} {s : State} {m : MethodId} {b L : Nat} {xs : Nat → Int32} {below : List Frame} {meth : Method} {c : Code} {D : va_G} {ad : Nat → Nat} {cs : Nat → ClassId} (C : Cy p s m meth c b L xs D ad cs) {F : Nat} (hF : FB ≤ F) {M1 M2 : Mem} (hR : Rel M1 M2) {x3 : Int32} (h1 : vp_in (x3 + 1) L) (h2 : vp_in (x3 + 2) L) (h3 : vp_in (x3 + 3) L) (h4 : vp_in (x3 + 4) L) (h5 : vp_in (x3 + 5) L) (K : ∀ N1 N2, Rel N1 N2 → Y p l e s m b below meth c D ad cs N1 N2 1386 [(0, .ref b), (1, .ref (ad 0)), (2, .ref (ad 100)), (3, .int x3)] []) : Y p l e s m b below meth c D ad cs M1 M2 1039 [(0, .ref b), (1, .ref (ad 0)), (2, .ref (ad 100)), (3, .int x3)] [] := by
  obtain ⟨r, M1', M2', hf1, hf2, hR2⟩ := op_worst hF M1 M2 hR
  refine y_aload_n C d_law_1039 1 rfl ?_
  refine y_callX (rest := []) (V' := some (.int r)) (M1' := M1') (n := 0) C (ct_K_worst C.2.2.2.2.2.2.2.2.2.2.2.1.1 F M1  (r, M1') hf1) mi_K_worst (by decide) mc_0 ⟨_, cel_K kc_0⟩ rfl rfl wL_L_126 d_law_1040 rfl rfl (Nat.le_of_ble_eq_true rfl) ?_
  show Y _ _ _ _ _ _ _ _ _ _ _ _ _ _ _ _ [.int r]
  refine y_aload_n C d_law_1043 2 rfl ?_
  refine y_callM (rest := [.int r]) (V' := some (.int r)) (M2' := M2') (n := 0) C (ct_M_worst C.2.2.2.2.2.2.2.2.2.2.2.1.2 F M2  (r, M2') hf2) mi_M_worst (by decide) mc_100 ⟨_, cel_M kc_100⟩ rfl rfl wL_L_129 d_law_1044 rfl rfl (Nat.le_of_ble_eq_true rfl) ?_
  show Y _ _ _ _ _ _ _ _ _ _ _ _ _ _ _ _ [.int r, .int r]
  refine y_icmp_eqT C 1386 d_law_1047 (by decide) rfl ?_
  exact K M1' M2' hR2
set_option maxHeartbeats 4000000 in
theorem law_c28 {p : Program} {l : Launch} {e : Env} {s : State} {m : MethodId} {b L : Nat} {xs : Nat → Int32} {below : List Frame} {meth : Method} {c : Code} {D : va_G} {ad : Nat → Nat} {cs : Nat → ClassId} (C : Cy p s m meth c b L xs D ad cs) {F : Nat} (hF : FB ≤ F) {M1 M2 : Mem} (hR : Rel M1 M2) {x3 : Int32} (h1 : vp_in (x3 + 1) L) (h2 : vp_in (x3 + 2) L) (h3 : vp_in (x3 + 3) L) (h4 : vp_in (x3 + 4) L) (h5 : vp_in (x3 + 5) L) (K : ∀ N1 N2, Rel N1 N2 → Y p l e s m b below meth c D ad cs N1 N2 1386 [(0, .ref b), (1, .ref (ad 0)), (2, .ref (ad 100)), (3, .int x3)] []) : Y p l e s m b below meth c D ad cs M1 M2 1052 [(0, .ref b), (1, .ref (ad 0)), (2, .ref (ad 100)), (3, .int x3)] [] := by
  obtain ⟨r, hf1, hf2⟩ := op_saved hF M1 M2 (xs (x3 + 1).toNatClampNeg) (xs (x3 + 2).toNatClampNeg) hR
  have hR2 := hR
  refine y_aload_n C d_law_1052 1 rfl ?_
  refine y_aload_n C d_law_1053 0 rfl ?_
  refine y_iload_n C d_law_1054 3 rfl ?_
  refine y_iconst (v := 1) C d_law_1055 rfl ?_
  refine y_iadd C d_law_1056 ?_
  refine y_sld C h1 d_law_1057 ?_
  refine y_aload_n C d_law_1058 0 rfl ?_
  refine y_iload_n C d_law_1059 3 rfl ?_
  refine y_iconst (v := 2) C d_law_1060 rfl ?_
  refine y_iadd C d_law_1061 ?_
  refine y_sld C h2 d_law_1062 ?_
  refine y_callX (rest := []) (V' := some (.int r)) (M1' := M1) (n := 2) C (ct_K_saved C.2.2.2.2.2.2.2.2.2.2.2.1.1 F M1 (xs (x3 + 1).toNatClampNeg) (xs (x3 + 2).toNatClampNeg) r hf1) mi_K_saved (by decide) mc_0 ⟨_, cel_K kc_0⟩ rfl rfl wL_L_130 d_law_1063 rfl rfl (Nat.le_of_ble_eq_true rfl) ?_
  show Y _ _ _ _ _ _ _ _ _ _ _ _ _ _ _ _ [.int r]
  refine y_aload_n C d_law_1066 2 rfl ?_
  refine y_aload_n C d_law_1067 0 rfl ?_
  refine y_iload_n C d_law_1068 3 rfl ?_
  refine y_iconst (v := 1) C d_law_1069 rfl ?_
  refine y_iadd C d_law_1070 ?_
  refine y_sld C h1 d_law_1071 ?_
  refine y_aload_n C d_law_1072 0 rfl ?_
  refine y_iload_n C d_law_1073 3 rfl ?_
  refine y_iconst (v := 2) C d_law_1074 rfl ?_
  refine y_iadd C d_law_1075 ?_
  refine y_sld C h2 d_law_1076 ?_
  refine y_callM (rest := [.int r]) (V' := some (.int r)) (M2' := M2) (n := 2) C (ct_M_saved C.2.2.2.2.2.2.2.2.2.2.2.1.2 F M2 (xs (x3 + 1).toNatClampNeg) (xs (x3 + 2).toNatClampNeg) r hf2) mi_M_saved (by decide) mc_100 ⟨_, cel_M kc_100⟩ rfl rfl wL_L_133 d_law_1077 rfl rfl (Nat.le_of_ble_eq_true rfl) ?_
  show Y _ _ _ _ _ _ _ _ _ _ _ _ _ _ _ _ [.int r, .int r]
  refine y_icmp_eqT C 1386 d_law_1080 (by decide) rfl ?_
  exact K M1 M2 hR2
set_option maxHeartbeats 4000000 in
theorem law_c29 {p : Program} {l : Launch} {e : Env} {s : State} {m : MethodId} {b L : Nat} {xs : Nat → Int32} {below : List Frame} {meth : Method} {c : Code} {D : va_G} {ad : Nat → Nat} {cs : Nat → ClassId} (C : Cy p s m meth c b L xs D ad cs) {F : Nat} (hF : FB ≤ F) {M1 M2 : Mem} (hR : Rel M1 M2) {x3 : Int32} (h1 : vp_in (x3 + 1) L) (h2 : vp_in (x3 + 2) L) (h3 : vp_in (x3 + 3) L) (h4 : vp_in (x3 + 4) L) (h5 : vp_in (x3 + 5) L) (K : ∀ N1 N2, Rel N1 N2 → Y p l e s m b below meth c D ad cs N1 N2 1386 [(0, .ref b), (1, .ref (ad 0)), (2, .ref (ad 100)), (3, .int x3)] []) : Y p l e s m b below meth c D ad cs M1 M2 1085 [(0, .ref b), (1, .ref (ad 0)), (2, .ref (ad 100)), (3, .int x3)] [] := by
  obtain ⟨r, M1', M2', hf1, hf2, hR2⟩ := op_pairs hF M1 M2 hR
  refine y_aload_n C d_law_1085 1 rfl ?_
  refine y_callX (rest := []) (V' := some (.int r)) (M1' := M1') (n := 0) C (ct_K_pairs C.2.2.2.2.2.2.2.2.2.2.2.1.1 F M1  (r, M1') hf1) mi_K_pairs (by decide) mc_0 ⟨_, cel_K kc_0⟩ rfl rfl wL_L_134 d_law_1086 rfl rfl (Nat.le_of_ble_eq_true rfl) ?_
  show Y _ _ _ _ _ _ _ _ _ _ _ _ _ _ _ _ [.int r]
  refine y_aload_n C d_law_1089 2 rfl ?_
  refine y_callM (rest := [.int r]) (V' := some (.int r)) (M2' := M2') (n := 0) C (ct_M_pairs C.2.2.2.2.2.2.2.2.2.2.2.1.2 F M2  (r, M2') hf2) mi_M_pairs (by decide) mc_100 ⟨_, cel_M kc_100⟩ rfl rfl wL_L_137 d_law_1090 rfl rfl (Nat.le_of_ble_eq_true rfl) ?_
  show Y _ _ _ _ _ _ _ _ _ _ _ _ _ _ _ _ [.int r, .int r]
  refine y_icmp_eqT C 1386 d_law_1093 (by decide) rfl ?_
  exact K M1' M2' hR2
set_option maxHeartbeats 4000000 in
theorem law_c30 {p : Program} {l : Launch} {e : Env} {s : State} {m : MethodId} {b L : Nat} {xs : Nat → Int32} {below : List Frame} {meth : Method} {c : Code} {D : va_G} {ad : Nat → Nat} {cs : Nat → ClassId} (C : Cy p s m meth c b L xs D ad cs) {F : Nat} (hF : FB ≤ F) {M1 M2 : Mem} (hR : Rel M1 M2) {x3 : Int32} (h1 : vp_in (x3 + 1) L) (h2 : vp_in (x3 + 2) L) (h3 : vp_in (x3 + 3) L) (h4 : vp_in (x3 + 4) L) (h5 : vp_in (x3 + 5) L) (K : ∀ N1 N2, Rel N1 N2 → Y p l e s m b below meth c D ad cs N1 N2 1386 [(0, .ref b), (1, .ref (ad 0)), (2, .ref (ad 100)), (3, .int x3)] []) : Y p l e s m b below meth c D ad cs M1 M2 1098 [(0, .ref b), (1, .ref (ad 0)), (2, .ref (ad 100)), (3, .int x3)] [] := by
  obtain ⟨r, M1', M2', hf1, hf2, hR2⟩ := op_rounds hF M1 M2 hR
  refine y_aload_n C d_law_1098 1 rfl ?_
  refine y_callX (rest := []) (V' := some (.int r)) (M1' := M1') (n := 0) C (ct_K_rounds C.2.2.2.2.2.2.2.2.2.2.2.1.1 F M1  (r, M1') hf1) mi_K_rounds (by decide) mc_0 ⟨_, cel_K kc_0⟩ rfl rfl wL_L_138 d_law_1099 rfl rfl (Nat.le_of_ble_eq_true rfl) ?_
  show Y _ _ _ _ _ _ _ _ _ _ _ _ _ _ _ _ [.int r]
  refine y_aload_n C d_law_1102 2 rfl ?_
  refine y_callM (rest := [.int r]) (V' := some (.int r)) (M2' := M2') (n := 0) C (ct_M_rounds C.2.2.2.2.2.2.2.2.2.2.2.1.2 F M2  (r, M2') hf2) mi_M_rounds (by decide) mc_100 ⟨_, cel_M kc_100⟩ rfl rfl wL_L_141 d_law_1103 rfl rfl (Nat.le_of_ble_eq_true rfl) ?_
  show Y _ _ _ _ _ _ _ _ _ _ _ _ _ _ _ _ [.int r, .int r]
  refine y_icmp_eqT C 1386 d_law_1106 (by decide) rfl ?_
  exact K M1' M2' hR2
set_option maxHeartbeats 4000000 in
theorem law_c31 {p : Program} {l : Launch} {e : Env} {s : State} {m : MethodId} {b L : Nat} {xs : Nat → Int32} {below : List Frame} {meth : Method} {c : Code} {D : va_G} {ad : Nat → Nat} {cs : Nat → ClassId} (C : Cy p s m meth c b L xs D ad cs) {F : Nat} (hF : FB ≤ F) {M1 M2 : Mem} (hR : Rel M1 M2) {x3 : Int32} (h1 : vp_in (x3 + 1) L) (h2 : vp_in (x3 + 2) L) (h3 : vp_in (x3 + 3) L) (h4 : vp_in (x3 + 4) L) (h5 : vp_in (x3 + 5) L) (K : ∀ N1 N2, Rel N1 N2 → Y p l e s m b below meth c D ad cs N1 N2 1386 [(0, .ref b), (1, .ref (ad 0)), (2, .ref (ad 100)), (3, .int x3)] []) : Y p l e s m b below meth c D ad cs M1 M2 1111 [(0, .ref b), (1, .ref (ad 0)), (2, .ref (ad 100)), (3, .int x3)] [] := by
  obtain ⟨r, M1', M2', hf1, hf2, hR2⟩ := op_mistletoe hF M1 M2 hR
  refine y_aload_n C d_law_1111 1 rfl ?_
  refine y_callX (rest := []) (V' := some (.int r)) (M1' := M1') (n := 0) C (ct_K_mistletoe C.2.2.2.2.2.2.2.2.2.2.2.1.1 F M1  (r, M1') hf1) mi_K_mistletoe (by decide) mc_0 ⟨_, cel_K kc_0⟩ rfl rfl wL_L_142 d_law_1112 rfl rfl (Nat.le_of_ble_eq_true rfl) ?_
  show Y _ _ _ _ _ _ _ _ _ _ _ _ _ _ _ _ [.int r]
  refine y_aload_n C d_law_1115 2 rfl ?_
  refine y_callM (rest := [.int r]) (V' := some (.int r)) (M2' := M2') (n := 0) C (ct_M_mistletoe C.2.2.2.2.2.2.2.2.2.2.2.1.2 F M2  (r, M2') hf2) mi_M_mistletoe (by decide) mc_100 ⟨_, cel_M kc_100⟩ rfl rfl wL_L_145 d_law_1116 rfl rfl (Nat.le_of_ble_eq_true rfl) ?_
  show Y _ _ _ _ _ _ _ _ _ _ _ _ _ _ _ _ [.int r, .int r]
  refine y_icmp_eqT C 1386 d_law_1119 (by decide) rfl ?_
  exact K M1' M2' hR2
set_option maxHeartbeats 4000000 in
theorem law_c32 {p : Program} {l : Launch} {e : Env} {s : State} {m : MethodId} {b L : Nat} {xs : Nat → Int32} {below : List Frame} {meth : Method} {c : Code} {D : va_G} {ad : Nat → Nat} {cs : Nat → ClassId} (C : Cy p s m meth c b L xs D ad cs) {F : Nat} (hF : FB ≤ F) {M1 M2 : Mem} (hR : Rel M1 M2) {x3 : Int32} (h1 : vp_in (x3 + 1) L) (h2 : vp_in (x3 + 2) L) (h3 : vp_in (x3 + 3) L) (h4 : vp_in (x3 + 4) L) (h5 : vp_in (x3 + 5) L) (K : ∀ N1 N2, Rel N1 N2 → Y p l e s m b below meth c D ad cs N1 N2 1386 [(0, .ref b), (1, .ref (ad 0)), (2, .ref (ad 100)), (3, .int x3)] []) : Y p l e s m b below meth c D ad cs M1 M2 1124 [(0, .ref b), (1, .ref (ad 0)), (2, .ref (ad 100)), (3, .int x3)] [] := by
  obtain ⟨r, M1', M2', hf1, hf2, hR2⟩ := op_gain hF M1 M2 (xs (x3 + 1).toNatClampNeg) hR
  refine y_aload_n C d_law_1124 1 rfl ?_
  refine y_aload_n C d_law_1125 0 rfl ?_
  refine y_iload_n C d_law_1126 3 rfl ?_
  refine y_iconst (v := 1) C d_law_1127 rfl ?_
  refine y_iadd C d_law_1128 ?_
  refine y_sld C h1 d_law_1129 ?_
  refine y_callX (rest := []) (V' := some (.int r)) (M1' := M1') (n := 1) C (ct_K_gain C.2.2.2.2.2.2.2.2.2.2.2.1.1 F M1 (xs (x3 + 1).toNatClampNeg) (r, M1') hf1) mi_K_gain (by decide) mc_0 ⟨_, cel_K kc_0⟩ rfl rfl wL_L_146 d_law_1130 rfl rfl (Nat.le_of_ble_eq_true rfl) ?_
  show Y _ _ _ _ _ _ _ _ _ _ _ _ _ _ _ _ [.int r]
  refine y_aload_n C d_law_1133 2 rfl ?_
  refine y_aload_n C d_law_1134 0 rfl ?_
  refine y_iload_n C d_law_1135 3 rfl ?_
  refine y_iconst (v := 1) C d_law_1136 rfl ?_
  refine y_iadd C d_law_1137 ?_
  refine y_sld C h1 d_law_1138 ?_
  refine y_callM (rest := [.int r]) (V' := some (.int r)) (M2' := M2') (n := 1) C (ct_M_gain C.2.2.2.2.2.2.2.2.2.2.2.1.2 F M2 (xs (x3 + 1).toNatClampNeg) (r, M2') hf2) mi_M_gain (by decide) mc_100 ⟨_, cel_M kc_100⟩ rfl rfl wL_L_149 d_law_1139 rfl rfl (Nat.le_of_ble_eq_true rfl) ?_
  show Y _ _ _ _ _ _ _ _ _ _ _ _ _ _ _ _ [.int r, .int r]
  refine y_icmp_eqT C 1386 d_law_1142 (by decide) rfl ?_
  exact K M1' M2' hR2
set_option maxHeartbeats 4000000 in
theorem law_c33 {p : Program} {l : Launch} {e : Env} {s : State} {m : MethodId} {b L : Nat} {xs : Nat → Int32} {below : List Frame} {meth : Method} {c : Code} {D : va_G} {ad : Nat → Nat} {cs : Nat → ClassId} (C : Cy p s m meth c b L xs D ad cs) {F : Nat} (hF : FB ≤ F) {M1 M2 : Mem} (hR : Rel M1 M2) {x3 : Int32} (h1 : vp_in (x3 + 1) L) (h2 : vp_in (x3 + 2) L) (h3 : vp_in (x3 + 3) L) (h4 : vp_in (x3 + 4) L) (h5 : vp_in (x3 + 5) L) (K : ∀ N1 N2, Rel N1 N2 → Y p l e s m b below meth c D ad cs N1 N2 1386 [(0, .ref b), (1, .ref (ad 0)), (2, .ref (ad 100)), (3, .int x3)] []) : Y p l e s m b below meth c D ad cs M1 M2 1147 [(0, .ref b), (1, .ref (ad 0)), (2, .ref (ad 100)), (3, .int x3)] [] := by
  obtain ⟨r, hf1, hf2⟩ := op_trust hF M1 M2 (xs (x3 + 1).toNatClampNeg) (xs (x3 + 2).toNatClampNeg) hR
  have hR2 := hR
  refine y_aload_n C d_law_1147 1 rfl ?_
  refine y_aload_n C d_law_1148 0 rfl ?_
  refine y_iload_n C d_law_1149 3 rfl ?_
  refine y_iconst (v := 1) C d_law_1150 rfl ?_
  refine y_iadd C d_law_1151 ?_
  refine y_sld C h1 d_law_1152 ?_
  refine y_aload_n C d_law_1153 0 rfl ?_
  refine y_iload_n C d_law_1154 3 rfl ?_
  refine y_iconst (v := 2) C d_law_1155 rfl ?_
  refine y_iadd C d_law_1156 ?_
  refine y_sld C h2 d_law_1157 ?_
  refine y_callX (rest := []) (V' := some (.int r)) (M1' := M1) (n := 2) C (ct_K_trust C.2.2.2.2.2.2.2.2.2.2.2.1.1 F M1 (xs (x3 + 1).toNatClampNeg) (xs (x3 + 2).toNatClampNeg) r hf1) mi_K_trust (by decide) mc_0 ⟨_, cel_K kc_0⟩ rfl rfl wL_L_150 d_law_1158 rfl rfl (Nat.le_of_ble_eq_true rfl) ?_
  show Y _ _ _ _ _ _ _ _ _ _ _ _ _ _ _ _ [.int r]
  refine y_aload_n C d_law_1161 2 rfl ?_
  refine y_aload_n C d_law_1162 0 rfl ?_
  refine y_iload_n C d_law_1163 3 rfl ?_
  refine y_iconst (v := 1) C d_law_1164 rfl ?_
  refine y_iadd C d_law_1165 ?_
  refine y_sld C h1 d_law_1166 ?_
  refine y_aload_n C d_law_1167 0 rfl ?_
  refine y_iload_n C d_law_1168 3 rfl ?_
  refine y_iconst (v := 2) C d_law_1169 rfl ?_
  refine y_iadd C d_law_1170 ?_
  refine y_sld C h2 d_law_1171 ?_
  refine y_callM (rest := [.int r]) (V' := some (.int r)) (M2' := M2) (n := 2) C (ct_M_trust C.2.2.2.2.2.2.2.2.2.2.2.1.2 F M2 (xs (x3 + 1).toNatClampNeg) (xs (x3 + 2).toNatClampNeg) r hf2) mi_M_trust (by decide) mc_100 ⟨_, cel_M kc_100⟩ rfl rfl wL_L_153 d_law_1172 rfl rfl (Nat.le_of_ble_eq_true rfl) ?_
  show Y _ _ _ _ _ _ _ _ _ _ _ _ _ _ _ _ [.int r, .int r]
  refine y_icmp_eqT C 1386 d_law_1175 (by decide) rfl ?_
  exact K M1 M2 hR2
set_option maxHeartbeats 4000000 in
theorem law_c34 {p : Program} {l : Launch} {e : Env} {s : State} {m : MethodId} {b L : Nat} {xs : Nat → Int32} {below : List Frame} {meth : Method} {c : Code} {D : va_G} {ad : Nat → Nat} {cs : Nat → ClassId} (C : Cy p s m meth c b L xs D ad cs) {F : Nat} (hF : FB ≤ F) {M1 M2 : Mem} (hR : Rel M1 M2) {x3 : Int32} (h1 : vp_in (x3 + 1) L) (h2 : vp_in (x3 + 2) L) (h3 : vp_in (x3 + 3) L) (h4 : vp_in (x3 + 4) L) (h5 : vp_in (x3 + 5) L) (K : ∀ N1 N2, Rel N1 N2 → Y p l e s m b below meth c D ad cs N1 N2 1386 [(0, .ref b), (1, .ref (ad 0)), (2, .ref (ad 100)), (3, .int x3)] []) : Y p l e s m b below meth c D ad cs M1 M2 1180 [(0, .ref b), (1, .ref (ad 0)), (2, .ref (ad 100)), (3, .int x3)] [] := by
  obtain ⟨r, M1', M2', hf1, hf2, hR2⟩ := op_blushes hF M1 M2 (xs (x3 + 1).toNatClampNeg) hR
  refine y_aload_n C d_law_1180 1 rfl ?_
  refine y_aload_n C d_law_1181 0 rfl ?_
  refine y_iload_n C d_law_1182 3 rfl ?_
  refine y_iconst (v := 1) C d_law_1183 rfl ?_
  refine y_iadd C d_law_1184 ?_
  refine y_sld C h1 d_law_1185 ?_
  refine y_callX (rest := []) (V' := some (.int r)) (M1' := M1') (n := 1) C (ct_K_blushes C.2.2.2.2.2.2.2.2.2.2.2.1.1 F M1 (xs (x3 + 1).toNatClampNeg) (r, M1') hf1) mi_K_blushes (by decide) mc_0 ⟨_, cel_K kc_0⟩ rfl rfl wL_L_154 d_law_1186 rfl rfl (Nat.le_of_ble_eq_true rfl) ?_
  show Y _ _ _ _ _ _ _ _ _ _ _ _ _ _ _ _ [.int r]
  refine y_aload_n C d_law_1189 2 rfl ?_
  refine y_aload_n C d_law_1190 0 rfl ?_
  refine y_iload_n C d_law_1191 3 rfl ?_
  refine y_iconst (v := 1) C d_law_1192 rfl ?_
  refine y_iadd C d_law_1193 ?_
  refine y_sld C h1 d_law_1194 ?_
  refine y_callM (rest := [.int r]) (V' := some (.int r)) (M2' := M2') (n := 1) C (ct_M_blushes C.2.2.2.2.2.2.2.2.2.2.2.1.2 F M2 (xs (x3 + 1).toNatClampNeg) (r, M2') hf2) mi_M_blushes (by decide) mc_100 ⟨_, cel_M kc_100⟩ rfl rfl wL_L_157 d_law_1195 rfl rfl (Nat.le_of_ble_eq_true rfl) ?_
  show Y _ _ _ _ _ _ _ _ _ _ _ _ _ _ _ _ [.int r, .int r]
  refine y_icmp_eqT C 1386 d_law_1198 (by decide) rfl ?_
  exact K M1' M2' hR2
set_option maxHeartbeats 4000000 in
theorem law_c35 {p : Program} {l : Launch} {e : Env} {s : State} {m : MethodId} {b L : Nat} {xs : Nat → Int32} {below : List Frame} {meth : Method} {c : Code} {D : va_G} {ad : Nat → Nat} {cs : Nat → ClassId} (C : Cy p s m meth c b L xs D ad cs) {F : Nat} (hF : FB ≤ F) {M1 M2 : Mem} (hR : Rel M1 M2) {x3 : Int32} (h1 : vp_in (x3 + 1) L) (h2 : vp_in (x3 + 2) L) (h3 : vp_in (x3 + 3) L) (h4 : vp_in (x3 + 4) L) (h5 : vp_in (x3 + 5) L) (K : ∀ N1 N2, Rel N1 N2 → Y p l e s m b below meth c D ad cs N1 N2 1386 [(0, .ref b), (1, .ref (ad 0)), (2, .ref (ad 100)), (3, .int x3)] []) : Y p l e s m b below meth c D ad cs M1 M2 1203 [(0, .ref b), (1, .ref (ad 0)), (2, .ref (ad 100)), (3, .int x3)] [] := by
  obtain ⟨r, M1', M2', hf1, hf2, hR2⟩ := op_sure hF M1 M2 (xs (x3 + 1).toNatClampNeg) hR
  refine y_aload_n C d_law_1203 1 rfl ?_
  refine y_aload_n C d_law_1204 0 rfl ?_
  refine y_iload_n C d_law_1205 3 rfl ?_
  refine y_iconst (v := 1) C d_law_1206 rfl ?_
  refine y_iadd C d_law_1207 ?_
  refine y_sld C h1 d_law_1208 ?_
  refine y_callX (rest := []) (V' := some (.int r)) (M1' := M1') (n := 1) C (ct_K_sure C.2.2.2.2.2.2.2.2.2.2.2.1.1 F M1 (xs (x3 + 1).toNatClampNeg) (r, M1') hf1) mi_K_sure (by decide) mc_0 ⟨_, cel_K kc_0⟩ rfl rfl wL_L_158 d_law_1209 rfl rfl (Nat.le_of_ble_eq_true rfl) ?_
  show Y _ _ _ _ _ _ _ _ _ _ _ _ _ _ _ _ [.int r]
  refine y_aload_n C d_law_1212 2 rfl ?_
  refine y_aload_n C d_law_1213 0 rfl ?_
  refine y_iload_n C d_law_1214 3 rfl ?_
  refine y_iconst (v := 1) C d_law_1215 rfl ?_
  refine y_iadd C d_law_1216 ?_
  refine y_sld C h1 d_law_1217 ?_
  refine y_callM (rest := [.int r]) (V' := some (.int r)) (M2' := M2') (n := 1) C (ct_M_sure C.2.2.2.2.2.2.2.2.2.2.2.1.2 F M2 (xs (x3 + 1).toNatClampNeg) (r, M2') hf2) mi_M_sure (by decide) mc_100 ⟨_, cel_M kc_100⟩ rfl rfl wL_L_161 d_law_1218 rfl rfl (Nat.le_of_ble_eq_true rfl) ?_
  show Y _ _ _ _ _ _ _ _ _ _ _ _ _ _ _ _ [.int r, .int r]
  refine y_icmp_eqT C 1386 d_law_1221 (by decide) rfl ?_
  exact K M1' M2' hR2
set_option maxHeartbeats 4000000 in
theorem law_c36 {p : Program} {l : Launch} {e : Env} {s : State} {m : MethodId} {b L : Nat} {xs : Nat → Int32} {below : List Frame} {meth : Method} {c : Code} {D : va_G} {ad : Nat → Nat} {cs : Nat → ClassId} (C : Cy p s m meth c b L xs D ad cs) {F : Nat} (hF : FB ≤ F) {M1 M2 : Mem} (hR : Rel M1 M2) {x3 : Int32} (h1 : vp_in (x3 + 1) L) (h2 : vp_in (x3 + 2) L) (h3 : vp_in (x3 + 3) L) (h4 : vp_in (x3 + 4) L) (h5 : vp_in (x3 + 5) L) (K : ∀ N1 N2, Rel N1 N2 → Y p l e s m b below meth c D ad cs N1 N2 1386 [(0, .ref b), (1, .ref (ad 0)), (2, .ref (ad 100)), (3, .int x3)] []) : Y p l e s m b below meth c D ad cs M1 M2 1226 [(0, .ref b), (1, .ref (ad 0)), (2, .ref (ad 100)), (3, .int x3)] [] := by
  obtain ⟨r, M1', M2', hf1, hf2, hR2⟩ := op_odds hF M1 M2 hR
  refine y_aload_n C d_law_1226 1 rfl ?_
  refine y_callX (rest := []) (V' := some (.int r)) (M1' := M1') (n := 0) C (ct_K_odds C.2.2.2.2.2.2.2.2.2.2.2.1.1 F M1  (r, M1') hf1) mi_K_odds (by decide) mc_0 ⟨_, cel_K kc_0⟩ rfl rfl wL_L_162 d_law_1227 rfl rfl (Nat.le_of_ble_eq_true rfl) ?_
  show Y _ _ _ _ _ _ _ _ _ _ _ _ _ _ _ _ [.int r]
  refine y_aload_n C d_law_1230 2 rfl ?_
  refine y_callM (rest := [.int r]) (V' := some (.int r)) (M2' := M2') (n := 0) C (ct_M_odds C.2.2.2.2.2.2.2.2.2.2.2.1.2 F M2  (r, M2') hf2) mi_M_odds (by decide) mc_100 ⟨_, cel_M kc_100⟩ rfl rfl wL_L_165 d_law_1231 rfl rfl (Nat.le_of_ble_eq_true rfl) ?_
  show Y _ _ _ _ _ _ _ _ _ _ _ _ _ _ _ _ [.int r, .int r]
  refine y_icmp_eqT C 1386 d_law_1234 (by decide) rfl ?_
  exact K M1' M2' hR2
set_option maxHeartbeats 4000000 in
theorem law_c37 {p : Program} {l : Launch} {e : Env} {s : State} {m : MethodId} {b L : Nat} {xs : Nat → Int32} {below : List Frame} {meth : Method} {c : Code} {D : va_G} {ad : Nat → Nat} {cs : Nat → ClassId} (C : Cy p s m meth c b L xs D ad cs) {F : Nat} (hF : FB ≤ F) {M1 M2 : Mem} (hR : Rel M1 M2) {x3 : Int32} (h1 : vp_in (x3 + 1) L) (h2 : vp_in (x3 + 2) L) (h3 : vp_in (x3 + 3) L) (h4 : vp_in (x3 + 4) L) (h5 : vp_in (x3 + 5) L) (K : ∀ N1 N2, Rel N1 N2 → Y p l e s m b below meth c D ad cs N1 N2 1386 [(0, .ref b), (1, .ref (ad 0)), (2, .ref (ad 100)), (3, .int x3)] []) : Y p l e s m b below meth c D ad cs M1 M2 1239 [(0, .ref b), (1, .ref (ad 0)), (2, .ref (ad 100)), (3, .int x3)] [] := by
  obtain ⟨r, M1', M2', hf1, hf2, hR2⟩ := op_lots hF M1 M2 (xs (x3 + 1).toNatClampNeg) (xs (x3 + 2).toNatClampNeg) hR
  refine y_aload_n C d_law_1239 1 rfl ?_
  refine y_aload_n C d_law_1240 0 rfl ?_
  refine y_iload_n C d_law_1241 3 rfl ?_
  refine y_iconst (v := 1) C d_law_1242 rfl ?_
  refine y_iadd C d_law_1243 ?_
  refine y_sld C h1 d_law_1244 ?_
  refine y_aload_n C d_law_1245 0 rfl ?_
  refine y_iload_n C d_law_1246 3 rfl ?_
  refine y_iconst (v := 2) C d_law_1247 rfl ?_
  refine y_iadd C d_law_1248 ?_
  refine y_sld C h2 d_law_1249 ?_
  refine y_callX (rest := []) (V' := some (.int r)) (M1' := M1') (n := 2) C (ct_K_lots C.2.2.2.2.2.2.2.2.2.2.2.1.1 F M1 (xs (x3 + 1).toNatClampNeg) (xs (x3 + 2).toNatClampNeg) (r, M1') hf1) mi_K_lots (by decide) mc_0 ⟨_, cel_K kc_0⟩ rfl rfl wL_L_166 d_law_1250 rfl rfl (Nat.le_of_ble_eq_true rfl) ?_
  show Y _ _ _ _ _ _ _ _ _ _ _ _ _ _ _ _ [.int r]
  refine y_aload_n C d_law_1253 2 rfl ?_
  refine y_aload_n C d_law_1254 0 rfl ?_
  refine y_iload_n C d_law_1255 3 rfl ?_
  refine y_iconst (v := 1) C d_law_1256 rfl ?_
  refine y_iadd C d_law_1257 ?_
  refine y_sld C h1 d_law_1258 ?_
  refine y_aload_n C d_law_1259 0 rfl ?_
  refine y_iload_n C d_law_1260 3 rfl ?_
  refine y_iconst (v := 2) C d_law_1261 rfl ?_
  refine y_iadd C d_law_1262 ?_
  refine y_sld C h2 d_law_1263 ?_
  refine y_callM (rest := [.int r]) (V' := some (.int r)) (M2' := M2') (n := 2) C (ct_M_lots C.2.2.2.2.2.2.2.2.2.2.2.1.2 F M2 (xs (x3 + 1).toNatClampNeg) (xs (x3 + 2).toNatClampNeg) (r, M2') hf2) mi_M_lots (by decide) mc_100 ⟨_, cel_M kc_100⟩ rfl rfl wL_L_169 d_law_1264 rfl rfl (Nat.le_of_ble_eq_true rfl) ?_
  show Y _ _ _ _ _ _ _ _ _ _ _ _ _ _ _ _ [.int r, .int r]
  refine y_icmp_eqT C 1386 d_law_1267 (by decide) rfl ?_
  exact K M1' M2' hR2
set_option maxHeartbeats 4000000 in
theorem law_c38 {p : Program} {l : Launch} {e : Env} {s : State} {m : MethodId} {b L : Nat} {xs : Nat → Int32} {below : List Frame} {meth : Method} {c : Code} {D : va_G} {ad : Nat → Nat} {cs : Nat → ClassId} (C : Cy p s m meth c b L xs D ad cs) {F : Nat} (hF : FB ≤ F) {M1 M2 : Mem} (hR : Rel M1 M2) {x3 : Int32} (h1 : vp_in (x3 + 1) L) (h2 : vp_in (x3 + 2) L) (h3 : vp_in (x3 + 3) L) (h4 : vp_in (x3 + 4) L) (h5 : vp_in (x3 + 5) L) (K : ∀ N1 N2, Rel N1 N2 → Y p l e s m b below meth c D ad cs N1 N2 1386 [(0, .ref b), (1, .ref (ad 0)), (2, .ref (ad 100)), (3, .int x3)] []) : Y p l e s m b below meth c D ad cs M1 M2 1272 [(0, .ref b), (1, .ref (ad 0)), (2, .ref (ad 100)), (3, .int x3)] [] := by
  obtain ⟨r, hf1, hf2⟩ := op_asked hF M1 M2 hR
  have hR2 := hR
  refine y_aload_n C d_law_1272 1 rfl ?_
  refine y_callX (rest := []) (V' := some (.int r)) (M1' := M1) (n := 0) C (ct_K_asked C.2.2.2.2.2.2.2.2.2.2.2.1.1 F M1  r hf1) mi_K_asked (by decide) mc_0 ⟨_, cel_K kc_0⟩ rfl rfl wL_L_170 d_law_1273 rfl rfl (Nat.le_of_ble_eq_true rfl) ?_
  show Y _ _ _ _ _ _ _ _ _ _ _ _ _ _ _ _ [.int r]
  refine y_aload_n C d_law_1276 2 rfl ?_
  refine y_callM (rest := [.int r]) (V' := some (.int r)) (M2' := M2) (n := 0) C (ct_M_asked C.2.2.2.2.2.2.2.2.2.2.2.1.2 F M2  r hf2) mi_M_asked (by decide) mc_100 ⟨_, cel_M kc_100⟩ rfl rfl wL_L_173 d_law_1277 rfl rfl (Nat.le_of_ble_eq_true rfl) ?_
  show Y _ _ _ _ _ _ _ _ _ _ _ _ _ _ _ _ [.int r, .int r]
  refine y_icmp_eqT C 1386 d_law_1280 (by decide) rfl ?_
  exact K M1 M2 hR2
set_option maxHeartbeats 4000000 in
theorem law_c39 {p : Program} {l : Launch} {e : Env} {s : State} {m : MethodId} {b L : Nat} {xs : Nat → Int32} {below : List Frame} {meth : Method} {c : Code} {D : va_G} {ad : Nat → Nat} {cs : Nat → ClassId} (C : Cy p s m meth c b L xs D ad cs) {F : Nat} (hF : FB ≤ F) {M1 M2 : Mem} (hR : Rel M1 M2) {x3 : Int32} (h1 : vp_in (x3 + 1) L) (h2 : vp_in (x3 + 2) L) (h3 : vp_in (x3 + 3) L) (h4 : vp_in (x3 + 4) L) (h5 : vp_in (x3 + 5) L) (K : ∀ N1 N2, Rel N1 N2 → Y p l e s m b below meth c D ad cs N1 N2 1386 [(0, .ref b), (1, .ref (ad 0)), (2, .ref (ad 100)), (3, .int x3)] []) : Y p l e s m b below meth c D ad cs M1 M2 1285 [(0, .ref b), (1, .ref (ad 0)), (2, .ref (ad 100)), (3, .int x3)] [] := by
  obtain ⟨r, hf1, hf2⟩ := op_upper hF M1 M2 hR
  have hR2 := hR
  refine y_aload_n C d_law_1285 1 rfl ?_
  refine y_callX (rest := []) (V' := some (.long r)) (M1' := M1) (n := 0) C (ct_K_upper C.2.2.2.2.2.2.2.2.2.2.2.1.1 F M1  r hf1) mi_K_upper (by decide) mc_0 ⟨_, cel_K kc_0⟩ rfl rfl wL_L_174 d_law_1286 rfl rfl (Nat.le_of_ble_eq_true rfl) ?_
  show Y _ _ _ _ _ _ _ _ _ _ _ _ _ _ _ _ [.long r]
  refine y_aload_n C d_law_1289 2 rfl ?_
  refine y_callM (rest := [.long r]) (V' := some (.long r)) (M2' := M2) (n := 0) C (ct_M_upper C.2.2.2.2.2.2.2.2.2.2.2.1.2 F M2  r hf2) mi_M_upper (by decide) mc_100 ⟨_, cel_M kc_100⟩ rfl rfl wL_L_178 d_law_1290 rfl rfl (Nat.le_of_ble_eq_true rfl) ?_
  show Y _ _ _ _ _ _ _ _ _ _ _ _ _ _ _ _ [.long r, .long r]
  refine y_lcmp C d_law_1293 ?_
  refine y_if_eqT C 1386 d_law_1294 (by decide) (by simp [lg_cmp]) ?_
  exact K M1 M2 hR2
set_option maxHeartbeats 4000000 in
theorem law_c40 {p : Program} {l : Launch} {e : Env} {s : State} {m : MethodId} {b L : Nat} {xs : Nat → Int32} {below : List Frame} {meth : Method} {c : Code} {D : va_G} {ad : Nat → Nat} {cs : Nat → ClassId} (C : Cy p s m meth c b L xs D ad cs) {F : Nat} (hF : FB ≤ F) {M1 M2 : Mem} (hR : Rel M1 M2) {x3 : Int32} (h1 : vp_in (x3 + 1) L) (h2 : vp_in (x3 + 2) L) (h3 : vp_in (x3 + 3) L) (h4 : vp_in (x3 + 4) L) (h5 : vp_in (x3 + 5) L) (K : ∀ N1 N2, Rel N1 N2 → Y p l e s m b below meth c D ad cs N1 N2 1386 [(0, .ref b), (1, .ref (ad 0)), (2, .ref (ad 100)), (3, .int x3)] []) : Y p l e s m b below meth c D ad cs M1 M2 1299 [(0, .ref b), (1, .ref (ad 0)), (2, .ref (ad 100)), (3, .int x3)] [] := by
  obtain ⟨r, hf1, hf2⟩ := op_lower hF M1 M2 hR
  have hR2 := hR
  refine y_aload_n C d_law_1299 1 rfl ?_
  refine y_callX (rest := []) (V' := some (.long r)) (M1' := M1) (n := 0) C (ct_K_lower C.2.2.2.2.2.2.2.2.2.2.2.1.1 F M1  r hf1) mi_K_lower (by decide) mc_0 ⟨_, cel_K kc_0⟩ rfl rfl wL_L_179 d_law_1300 rfl rfl (Nat.le_of_ble_eq_true rfl) ?_
  show Y _ _ _ _ _ _ _ _ _ _ _ _ _ _ _ _ [.long r]
  refine y_aload_n C d_law_1303 2 rfl ?_
  refine y_callM (rest := [.long r]) (V' := some (.long r)) (M2' := M2) (n := 0) C (ct_M_lower C.2.2.2.2.2.2.2.2.2.2.2.1.2 F M2  r hf2) mi_M_lower (by decide) mc_100 ⟨_, cel_M kc_100⟩ rfl rfl wL_L_182 d_law_1304 rfl rfl (Nat.le_of_ble_eq_true rfl) ?_
  show Y _ _ _ _ _ _ _ _ _ _ _ _ _ _ _ _ [.long r, .long r]
  refine y_lcmp C d_law_1307 ?_
  refine y_if_eqT C 1386 d_law_1308 (by decide) (by simp [lg_cmp]) ?_
  exact K M1 M2 hR2
set_option maxHeartbeats 4000000 in
theorem law_c41 {p : Program} {l : Launch} {e : Env} {s : State} {m : MethodId} {b L : Nat} {xs : Nat → Int32} {below : List Frame} {meth : Method} {c : Code} {D : va_G} {ad : Nat → Nat} {cs : Nat → ClassId} (C : Cy p s m meth c b L xs D ad cs) {F : Nat} (hF : FB ≤ F) {M1 M2 : Mem} (hR : Rel M1 M2) {x3 : Int32} (h1 : vp_in (x3 + 1) L) (h2 : vp_in (x3 + 2) L) (h3 : vp_in (x3 + 3) L) (h4 : vp_in (x3 + 4) L) (h5 : vp_in (x3 + 5) L) (K : ∀ N1 N2, Rel N1 N2 → Y p l e s m b below meth c D ad cs N1 N2 1386 [(0, .ref b), (1, .ref (ad 0)), (2, .ref (ad 100)), (3, .int x3)] []) : Y p l e s m b below meth c D ad cs M1 M2 1313 [(0, .ref b), (1, .ref (ad 0)), (2, .ref (ad 100)), (3, .int x3)] [] := by
  obtain ⟨r, hf1, hf2⟩ := op_count hF M1 M2 (xs (x3 + 1).toNatClampNeg) hR
  have hR2 := hR
  refine y_aload_n C d_law_1313 1 rfl ?_
  refine y_aload_n C d_law_1314 0 rfl ?_
  refine y_iload_n C d_law_1315 3 rfl ?_
  refine y_iconst (v := 1) C d_law_1316 rfl ?_
  refine y_iadd C d_law_1317 ?_
  refine y_sld C h1 d_law_1318 ?_
  refine y_callX (rest := []) (V' := some (.int r)) (M1' := M1) (n := 1) C (ct_K_count C.2.2.2.2.2.2.2.2.2.2.2.1.1 F M1 (xs (x3 + 1).toNatClampNeg) r hf1) mi_K_count (by decide) mc_0 ⟨_, cel_K kc_0⟩ rfl rfl wL_L_183 d_law_1319 rfl rfl (Nat.le_of_ble_eq_true rfl) ?_
  show Y _ _ _ _ _ _ _ _ _ _ _ _ _ _ _ _ [.int r]
  refine y_aload_n C d_law_1322 2 rfl ?_
  refine y_aload_n C d_law_1323 0 rfl ?_
  refine y_iload_n C d_law_1324 3 rfl ?_
  refine y_iconst (v := 1) C d_law_1325 rfl ?_
  refine y_iadd C d_law_1326 ?_
  refine y_sld C h1 d_law_1327 ?_
  refine y_callM (rest := [.int r]) (V' := some (.int r)) (M2' := M2) (n := 1) C (ct_M_count C.2.2.2.2.2.2.2.2.2.2.2.1.2 F M2 (xs (x3 + 1).toNatClampNeg) r hf2) mi_M_count (by decide) mc_100 ⟨_, cel_M kc_100⟩ rfl rfl wL_L_186 d_law_1328 rfl rfl (Nat.le_of_ble_eq_true rfl) ?_
  show Y _ _ _ _ _ _ _ _ _ _ _ _ _ _ _ _ [.int r, .int r]
  refine y_icmp_eqT C 1386 d_law_1331 (by decide) rfl ?_
  exact K M1 M2 hR2
set_option maxHeartbeats 4000000 in
theorem law_c42 {p : Program} {l : Launch} {e : Env} {s : State} {m : MethodId} {b L : Nat} {xs : Nat → Int32} {below : List Frame} {meth : Method} {c : Code} {D : va_G} {ad : Nat → Nat} {cs : Nat → ClassId} (C : Cy p s m meth c b L xs D ad cs) {F : Nat} (hF : FB ≤ F) {M1 M2 : Mem} (hR : Rel M1 M2) {x3 : Int32} (h1 : vp_in (x3 + 1) L) (h2 : vp_in (x3 + 2) L) (h3 : vp_in (x3 + 3) L) (h4 : vp_in (x3 + 4) L) (h5 : vp_in (x3 + 5) L) (K : ∀ N1 N2, Rel N1 N2 → Y p l e s m b below meth c D ad cs N1 N2 1386 [(0, .ref b), (1, .ref (ad 0)), (2, .ref (ad 100)), (3, .int x3)] []) : Y p l e s m b below meth c D ad cs M1 M2 1336 [(0, .ref b), (1, .ref (ad 0)), (2, .ref (ad 100)), (3, .int x3)] [] := by
  obtain ⟨r, hf1, hf2⟩ := op_finding hF M1 M2 hR
  have hR2 := hR
  refine y_aload_n C d_law_1336 1 rfl ?_
  refine y_callX (rest := []) (V' := some (.int r)) (M1' := M1) (n := 0) C (ct_K_finding C.2.2.2.2.2.2.2.2.2.2.2.1.1 F M1  r hf1) mi_K_finding (by decide) mc_0 ⟨_, cel_K kc_0⟩ rfl rfl wL_L_187 d_law_1337 rfl rfl (Nat.le_of_ble_eq_true rfl) ?_
  show Y _ _ _ _ _ _ _ _ _ _ _ _ _ _ _ _ [.int r]
  refine y_aload_n C d_law_1340 2 rfl ?_
  refine y_callM (rest := [.int r]) (V' := some (.int r)) (M2' := M2) (n := 0) C (ct_M_finding C.2.2.2.2.2.2.2.2.2.2.2.1.2 F M2  r hf2) mi_M_finding (by decide) mc_100 ⟨_, cel_M kc_100⟩ rfl rfl wL_L_190 d_law_1341 rfl rfl (Nat.le_of_ble_eq_true rfl) ?_
  show Y _ _ _ _ _ _ _ _ _ _ _ _ _ _ _ _ [.int r, .int r]
  refine y_icmp_eqT C 1386 d_law_1344 (by decide) rfl ?_
  exact K M1 M2 hR2
set_option maxHeartbeats 4000000 in
theorem law_c43 {p : Program} {l : Launch} {e : Env} {s : State} {m : MethodId} {b L : Nat} {xs : Nat → Int32} {below : List Frame} {meth : Method} {c : Code} {D : va_G} {ad : Nat → Nat} {cs : Nat → ClassId} (C : Cy p s m meth c b L xs D ad cs) {F : Nat} (hF : FB ≤ F) {M1 M2 : Mem} (hR : Rel M1 M2) {x3 : Int32} (h1 : vp_in (x3 + 1) L) (h2 : vp_in (x3 + 2) L) (h3 : vp_in (x3 + 3) L) (h4 : vp_in (x3 + 4) L) (h5 : vp_in (x3 + 5) L) (K : ∀ N1 N2, Rel N1 N2 → Y p l e s m b below meth c D ad cs N1 N2 1386 [(0, .ref b), (1, .ref (ad 0)), (2, .ref (ad 100)), (3, .int x3)] []) : Y p l e s m b below meth c D ad cs M1 M2 1349 [(0, .ref b), (1, .ref (ad 0)), (2, .ref (ad 100)), (3, .int x3)] [] := by
  obtain ⟨r, hf1, hf2⟩ := op_findings hF M1 M2 (xs (x3 + 1).toNatClampNeg) hR
  have hR2 := hR
  refine y_aload_n C d_law_1349 1 rfl ?_
  refine y_aload_n C d_law_1350 0 rfl ?_
  refine y_iload_n C d_law_1351 3 rfl ?_
  refine y_iconst (v := 1) C d_law_1352 rfl ?_
  refine y_iadd C d_law_1353 ?_
  refine y_sld C h1 d_law_1354 ?_
  refine y_callX (rest := []) (V' := some (.int r)) (M1' := M1) (n := 1) C (ct_K_findings C.2.2.2.2.2.2.2.2.2.2.2.1.1 F M1 (xs (x3 + 1).toNatClampNeg) r hf1) mi_K_findings (by decide) mc_0 ⟨_, cel_K kc_0⟩ rfl rfl wL_L_191 d_law_1355 rfl rfl (Nat.le_of_ble_eq_true rfl) ?_
  show Y _ _ _ _ _ _ _ _ _ _ _ _ _ _ _ _ [.int r]
  refine y_aload_n C d_law_1358 2 rfl ?_
  refine y_aload_n C d_law_1359 0 rfl ?_
  refine y_iload_n C d_law_1360 3 rfl ?_
  refine y_iconst (v := 1) C d_law_1361 rfl ?_
  refine y_iadd C d_law_1362 ?_
  refine y_sld C h1 d_law_1363 ?_
  refine y_callM (rest := [.int r]) (V' := some (.int r)) (M2' := M2) (n := 1) C (ct_M_findings C.2.2.2.2.2.2.2.2.2.2.2.1.2 F M2 (xs (x3 + 1).toNatClampNeg) r hf2) mi_M_findings (by decide) mc_100 ⟨_, cel_M kc_100⟩ rfl rfl wL_L_194 d_law_1364 rfl rfl (Nat.le_of_ble_eq_true rfl) ?_
  show Y _ _ _ _ _ _ _ _ _ _ _ _ _ _ _ _ [.int r, .int r]
  refine y_icmp_eqT C 1386 d_law_1367 (by decide) rfl ?_
  exact K M1 M2 hR2
set_option maxHeartbeats 4000000 in
theorem law_c44 {p : Program} {l : Launch} {e : Env} {s : State} {m : MethodId} {b L : Nat} {xs : Nat → Int32} {below : List Frame} {meth : Method} {c : Code} {D : va_G} {ad : Nat → Nat} {cs : Nat → ClassId} (C : Cy p s m meth c b L xs D ad cs) {F : Nat} (hF : FB ≤ F) {M1 M2 : Mem} (hR : Rel M1 M2) {x3 : Int32} (h1 : vp_in (x3 + 1) L) (h2 : vp_in (x3 + 2) L) (h3 : vp_in (x3 + 3) L) (h4 : vp_in (x3 + 4) L) (h5 : vp_in (x3 + 5) L) (K : ∀ N1 N2, Rel N1 N2 → Y p l e s m b below meth c D ad cs N1 N2 1386 [(0, .ref b), (1, .ref (ad 0)), (2, .ref (ad 100)), (3, .int x3)] []) : Y p l e s m b below meth c D ad cs M1 M2 1372 [(0, .ref b), (1, .ref (ad 0)), (2, .ref (ad 100)), (3, .int x3)] [] := by
  obtain ⟨r, hf1, hf2⟩ := op_digest hF M1 M2 hR
  have hR2 := hR
  refine y_aload_n C d_law_1372 1 rfl ?_
  refine y_callX (rest := []) (V' := some (.long r)) (M1' := M1) (n := 0) C (ct_K_digest C.2.2.2.2.2.2.2.2.2.2.2.1.1 F M1  r hf1) mi_K_digest (by decide) mc_0 ⟨_, cel_K kc_0⟩ rfl rfl wL_L_195 d_law_1373 rfl rfl (Nat.le_of_ble_eq_true rfl) ?_
  show Y _ _ _ _ _ _ _ _ _ _ _ _ _ _ _ _ [.long r]
  refine y_aload_n C d_law_1376 2 rfl ?_
  refine y_callM (rest := [.long r]) (V' := some (.long r)) (M2' := M2) (n := 0) C (ct_M_digest C.2.2.2.2.2.2.2.2.2.2.2.1.2 F M2  r hf2) mi_M_digest (by decide) mc_100 ⟨_, cel_M kc_100⟩ rfl rfl wL_L_198 d_law_1377 rfl rfl (Nat.le_of_ble_eq_true rfl) ?_
  show Y _ _ _ _ _ _ _ _ _ _ _ _ _ _ _ _ [.long r, .long r]
  refine y_lcmp C d_law_1380 ?_
  refine y_if_eqT C 1386 d_law_1381 (by decide) (by simp [lg_cmp]) ?_
  exact K M1 M2 hR2
theorem vp_in_add {L i j : Nat} (h : i + 6 ≤ L) (hL : L ≤ 3072) (hj : j < 6) : vp_in (nI i + nI j) L := by
  rw [nI_add]
  exact vp_in_nI (by omega) (by omega)
set_option maxHeartbeats 4000000 in
theorem law_loop {p : Program} {l : Launch} {e : Env} {s : State} {m : MethodId} {b L : Nat} {xs : Nat → Int32} {below : List Frame} {meth : Method} {c : Code} {D : va_G} {ad : Nat → Nat} {cs : Nat → ClassId} (C : Cy p s m meth c b L xs D ad cs) (hL : L ≤ 3072) {F : Nat} (hF : FB ≤ F) : ∀ (n i : Nat) (M1 M2 : Mem), L + 7 ≤ i + n → i ≤ L + 6 → Rel M1 M2 → Y p l e s m b below meth c D ad cs M1 M2 18 [(0, .ref b), (1, .ref (ad 0)), (2, .ref (ad 100)), (3, .int (nI i))] [] := by
  intro n
  induction n with
  | zero => intro i M1 M2 h1 h2; omega
  | succ n ih =>
    intro i M1 M2 hin hi hR
    refine y_iload_n C d_law_18 3 rfl ?_
    refine y_aload_n C d_law_19 0 rfl ?_
    refine y_slen C d_law_20 ?_
    refine y_bipush (v := 6) C d_law_21 rfl ?_
    refine y_isub C d_law_23 ?_
    have hsub : (nI L - 6).toInt = (L : Int) - 6 := by
      have h := pk_sub_toInt (a := L) (b := 6) (by omega) (by omega)
      exact h
    have hiI : (nI i).toInt = (i : Int) := nI_toInt (by omega)
    refine y_icmp_gt C 1392 d_law_24 (by decide) (fun g => ?_) (fun g => ?_)
    · refine y_iconst (v := 1) C d_law_1392 rfl ?_
      exact y_ret C d_law_1393
    · have hle : i + 6 ≤ L := by
        rw [Int32.lt_iff_toInt_lt, hsub, hiI] at g
        omega
      have h0 : vp_in (nI i) L := vp_in_nI (by omega) (by omega)
      have h1 : vp_in (nI i + 1) L := vp_in_add (j := 1) hle hL (by decide)
      have h2 : vp_in (nI i + 2) L := vp_in_add (j := 2) hle hL (by decide)
      have h3 : vp_in (nI i + 3) L := vp_in_add (j := 3) hle hL (by decide)
      have h4 : vp_in (nI i + 4) L := vp_in_add (j := 4) hle hL (by decide)
      have h5 : vp_in (nI i + 5) L := vp_in_add (j := 5) hle hL (by decide)
      have K : ∀ N1 N2, Rel N1 N2 → Y p l e s m b below meth c D ad cs N1 N2 1386 [(0, .ref b), (1, .ref (ad 0)), (2, .ref (ad 100)), (3, .int (nI i))] [] := by
        intro N1 N2 hR2
        refine y_iinc (v := nI (i + 6)) (lv' := [(3, .int (nI (i + 6))), (0, .ref b), (1, .ref (ad 0)), (2, .ref (ad 100))]) C d_law_1386 3 rfl (nI_add i 6) (by decide) rfl ?_
        refine y_goto C 18 d_law_1389 (by decide) ?_
        refine y_sub [1, 2, 3, 0] rfl ?_
        exact ih (i + 6) N1 N2 (by omega) (by omega) hR2
      refine y_aload_n C d_law_27 0 rfl ?_
      refine y_iload_n C d_law_28 3 rfl ?_
      refine y_sld C h0 d_law_29 ?_
      refine y_bipush (v := 63) C d_law_30 rfl ?_
      refine y_iand C d_law_32 ?_
      generalize hz : xs (nI i).toNatClampNeg &&& 63 = z
      by_cases g0 : z = 0
      · exact y_tswIn C 228 g0 d_law_33 (by decide) (by decide) rfl (by decide) (law_c0 C hF hR h1 h2 h3 h4 h5 K)
      by_cases g1 : z = 1
      · exact y_tswIn C 261 g1 d_law_33 (by decide) (by decide) rfl (by decide) (law_c1 C hF hR h1 h2 h3 h4 h5 K)
      by_cases g2 : z = 2
      · exact y_tswIn C 304 g2 d_law_33 (by decide) (by decide) rfl (by decide) (law_c2 C hF hR h1 h2 h3 h4 h5 K)
      by_cases g3 : z = 3
      · exact y_tswIn C 337 g3 d_law_33 (by decide) (by decide) rfl (by decide) (law_c3 C hF hR h1 h2 h3 h4 h5 K)
      by_cases g4 : z = 4
      · exact y_tswIn C 360 g4 d_law_33 (by decide) (by decide) rfl (by decide) (law_c4 C hF hR h1 h2 h3 h4 h5 K)
      by_cases g5 : z = 5
      · exact y_tswIn C 423 g5 d_law_33 (by decide) (by decide) rfl (by decide) (law_c5 C hF hR h1 h2 h3 h4 h5 K)
      by_cases g6 : z = 6
      · exact y_tswIn C 446 g6 d_law_33 (by decide) (by decide) rfl (by decide) (law_c6 C hF hR h1 h2 h3 h4 h5 K)
      by_cases g7 : z = 7
      · exact y_tswIn C 479 g7 d_law_33 (by decide) (by decide) rfl (by decide) (law_c7 C hF hR h1 h2 h3 h4 h5 K)
      by_cases g8 : z = 8
      · exact y_tswIn C 522 g8 d_law_33 (by decide) (by decide) rfl (by decide) (law_c8 C hF hR h1 h2 h3 h4 h5 K)
      by_cases g9 : z = 9
      · exact y_tswIn C 545 g9 d_law_33 (by decide) (by decide) rfl (by decide) (law_c9 C hF hR h1 h2 h3 h4 h5 K)
      by_cases g10 : z = 10
      · exact y_tswIn C 568 g10 d_law_33 (by decide) (by decide) rfl (by decide) (law_c10 C hF hR h1 h2 h3 h4 h5 K)
      by_cases g11 : z = 11
      · exact y_tswIn C 601 g11 d_law_33 (by decide) (by decide) rfl (by decide) (law_c11 C hF hR h1 h2 h3 h4 h5 K)
      by_cases g12 : z = 12
      · exact y_tswIn C 634 g12 d_law_33 (by decide) (by decide) rfl (by decide) (law_c12 C hF hR h1 h2 h3 h4 h5 K)
      by_cases g13 : z = 13
      · exact y_tswIn C 667 g13 d_law_33 (by decide) (by decide) rfl (by decide) (law_c13 C hF hR h1 h2 h3 h4 h5 K)
      by_cases g14 : z = 14
      · exact y_tswIn C 700 g14 d_law_33 (by decide) (by decide) rfl (by decide) (law_c14 C hF hR h1 h2 h3 h4 h5 K)
      by_cases g15 : z = 15
      · exact y_tswIn C 733 g15 d_law_33 (by decide) (by decide) rfl (by decide) (law_c15 C hF hR h1 h2 h3 h4 h5 K)
      by_cases g16 : z = 16
      · exact y_tswIn C 756 g16 d_law_33 (by decide) (by decide) rfl (by decide) (law_c16 C hF hR h1 h2 h3 h4 h5 K)
      by_cases g17 : z = 17
      · exact y_tswIn C 789 g17 d_law_33 (by decide) (by decide) rfl (by decide) (law_c17 C hF hR h1 h2 h3 h4 h5 K)
      by_cases g18 : z = 18
      · exact y_tswIn C 802 g18 d_law_33 (by decide) (by decide) rfl (by decide) (law_c18 C hF hR h1 h2 h3 h4 h5 K)
      by_cases g19 : z = 19
      · exact y_tswIn C 825 g19 d_law_33 (by decide) (by decide) rfl (by decide) (law_c19 C hF hR h1 h2 h3 h4 h5 K)
      by_cases g20 : z = 20
      · exact y_tswIn C 848 g20 d_law_33 (by decide) (by decide) rfl (by decide) (law_c20 C hF hR h1 h2 h3 h4 h5 K)
      by_cases g21 : z = 21
      · exact y_tswIn C 871 g21 d_law_33 (by decide) (by decide) rfl (by decide) (law_c21 C hF hR h1 h2 h3 h4 h5 K)
      by_cases g22 : z = 22
      · exact y_tswIn C 914 g22 d_law_33 (by decide) (by decide) rfl (by decide) (law_c22 C hF hR h1 h2 h3 h4 h5 K)
      by_cases g23 : z = 23
      · exact y_tswIn C 937 g23 d_law_33 (by decide) (by decide) rfl (by decide) (law_c23 C hF hR h1 h2 h3 h4 h5 K)
      by_cases g24 : z = 24
      · exact y_tswIn C 970 g24 d_law_33 (by decide) (by decide) rfl (by decide) (law_c24 C hF hR h1 h2 h3 h4 h5 K)
      by_cases g25 : z = 25
      · exact y_tswIn C 993 g25 d_law_33 (by decide) (by decide) rfl (by decide) (law_c25 C hF hR h1 h2 h3 h4 h5 K)
      by_cases g26 : z = 26
      · exact y_tswIn C 1016 g26 d_law_33 (by decide) (by decide) rfl (by decide) (law_c26 C hF hR h1 h2 h3 h4 h5 K)
      by_cases g27 : z = 27
      · exact y_tswIn C 1039 g27 d_law_33 (by decide) (by decide) rfl (by decide) (law_c27 C hF hR h1 h2 h3 h4 h5 K)
      by_cases g28 : z = 28
      · exact y_tswIn C 1052 g28 d_law_33 (by decide) (by decide) rfl (by decide) (law_c28 C hF hR h1 h2 h3 h4 h5 K)
      by_cases g29 : z = 29
      · exact y_tswIn C 1085 g29 d_law_33 (by decide) (by decide) rfl (by decide) (law_c29 C hF hR h1 h2 h3 h4 h5 K)
      by_cases g30 : z = 30
      · exact y_tswIn C 1098 g30 d_law_33 (by decide) (by decide) rfl (by decide) (law_c30 C hF hR h1 h2 h3 h4 h5 K)
      by_cases g31 : z = 31
      · exact y_tswIn C 1111 g31 d_law_33 (by decide) (by decide) rfl (by decide) (law_c31 C hF hR h1 h2 h3 h4 h5 K)
      by_cases g32 : z = 32
      · exact y_tswIn C 1124 g32 d_law_33 (by decide) (by decide) rfl (by decide) (law_c32 C hF hR h1 h2 h3 h4 h5 K)
      by_cases g33 : z = 33
      · exact y_tswIn C 1147 g33 d_law_33 (by decide) (by decide) rfl (by decide) (law_c33 C hF hR h1 h2 h3 h4 h5 K)
      by_cases g34 : z = 34
      · exact y_tswIn C 1180 g34 d_law_33 (by decide) (by decide) rfl (by decide) (law_c34 C hF hR h1 h2 h3 h4 h5 K)
      by_cases g35 : z = 35
      · exact y_tswIn C 1203 g35 d_law_33 (by decide) (by decide) rfl (by decide) (law_c35 C hF hR h1 h2 h3 h4 h5 K)
      by_cases g36 : z = 36
      · exact y_tswIn C 1226 g36 d_law_33 (by decide) (by decide) rfl (by decide) (law_c36 C hF hR h1 h2 h3 h4 h5 K)
      by_cases g37 : z = 37
      · exact y_tswIn C 1239 g37 d_law_33 (by decide) (by decide) rfl (by decide) (law_c37 C hF hR h1 h2 h3 h4 h5 K)
      by_cases g38 : z = 38
      · exact y_tswIn C 1272 g38 d_law_33 (by decide) (by decide) rfl (by decide) (law_c38 C hF hR h1 h2 h3 h4 h5 K)
      by_cases g39 : z = 39
      · exact y_tswIn C 1285 g39 d_law_33 (by decide) (by decide) rfl (by decide) (law_c39 C hF hR h1 h2 h3 h4 h5 K)
      by_cases g40 : z = 40
      · exact y_tswIn C 1299 g40 d_law_33 (by decide) (by decide) rfl (by decide) (law_c40 C hF hR h1 h2 h3 h4 h5 K)
      by_cases g41 : z = 41
      · exact y_tswIn C 1313 g41 d_law_33 (by decide) (by decide) rfl (by decide) (law_c41 C hF hR h1 h2 h3 h4 h5 K)
      by_cases g42 : z = 42
      · exact y_tswIn C 1336 g42 d_law_33 (by decide) (by decide) rfl (by decide) (law_c42 C hF hR h1 h2 h3 h4 h5 K)
      by_cases g43 : z = 43
      · exact y_tswIn C 1349 g43 d_law_33 (by decide) (by decide) rfl (by decide) (law_c43 C hF hR h1 h2 h3 h4 h5 K)
      by_cases g44 : z = 44
      · exact y_tswIn C 1372 g44 d_law_33 (by decide) (by decide) rfl (by decide) (law_c44 C hF hR h1 h2 h3 h4 h5 K)
      have hsw : z.toInt < 0 ∨ 44 < z.toInt := by
        have q0 := lv_neT g0 (a := 0) rfl
        have q1 := lv_neT g1 (a := 1) rfl
        have q2 := lv_neT g2 (a := 2) rfl
        have q3 := lv_neT g3 (a := 3) rfl
        have q4 := lv_neT g4 (a := 4) rfl
        have q5 := lv_neT g5 (a := 5) rfl
        have q6 := lv_neT g6 (a := 6) rfl
        have q7 := lv_neT g7 (a := 7) rfl
        have q8 := lv_neT g8 (a := 8) rfl
        have q9 := lv_neT g9 (a := 9) rfl
        have q10 := lv_neT g10 (a := 10) rfl
        have q11 := lv_neT g11 (a := 11) rfl
        have q12 := lv_neT g12 (a := 12) rfl
        have q13 := lv_neT g13 (a := 13) rfl
        have q14 := lv_neT g14 (a := 14) rfl
        have q15 := lv_neT g15 (a := 15) rfl
        have q16 := lv_neT g16 (a := 16) rfl
        have q17 := lv_neT g17 (a := 17) rfl
        have q18 := lv_neT g18 (a := 18) rfl
        have q19 := lv_neT g19 (a := 19) rfl
        have q20 := lv_neT g20 (a := 20) rfl
        have q21 := lv_neT g21 (a := 21) rfl
        have q22 := lv_neT g22 (a := 22) rfl
        have q23 := lv_neT g23 (a := 23) rfl
        have q24 := lv_neT g24 (a := 24) rfl
        have q25 := lv_neT g25 (a := 25) rfl
        have q26 := lv_neT g26 (a := 26) rfl
        have q27 := lv_neT g27 (a := 27) rfl
        have q28 := lv_neT g28 (a := 28) rfl
        have q29 := lv_neT g29 (a := 29) rfl
        have q30 := lv_neT g30 (a := 30) rfl
        have q31 := lv_neT g31 (a := 31) rfl
        have q32 := lv_neT g32 (a := 32) rfl
        have q33 := lv_neT g33 (a := 33) rfl
        have q34 := lv_neT g34 (a := 34) rfl
        have q35 := lv_neT g35 (a := 35) rfl
        have q36 := lv_neT g36 (a := 36) rfl
        have q37 := lv_neT g37 (a := 37) rfl
        have q38 := lv_neT g38 (a := 38) rfl
        have q39 := lv_neT g39 (a := 39) rfl
        have q40 := lv_neT g40 (a := 40) rfl
        have q41 := lv_neT g41 (a := 41) rfl
        have q42 := lv_neT g42 (a := 42) rfl
        have q43 := lv_neT g43 (a := 43) rfl
        have q44 := lv_neT g44 (a := 44) rfl
        omega
      exact y_tswOut C 1386 d_law_33 hsw (by decide) (K M1 M2 hR)
