set_option maxHeartbeats 1000000 in
set_option maxRecDepth 100000 in
theorem g_case0 {Inv : k_St → k_St → Prop} (sim : g_s0 Inv) {p : Program} {l : Launch} {e : Env} {s : State} {m : MethodId} {below : List Frame} {meth : Method} {c : Code} {b L i : Nat} {xs : Nat → Int32} {wX wM : k_WC} {ao : Nat} {σX σM : k_St} {fo : Nat → Int64} {H : Heap} {locs : List Loc} {cells slots : Nat} {Q : State → Prop} {ls : Array Slot} (hs : g_St p l s m meth c b L xs wX wM ao) (hc : cells + 1 ≤ 601024) (hsl : slots + 6 ≤ 7293034) (hi : i + 6 ≤ L) (hI : Inv σX σM) (hD : g_Dy s wX wM ao σX σM fo H) (hS : va_S (g_A s) s.heap H locs) (hl : lv_has ls 7 (g_L b i ao wX wM)) (K : g_Nx Inv p l e s m below meth c b i wX wM ao (cells + 1) (slots + 6) Q) : W p l e room_1 s m #[Value.ref b] below meth c H locs cells slots Q (F0 m 248 ls []) := by
  have hx := hs.1.1
  have hb := hs.1.2.1
  have hsim := sim σX σM hI ((xs (i + 1))) ((xs (i + 2))) ((xs (i + 3))) ((xs (i + 4))) ((xs (i + 5)))
  obtain ⟨r, σX1, σM1, hX, hM, hI1⟩ := hsim
  refine lv_aload_n hx hb dL_law_248 rfl (lv_at hl 1 rfl) ?_
  refine g_ld (k := 1) hs hS dL_law_249 dL_law_250 dL_law_252 dL_law_253 dL_law_254 hl rfl rfl (by omega) ?_
  refine g_ld (k := 2) hs hS dL_law_255 dL_law_256 dL_law_258 dL_law_259 dL_law_260 hl rfl rfl (by omega) ?_
  refine g_ld (k := 3) hs hS dL_law_261 dL_law_262 dL_law_264 dL_law_265 dL_law_266 hl rfl rfl (by omega) ?_
  refine g_ld (k := 4) hs hS dL_law_267 dL_law_268 dL_law_270 dL_law_271 dL_law_272 hl rfl rfl (by omega) ?_
  refine g_ld (k := 5) hs hS dL_law_273 dL_law_274 dL_law_276 dL_law_277 dL_law_278 hl rfl rfl (by omega) ?_
  refine g_callXI (As := [.int (xs (i + 1)), .int (xs (i + 2)), .int (xs (i + 3)), .int (xs (i + 4)), .int (xs (i + 5))]) (rest := []) hs hD hS (e_X11_feed (w := wX) (d := 3) (Nat.le_refl _) hX) g_l19 k_yX11_feed ⟨Nat.le_of_ble_eq_true rfl, Nat.le_of_ble_eq_true rfl⟩ dL_law_279 hl rfl (Nat.le_of_ble_eq_true rfl) (by omega) (by omega) (fun H1 locs1 hD1 hS1 => ?_)
  refine lv_aload_n hx hb dL_law_282 rfl (lv_at hl 2 rfl) ?_
  refine g_ld (k := 1) hs hS1 dL_law_283 dL_law_284 dL_law_286 dL_law_287 dL_law_288 hl rfl rfl (by omega) ?_
  refine g_ld (k := 2) hs hS1 dL_law_289 dL_law_290 dL_law_292 dL_law_293 dL_law_294 hl rfl rfl (by omega) ?_
  refine g_ld (k := 3) hs hS1 dL_law_295 dL_law_296 dL_law_298 dL_law_299 dL_law_300 hl rfl rfl (by omega) ?_
  refine g_ld (k := 4) hs hS1 dL_law_301 dL_law_302 dL_law_304 dL_law_305 dL_law_306 hl rfl rfl (by omega) ?_
  refine g_ld (k := 5) hs hS1 dL_law_307 dL_law_308 dL_law_310 dL_law_311 dL_law_312 hl rfl rfl (by omega) ?_
  refine g_callMI (As := [.int (xs (i + 1)), .int (xs (i + 2)), .int (xs (i + 3)), .int (xs (i + 4)), .int (xs (i + 5))]) (rest := [.int r]) hs hD1 hS1 (e_X12_feed (w := wM) (d := 3) (Nat.le_refl _) hM) g_l23 k_yX12_feed ⟨Nat.le_of_ble_eq_true rfl, Nat.le_of_ble_eq_true rfl⟩ dL_law_313 hl rfl (Nat.le_of_ble_eq_true rfl) (by omega) (by omega) (fun H2 locs2 hD2 hS2 => ?_)
  refine lv_icmp_eq (tgt := 1963) hx hb dL_law_316 (by decide) (fun _ => ?_) (fun c9 => absurd rfl c9)
  exact W.widen (k := cells + 1) (n := slots + 6) (by omega) (by omega) (K _ _ _ _ _ _ hI1 hD2 hS2 hl)
set_option maxHeartbeats 1000000 in
set_option maxRecDepth 100000 in
theorem g_case1 {Inv : k_St → k_St → Prop} (sim : g_s1 Inv) {p : Program} {l : Launch} {e : Env} {s : State} {m : MethodId} {below : List Frame} {meth : Method} {c : Code} {b L i : Nat} {xs : Nat → Int32} {wX wM : k_WC} {ao : Nat} {σX σM : k_St} {fo : Nat → Int64} {H : Heap} {locs : List Loc} {cells slots : Nat} {Q : State → Prop} {ls : Array Slot} (hs : g_St p l s m meth c b L xs wX wM ao) (hc : cells + 1 ≤ 601024) (hsl : slots + 6 ≤ 7293034) (hi : i + 6 ≤ L) (hI : Inv σX σM) (hD : g_Dy s wX wM ao σX σM fo H) (hS : va_S (g_A s) s.heap H locs) (hl : lv_has ls 7 (g_L b i ao wX wM)) (K : g_Nx Inv p l e s m below meth c b i wX wM ao (cells + 1) (slots + 6) Q) : W p l e room_1 s m #[Value.ref b] below meth c H locs cells slots Q (F0 m 321 ls []) := by
  have hx := hs.1.1
  have hb := hs.1.2.1
  have hsim := sim σX σM hI ((xs (i + 1)))
  obtain ⟨r, σX1, σM1, hX, hM, hI1⟩ := hsim
  refine lv_aload_n hx hb dL_law_321 rfl (lv_at hl 1 rfl) ?_
  refine g_ld (k := 1) hs hS dL_law_322 dL_law_323 dL_law_325 dL_law_326 dL_law_327 hl rfl rfl (by omega) ?_
  refine g_callXI (As := [.int (xs (i + 1))]) (rest := []) hs hD hS (e_X11_end (w := wX) (d := 3) (Nat.le_refl _) hX) g_l24 k_yX11_end ⟨Nat.le_of_ble_eq_true rfl, Nat.le_of_ble_eq_true rfl⟩ dL_law_328 hl rfl (Nat.le_of_ble_eq_true rfl) (by omega) (by omega) (fun H1 locs1 hD1 hS1 => ?_)
  refine lv_aload_n hx hb dL_law_331 rfl (lv_at hl 2 rfl) ?_
  refine g_ld (k := 1) hs hS1 dL_law_332 dL_law_333 dL_law_335 dL_law_336 dL_law_337 hl rfl rfl (by omega) ?_
  refine g_callMI (As := [.int (xs (i + 1))]) (rest := [.int r]) hs hD1 hS1 (e_X12_end (w := wM) (d := 2) (Nat.le_refl _) hM) g_l28 k_yX12_end ⟨Nat.le_of_ble_eq_true rfl, Nat.le_of_ble_eq_true rfl⟩ dL_law_338 hl rfl (Nat.le_of_ble_eq_true rfl) (by omega) (by omega) (fun H2 locs2 hD2 hS2 => ?_)
  refine lv_icmp_eq (tgt := 1963) hx hb dL_law_341 (by decide) (fun _ => ?_) (fun c9 => absurd rfl c9)
  exact W.widen (k := cells + 1) (n := slots + 6) (by omega) (by omega) (K _ _ _ _ _ _ hI1 hD2 hS2 hl)
set_option maxHeartbeats 1000000 in
set_option maxRecDepth 100000 in
theorem g_case2 {Inv : k_St → k_St → Prop} (sim : g_s2 Inv) {p : Program} {l : Launch} {e : Env} {s : State} {m : MethodId} {below : List Frame} {meth : Method} {c : Code} {b L i : Nat} {xs : Nat → Int32} {wX wM : k_WC} {ao : Nat} {σX σM : k_St} {fo : Nat → Int64} {H : Heap} {locs : List Loc} {cells slots : Nat} {Q : State → Prop} {ls : Array Slot} (hs : g_St p l s m meth c b L xs wX wM ao) (hc : cells + 1 ≤ 601024) (hsl : slots + 6 ≤ 7293034) (hi : i + 6 ≤ L) (hI : Inv σX σM) (hD : g_Dy s wX wM ao σX σM fo H) (hS : va_S (g_A s) s.heap H locs) (hl : lv_has ls 7 (g_L b i ao wX wM)) (K : g_Nx Inv p l e s m below meth c b i wX wM ao (cells + 1) (slots + 6) Q) : W p l e room_1 s m #[Value.ref b] below meth c H locs cells slots Q (F0 m 346 ls []) := by
  have hx := hs.1.1
  have hb := hs.1.2.1
  have hsim := sim σX σM hI ((xs (i + 1)))
  obtain ⟨r, σX1, σM1, hX, hM, hI1⟩ := hsim
  refine lv_aload_n hx hb dL_law_346 rfl (lv_at hl 1 rfl) ?_
  refine g_ld (k := 1) hs hS dL_law_347 dL_law_348 dL_law_350 dL_law_351 dL_law_352 hl rfl rfl (by omega) ?_
  refine g_callXI (As := [.int (xs (i + 1))]) (rest := []) hs hD hS (e_X11_fault (w := wX) (d := 112) (Nat.le_refl _) hX) g_l29 k_yX11_fault ⟨Nat.le_of_ble_eq_true rfl, Nat.le_of_ble_eq_true rfl⟩ dL_law_353 hl rfl (Nat.le_of_ble_eq_true rfl) (by omega) (by omega) (fun H1 locs1 hD1 hS1 => ?_)
  refine lv_aload_n hx hb dL_law_356 rfl (lv_at hl 2 rfl) ?_
  refine g_ld (k := 1) hs hS1 dL_law_357 dL_law_358 dL_law_360 dL_law_361 dL_law_362 hl rfl rfl (by omega) ?_
  refine g_callMI (As := [.int (xs (i + 1))]) (rest := [.int r]) hs hD1 hS1 (e_X12_fault (w := wM) (d := 153) (Nat.le_refl _) hM) g_l33 k_yX12_fault ⟨Nat.le_of_ble_eq_true rfl, Nat.le_of_ble_eq_true rfl⟩ dL_law_363 hl rfl (Nat.le_of_ble_eq_true rfl) (by omega) (by omega) (fun H2 locs2 hD2 hS2 => ?_)
  refine lv_icmp_eq (tgt := 1963) hx hb dL_law_366 (by decide) (fun _ => ?_) (fun c9 => absurd rfl c9)
  exact W.widen (k := cells + 1) (n := slots + 6) (by omega) (by omega) (K _ _ _ _ _ _ hI1 hD2 hS2 hl)
set_option maxHeartbeats 1000000 in
set_option maxRecDepth 100000 in
theorem g_case3 {Inv : k_St → k_St → Prop} (sim : g_s3 Inv) {p : Program} {l : Launch} {e : Env} {s : State} {m : MethodId} {below : List Frame} {meth : Method} {c : Code} {b L i : Nat} {xs : Nat → Int32} {wX wM : k_WC} {ao : Nat} {σX σM : k_St} {fo : Nat → Int64} {H : Heap} {locs : List Loc} {cells slots : Nat} {Q : State → Prop} {ls : Array Slot} (hs : g_St p l s m meth c b L xs wX wM ao) (hc : cells + 1 ≤ 601024) (hsl : slots + 6 ≤ 7293034) (hi : i + 6 ≤ L) (hI : Inv σX σM) (hD : g_Dy s wX wM ao σX σM fo H) (hS : va_S (g_A s) s.heap H locs) (hl : lv_has ls 7 (g_L b i ao wX wM)) (K : g_Nx Inv p l e s m below meth c b i wX wM ao (cells + 1) (slots + 6) Q) : W p l e room_1 s m #[Value.ref b] below meth c H locs cells slots Q (F0 m 371 ls []) := by
  have hx := hs.1.1
  have hb := hs.1.2.1
  have hsim := sim σX σM hI ((xs (i + 1)))
  obtain ⟨r, σX1, σM1, hX, hM, hI1⟩ := hsim
  refine lv_aload_n hx hb dL_law_371 rfl (lv_at hl 1 rfl) ?_
  refine g_ld (k := 1) hs hS dL_law_372 dL_law_373 dL_law_375 dL_law_376 dL_law_377 hl rfl rfl (by omega) ?_
  refine g_callXI (As := [.int (xs (i + 1))]) (rest := []) hs hD hS (e_X11_text (w := wX) (d := 112) (Nat.le_refl _) hX) g_l34 k_yX11_text ⟨Nat.le_of_ble_eq_true rfl, Nat.le_of_ble_eq_true rfl⟩ dL_law_378 hl rfl (Nat.le_of_ble_eq_true rfl) (by omega) (by omega) (fun H1 locs1 hD1 hS1 => ?_)
  refine lv_aload_n hx hb dL_law_381 rfl (lv_at hl 2 rfl) ?_
  refine g_ld (k := 1) hs hS1 dL_law_382 dL_law_383 dL_law_385 dL_law_386 dL_law_387 hl rfl rfl (by omega) ?_
  refine g_callMI (As := [.int (xs (i + 1))]) (rest := [.int r]) hs hD1 hS1 (e_X12_text (w := wM) (d := 153) (Nat.le_refl _) hM) g_l37 k_yX12_text ⟨Nat.le_of_ble_eq_true rfl, Nat.le_of_ble_eq_true rfl⟩ dL_law_388 hl rfl (Nat.le_of_ble_eq_true rfl) (by omega) (by omega) (fun H2 locs2 hD2 hS2 => ?_)
  refine lv_icmp_eq (tgt := 1963) hx hb dL_law_391 (by decide) (fun _ => ?_) (fun c9 => absurd rfl c9)
  exact W.widen (k := cells + 1) (n := slots + 6) (by omega) (by omega) (K _ _ _ _ _ _ hI1 hD2 hS2 hl)
set_option maxHeartbeats 1000000 in
set_option maxRecDepth 100000 in
theorem g_case5 {Inv : k_St → k_St → Prop} (sim : g_s5 Inv) {p : Program} {l : Launch} {e : Env} {s : State} {m : MethodId} {below : List Frame} {meth : Method} {c : Code} {b L i : Nat} {xs : Nat → Int32} {wX wM : k_WC} {ao : Nat} {σX σM : k_St} {fo : Nat → Int64} {H : Heap} {locs : List Loc} {cells slots : Nat} {Q : State → Prop} {ls : Array Slot} (hs : g_St p l s m meth c b L xs wX wM ao) (hc : cells + 1 ≤ 601024) (hsl : slots + 6 ≤ 7293034) (hi : i + 6 ≤ L) (hI : Inv σX σM) (hD : g_Dy s wX wM ao σX σM fo H) (hS : va_S (g_A s) s.heap H locs) (hl : lv_has ls 7 (g_L b i ao wX wM)) (K : g_Nx Inv p l e s m below meth c b i wX wM ao (cells + 1) (slots + 6) Q) : W p l e room_1 s m #[Value.ref b] below meth c H locs cells slots Q (F0 m 464 ls []) := by
  have hx := hs.1.1
  have hb := hs.1.2.1
  have hsim := sim σX σM hI ((xs (i + 1)))
  obtain ⟨r, σX1, σM1, hX, hM, hI1⟩ := hsim
  refine lv_aload_n hx hb dL_law_464 rfl (lv_at hl 1 rfl) ?_
  refine g_ld (k := 1) hs hS dL_law_465 dL_law_466 dL_law_468 dL_law_469 dL_law_470 hl rfl rfl (by omega) ?_
  refine g_callXI (As := [.int (xs (i + 1))]) (rest := []) hs hD hS (e_X11_worth (w := wX) (d := 112) (Nat.le_refl _) hX) g_l48 k_yX11_worth ⟨Nat.le_of_ble_eq_true rfl, Nat.le_of_ble_eq_true rfl⟩ dL_law_471 hl rfl (Nat.le_of_ble_eq_true rfl) (by omega) (by omega) (fun H1 locs1 hD1 hS1 => ?_)
  refine lv_aload_n hx hb dL_law_474 rfl (lv_at hl 2 rfl) ?_
  refine g_ld (k := 1) hs hS1 dL_law_475 dL_law_476 dL_law_478 dL_law_479 dL_law_480 hl rfl rfl (by omega) ?_
  refine g_callMI (As := [.int (xs (i + 1))]) (rest := [.int r]) hs hD1 hS1 (e_X12_worth (w := wM) (d := 3) (Nat.le_refl _) hM) g_l51 k_yX12_worth ⟨Nat.le_of_ble_eq_true rfl, Nat.le_of_ble_eq_true rfl⟩ dL_law_481 hl rfl (Nat.le_of_ble_eq_true rfl) (by omega) (by omega) (fun H2 locs2 hD2 hS2 => ?_)
  refine lv_icmp_eq (tgt := 1963) hx hb dL_law_484 (by decide) (fun _ => ?_) (fun c9 => absurd rfl c9)
  exact W.widen (k := cells + 1) (n := slots + 6) (by omega) (by omega) (K _ _ _ _ _ _ hI1 hD2 hS2 hl)
set_option maxHeartbeats 1000000 in
set_option maxRecDepth 100000 in
theorem g_case6 {Inv : k_St → k_St → Prop} (sim : g_s6 Inv) {p : Program} {l : Launch} {e : Env} {s : State} {m : MethodId} {below : List Frame} {meth : Method} {c : Code} {b L i : Nat} {xs : Nat → Int32} {wX wM : k_WC} {ao : Nat} {σX σM : k_St} {fo : Nat → Int64} {H : Heap} {locs : List Loc} {cells slots : Nat} {Q : State → Prop} {ls : Array Slot} (hs : g_St p l s m meth c b L xs wX wM ao) (hc : cells + 1 ≤ 601024) (hsl : slots + 6 ≤ 7293034) (hi : i + 6 ≤ L) (hI : Inv σX σM) (hD : g_Dy s wX wM ao σX σM fo H) (hS : va_S (g_A s) s.heap H locs) (hl : lv_has ls 7 (g_L b i ao wX wM)) (K : g_Nx Inv p l e s m below meth c b i wX wM ao (cells + 1) (slots + 6) Q) : W p l e room_1 s m #[Value.ref b] below meth c H locs cells slots Q (F0 m 489 ls []) := by
  have hx := hs.1.1
  have hb := hs.1.2.1
  have hsim := sim σX σM hI ((xs (i + 1))) ((g_b (xs (i + 2)))) (g_b01 _)
  obtain ⟨r, σX1, σM1, hX, hM, hI1⟩ := hsim
  refine lv_aload_n hx hb dL_law_489 rfl (lv_at hl 1 rfl) ?_
  refine g_ld (k := 1) hs hS dL_law_490 dL_law_491 dL_law_493 dL_law_494 dL_law_495 hl rfl rfl (by omega) ?_
  refine g_ldb (k := 2) hs hS dL_law_496 dL_law_497 dL_law_499 dL_law_500 dL_law_501 dL_law_502 dL_law_505 dL_law_506 dL_law_509 hl rfl rfl (by omega) ?_
  refine g_callXI (As := [.int (xs (i + 1)), .int (g_b (xs (i + 2)))]) (rest := []) hs hD hS (e_X11_set (w := wX) (d := 3) (Nat.le_refl _) hX) g_l52 k_yX11_set ⟨Nat.le_of_ble_eq_true rfl, Nat.le_of_ble_eq_true rfl⟩ dL_law_510 hl rfl (Nat.le_of_ble_eq_true rfl) (by omega) (by omega) (fun H1 locs1 hD1 hS1 => ?_)
  refine lv_aload_n hx hb dL_law_513 rfl (lv_at hl 2 rfl) ?_
  refine g_ld (k := 1) hs hS1 dL_law_514 dL_law_515 dL_law_517 dL_law_518 dL_law_519 hl rfl rfl (by omega) ?_
  refine g_ldb (k := 2) hs hS1 dL_law_520 dL_law_521 dL_law_523 dL_law_524 dL_law_525 dL_law_526 dL_law_529 dL_law_530 dL_law_533 hl rfl rfl (by omega) ?_
  refine g_callMI (As := [.int (xs (i + 1)), .int (g_b (xs (i + 2)))]) (rest := [.int r]) hs hD1 hS1 (e_X12_set (w := wM) (d := 3) (Nat.le_refl _) hM) g_l56 k_yX12_set ⟨Nat.le_of_ble_eq_true rfl, Nat.le_of_ble_eq_true rfl⟩ dL_law_534 hl rfl (Nat.le_of_ble_eq_true rfl) (by omega) (by omega) (fun H2 locs2 hD2 hS2 => ?_)
  refine lv_icmp_eq (tgt := 1963) hx hb dL_law_537 (by decide) (fun _ => ?_) (fun c9 => absurd rfl c9)
  exact W.widen (k := cells + 1) (n := slots + 6) (by omega) (by omega) (K _ _ _ _ _ _ hI1 hD2 hS2 hl)
set_option maxHeartbeats 1000000 in
set_option maxRecDepth 100000 in
theorem g_case7 {Inv : k_St → k_St → Prop} (sim : g_s7 Inv) {p : Program} {l : Launch} {e : Env} {s : State} {m : MethodId} {below : List Frame} {meth : Method} {c : Code} {b L i : Nat} {xs : Nat → Int32} {wX wM : k_WC} {ao : Nat} {σX σM : k_St} {fo : Nat → Int64} {H : Heap} {locs : List Loc} {cells slots : Nat} {Q : State → Prop} {ls : Array Slot} (hs : g_St p l s m meth c b L xs wX wM ao) (hc : cells + 1 ≤ 601024) (hsl : slots + 6 ≤ 7293034) (hi : i + 6 ≤ L) (hI : Inv σX σM) (hD : g_Dy s wX wM ao σX σM fo H) (hS : va_S (g_A s) s.heap H locs) (hl : lv_has ls 7 (g_L b i ao wX wM)) (K : g_Nx Inv p l e s m below meth c b i wX wM ao (cells + 1) (slots + 6) Q) : W p l e room_1 s m #[Value.ref b] below meth c H locs cells slots Q (F0 m 542 ls []) := by
  have hx := hs.1.1
  have hb := hs.1.2.1
  have hsim := sim σX σM hI ((xs (i + 1)))
  obtain ⟨r, σX1, σM1, hX, hM, hI1⟩ := hsim
  refine lv_aload_n hx hb dL_law_542 rfl (lv_at hl 1 rfl) ?_
  refine g_ld (k := 1) hs hS dL_law_543 dL_law_544 dL_law_546 dL_law_547 dL_law_548 hl rfl rfl (by omega) ?_
  refine g_callXI (As := [.int (xs (i + 1))]) (rest := []) hs hD hS (e_X11_tugs (w := wX) (d := 4) (Nat.le_refl _) hX) g_l57 k_yX11_tugs ⟨Nat.le_of_ble_eq_true rfl, Nat.le_of_ble_eq_true rfl⟩ dL_law_549 hl rfl (Nat.le_of_ble_eq_true rfl) (by omega) (by omega) (fun H1 locs1 hD1 hS1 => ?_)
  refine lv_aload_n hx hb dL_law_552 rfl (lv_at hl 2 rfl) ?_
  refine g_ld (k := 1) hs hS1 dL_law_553 dL_law_554 dL_law_556 dL_law_557 dL_law_558 hl rfl rfl (by omega) ?_
  refine g_callMI (As := [.int (xs (i + 1))]) (rest := [.int r]) hs hD1 hS1 (e_X12_tugs (w := wM) (d := 4) (Nat.le_refl _) hM) g_l60 k_yX12_tugs ⟨Nat.le_of_ble_eq_true rfl, Nat.le_of_ble_eq_true rfl⟩ dL_law_559 hl rfl (Nat.le_of_ble_eq_true rfl) (by omega) (by omega) (fun H2 locs2 hD2 hS2 => ?_)
  refine lv_icmp_eq (tgt := 1963) hx hb dL_law_562 (by decide) (fun _ => ?_) (fun c9 => absurd rfl c9)
  exact W.widen (k := cells + 1) (n := slots + 6) (by omega) (by omega) (K _ _ _ _ _ _ hI1 hD2 hS2 hl)
set_option maxHeartbeats 1000000 in
set_option maxRecDepth 100000 in
theorem g_case8 {Inv : k_St → k_St → Prop} (sim : g_s8 Inv) {p : Program} {l : Launch} {e : Env} {s : State} {m : MethodId} {below : List Frame} {meth : Method} {c : Code} {b L i : Nat} {xs : Nat → Int32} {wX wM : k_WC} {ao : Nat} {σX σM : k_St} {fo : Nat → Int64} {H : Heap} {locs : List Loc} {cells slots : Nat} {Q : State → Prop} {ls : Array Slot} (hs : g_St p l s m meth c b L xs wX wM ao) (hc : cells + 1 ≤ 601024) (hsl : slots + 6 ≤ 7293034) (hi : i + 6 ≤ L) (hI : Inv σX σM) (hD : g_Dy s wX wM ao σX σM fo H) (hS : va_S (g_A s) s.heap H locs) (hl : lv_has ls 7 (g_L b i ao wX wM)) (K : g_Nx Inv p l e s m below meth c b i wX wM ao (cells + 1) (slots + 6) Q) : W p l e room_1 s m #[Value.ref b] below meth c H locs cells slots Q (F0 m 567 ls []) := by
  have hx := hs.1.1
  have hb := hs.1.2.1
  have hsim := sim σX σM hI ((xs (i + 1))) ((xs (i + 2))) ((xs (i + 3)))
  obtain ⟨r, σX1, σM1, hX, hM, hI1⟩ := hsim
  refine lv_aload_n hx hb dL_law_567 rfl (lv_at hl 1 rfl) ?_
  refine g_ld (k := 1) hs hS dL_law_568 dL_law_569 dL_law_571 dL_law_572 dL_law_573 hl rfl rfl (by omega) ?_
  refine g_ld (k := 2) hs hS dL_law_574 dL_law_575 dL_law_577 dL_law_578 dL_law_579 hl rfl rfl (by omega) ?_
  refine g_ld (k := 3) hs hS dL_law_580 dL_law_581 dL_law_583 dL_law_584 dL_law_585 hl rfl rfl (by omega) ?_
  refine g_callXI (As := [.int (xs (i + 1)), .int (xs (i + 2)), .int (xs (i + 3))]) (rest := []) hs hD hS (e_X11_throwTo (w := wX) (d := 4) (Nat.le_refl _) hX) g_l61 k_yX11_throwTo ⟨Nat.le_of_ble_eq_true rfl, Nat.le_of_ble_eq_true rfl⟩ dL_law_586 hl rfl (Nat.le_of_ble_eq_true rfl) (by omega) (by omega) (fun H1 locs1 hD1 hS1 => ?_)
  refine lv_aload_n hx hb dL_law_589 rfl (lv_at hl 2 rfl) ?_
  refine g_ld (k := 1) hs hS1 dL_law_590 dL_law_591 dL_law_593 dL_law_594 dL_law_595 hl rfl rfl (by omega) ?_
  refine g_ld (k := 2) hs hS1 dL_law_596 dL_law_597 dL_law_599 dL_law_600 dL_law_601 hl rfl rfl (by omega) ?_
  refine g_ld (k := 3) hs hS1 dL_law_602 dL_law_603 dL_law_605 dL_law_606 dL_law_607 hl rfl rfl (by omega) ?_
  refine g_callMI (As := [.int (xs (i + 1)), .int (xs (i + 2)), .int (xs (i + 3))]) (rest := [.int r]) hs hD1 hS1 (e_X12_throwTo (w := wM) (d := 4) (Nat.le_refl _) hM) g_l65 k_yX12_throwTo ⟨Nat.le_of_ble_eq_true rfl, Nat.le_of_ble_eq_true rfl⟩ dL_law_608 hl rfl (Nat.le_of_ble_eq_true rfl) (by omega) (by omega) (fun H2 locs2 hD2 hS2 => ?_)
  refine lv_icmp_eq (tgt := 1963) hx hb dL_law_611 (by decide) (fun _ => ?_) (fun c9 => absurd rfl c9)
  exact W.widen (k := cells + 1) (n := slots + 6) (by omega) (by omega) (K _ _ _ _ _ _ hI1 hD2 hS2 hl)
set_option maxHeartbeats 1000000 in
set_option maxRecDepth 100000 in
theorem g_case9 {Inv : k_St → k_St → Prop} (sim : g_s9 Inv) {p : Program} {l : Launch} {e : Env} {s : State} {m : MethodId} {below : List Frame} {meth : Method} {c : Code} {b L i : Nat} {xs : Nat → Int32} {wX wM : k_WC} {ao : Nat} {σX σM : k_St} {fo : Nat → Int64} {H : Heap} {locs : List Loc} {cells slots : Nat} {Q : State → Prop} {ls : Array Slot} (hs : g_St p l s m meth c b L xs wX wM ao) (hc : cells + 1 ≤ 601024) (hsl : slots + 6 ≤ 7293034) (hi : i + 6 ≤ L) (hI : Inv σX σM) (hD : g_Dy s wX wM ao σX σM fo H) (hS : va_S (g_A s) s.heap H locs) (hl : lv_has ls 7 (g_L b i ao wX wM)) (K : g_Nx Inv p l e s m below meth c b i wX wM ao (cells + 1) (slots + 6) Q) : W p l e room_1 s m #[Value.ref b] below meth c H locs cells slots Q (F0 m 616 ls []) := by
  have hx := hs.1.1
  have hb := hs.1.2.1
  have hsim := sim σX σM hI ((xs (i + 1))) ((xs (i + 2)))
  obtain ⟨r, hX, hM⟩ := hsim
  refine lv_aload_n hx hb dL_law_616 rfl (lv_at hl 1 rfl) ?_
  refine g_ld (k := 1) hs hS dL_law_617 dL_law_618 dL_law_620 dL_law_621 dL_law_622 hl rfl rfl (by omega) ?_
  refine g_ld (k := 2) hs hS dL_law_623 dL_law_624 dL_law_626 dL_law_627 dL_law_628 hl rfl rfl (by omega) ?_
  refine g_callXI (As := [.int (xs (i + 1)), .int (xs (i + 2))]) (rest := []) hs hD hS (e_X11_thrown (w := wX) (d := 4) (Nat.le_refl _) hX) g_l66 k_yX11_thrown ⟨Nat.le_of_ble_eq_true rfl, Nat.le_of_ble_eq_true rfl⟩ dL_law_629 hl rfl (Nat.le_of_ble_eq_true rfl) (by omega) (by omega) (fun H1 locs1 hD1 hS1 => ?_)
  refine lv_aload_n hx hb dL_law_632 rfl (lv_at hl 2 rfl) ?_
  refine g_ld (k := 1) hs hS1 dL_law_633 dL_law_634 dL_law_636 dL_law_637 dL_law_638 hl rfl rfl (by omega) ?_
  refine g_ld (k := 2) hs hS1 dL_law_639 dL_law_640 dL_law_642 dL_law_643 dL_law_644 hl rfl rfl (by omega) ?_
  refine g_callMI (As := [.int (xs (i + 1)), .int (xs (i + 2))]) (rest := [.int r]) hs hD1 hS1 (e_X12_thrown_ (w := wM) (d := 4) (Nat.le_refl _) hM) g_l68 k_yX12_thrown_ ⟨Nat.le_of_ble_eq_true rfl, Nat.le_of_ble_eq_true rfl⟩ dL_law_645 hl rfl (Nat.le_of_ble_eq_true rfl) (by omega) (by omega) (fun H2 locs2 hD2 hS2 => ?_)
  refine lv_icmp_eq (tgt := 1963) hx hb dL_law_648 (by decide) (fun _ => ?_) (fun c9 => absurd rfl c9)
  exact W.widen (k := cells + 1) (n := slots + 6) (by omega) (by omega) (K _ _ _ _ _ _ hI hD2 hS2 hl)
set_option maxHeartbeats 1000000 in
set_option maxRecDepth 100000 in
theorem g_case10 {Inv : k_St → k_St → Prop} (sim : g_s10 Inv) {p : Program} {l : Launch} {e : Env} {s : State} {m : MethodId} {below : List Frame} {meth : Method} {c : Code} {b L i : Nat} {xs : Nat → Int32} {wX wM : k_WC} {ao : Nat} {σX σM : k_St} {fo : Nat → Int64} {H : Heap} {locs : List Loc} {cells slots : Nat} {Q : State → Prop} {ls : Array Slot} (hs : g_St p l s m meth c b L xs wX wM ao) (hc : cells + 1 ≤ 601024) (hsl : slots + 6 ≤ 7293034) (hi : i + 6 ≤ L) (hI : Inv σX σM) (hD : g_Dy s wX wM ao σX σM fo H) (hS : va_S (g_A s) s.heap H locs) (hl : lv_has ls 7 (g_L b i ao wX wM)) (K : g_Nx Inv p l e s m below meth c b i wX wM ao (cells + 1) (slots + 6) Q) : W p l e room_1 s m #[Value.ref b] below meth c H locs cells slots Q (F0 m 653 ls []) := by
  have hx := hs.1.1
  have hb := hs.1.2.1
  have hsim := sim σX σM hI
  obtain ⟨r, σX1, σM1, hX, hM, hI1⟩ := hsim
  refine lv_aload_n hx hb dL_law_653 rfl (lv_at hl 1 rfl) ?_
  refine g_callXI (As := []) (rest := []) hs hD hS (e_X11_answer (w := wX) (d := 6) (Nat.le_refl _) hX) g_l69 k_yX11_answer ⟨Nat.le_of_ble_eq_true rfl, Nat.le_of_ble_eq_true rfl⟩ dL_law_654 hl rfl (Nat.le_of_ble_eq_true rfl) (by omega) (by omega) (fun H1 locs1 hD1 hS1 => ?_)
  refine lv_aload_n hx hb dL_law_657 rfl (lv_at hl 2 rfl) ?_
  refine g_callMI (As := []) (rest := [.int r]) hs hD1 hS1 (e_X12_answer (w := wM) (d := 9) (Nat.le_refl _) hM) g_l73 k_yX12_answer ⟨Nat.le_of_ble_eq_true rfl, Nat.le_of_ble_eq_true rfl⟩ dL_law_658 hl rfl (Nat.le_of_ble_eq_true rfl) (by omega) (by omega) (fun H2 locs2 hD2 hS2 => ?_)
  refine lv_icmp_eq (tgt := 1963) hx hb dL_law_661 (by decide) (fun _ => ?_) (fun c9 => absurd rfl c9)
  exact W.widen (k := cells + 1) (n := slots + 6) (by omega) (by omega) (K _ _ _ _ _ _ hI1 hD2 hS2 hl)
set_option maxHeartbeats 1000000 in
set_option maxRecDepth 100000 in
theorem g_case11 {Inv : k_St → k_St → Prop} (sim : g_s11 Inv) {p : Program} {l : Launch} {e : Env} {s : State} {m : MethodId} {below : List Frame} {meth : Method} {c : Code} {b L i : Nat} {xs : Nat → Int32} {wX wM : k_WC} {ao : Nat} {σX σM : k_St} {fo : Nat → Int64} {H : Heap} {locs : List Loc} {cells slots : Nat} {Q : State → Prop} {ls : Array Slot} (hs : g_St p l s m meth c b L xs wX wM ao) (hc : cells + 1 ≤ 601024) (hsl : slots + 6 ≤ 7293034) (hi : i + 6 ≤ L) (hI : Inv σX σM) (hD : g_Dy s wX wM ao σX σM fo H) (hS : va_S (g_A s) s.heap H locs) (hl : lv_has ls 7 (g_L b i ao wX wM)) (K : g_Nx Inv p l e s m below meth c b i wX wM ao (cells + 1) (slots + 6) Q) : W p l e room_1 s m #[Value.ref b] below meth c H locs cells slots Q (F0 m 666 ls []) := by
  have hx := hs.1.1
  have hb := hs.1.2.1
  have hsim := sim σX σM hI ((xs (i + 1))) ((xs (i + 2)))
  obtain ⟨r, σX1, σM1, hX, hM, hI1⟩ := hsim
  refine lv_aload_n hx hb dL_law_666 rfl (lv_at hl 1 rfl) ?_
  refine g_ld (k := 1) hs hS dL_law_667 dL_law_668 dL_law_670 dL_law_671 dL_law_672 hl rfl rfl (by omega) ?_
  refine g_ld (k := 2) hs hS dL_law_673 dL_law_674 dL_law_676 dL_law_677 dL_law_678 hl rfl rfl (by omega) ?_
  refine g_callXI (As := [.int (xs (i + 1)), .int (xs (i + 2))]) (rest := []) hs hD hS (e_X11_answerTo (w := wX) (d := 6) (Nat.le_refl _) hX) g_l74 k_yX11_answerTo ⟨Nat.le_of_ble_eq_true rfl, Nat.le_of_ble_eq_true rfl⟩ dL_law_679 hl rfl (Nat.le_of_ble_eq_true rfl) (by omega) (by omega) (fun H1 locs1 hD1 hS1 => ?_)
  refine lv_aload_n hx hb dL_law_682 rfl (lv_at hl 2 rfl) ?_
  refine g_ld (k := 1) hs hS1 dL_law_683 dL_law_684 dL_law_686 dL_law_687 dL_law_688 hl rfl rfl (by omega) ?_
  refine g_ld (k := 2) hs hS1 dL_law_689 dL_law_690 dL_law_692 dL_law_693 dL_law_694 hl rfl rfl (by omega) ?_
  refine g_callMI (As := [.int (xs (i + 1)), .int (xs (i + 2))]) (rest := [.int r]) hs hD1 hS1 (e_X12_answerTo (w := wM) (d := 9) (Nat.le_refl _) hM) g_l77 k_yX12_answerTo ⟨Nat.le_of_ble_eq_true rfl, Nat.le_of_ble_eq_true rfl⟩ dL_law_695 hl rfl (Nat.le_of_ble_eq_true rfl) (by omega) (by omega) (fun H2 locs2 hD2 hS2 => ?_)
  refine lv_icmp_eq (tgt := 1963) hx hb dL_law_698 (by decide) (fun _ => ?_) (fun c9 => absurd rfl c9)
  exact W.widen (k := cells + 1) (n := slots + 6) (by omega) (by omega) (K _ _ _ _ _ _ hI1 hD2 hS2 hl)
set_option maxHeartbeats 1000000 in
set_option maxRecDepth 100000 in
theorem g_case12 {Inv : k_St → k_St → Prop} (sim : g_s12 Inv) {p : Program} {l : Launch} {e : Env} {s : State} {m : MethodId} {below : List Frame} {meth : Method} {c : Code} {b L i : Nat} {xs : Nat → Int32} {wX wM : k_WC} {ao : Nat} {σX σM : k_St} {fo : Nat → Int64} {H : Heap} {locs : List Loc} {cells slots : Nat} {Q : State → Prop} {ls : Array Slot} (hs : g_St p l s m meth c b L xs wX wM ao) (hc : cells + 1 ≤ 601024) (hsl : slots + 6 ≤ 7293034) (hi : i + 6 ≤ L) (hI : Inv σX σM) (hD : g_Dy s wX wM ao σX σM fo H) (hS : va_S (g_A s) s.heap H locs) (hl : lv_has ls 7 (g_L b i ao wX wM)) (K : g_Nx Inv p l e s m below meth c b i wX wM ao (cells + 1) (slots + 6) Q) : W p l e room_1 s m #[Value.ref b] below meth c H locs cells slots Q (F0 m 703 ls []) := by
  have hx := hs.1.1
  have hb := hs.1.2.1
  have hsim := sim σX σM hI ((xs (i + 1)))
  obtain ⟨r, σM1, hX, hM, hI1⟩ := hsim
  refine lv_aload_n hx hb dL_law_703 rfl (lv_at hl 1 rfl) ?_
  refine g_ld (k := 1) hs hS dL_law_704 dL_law_705 dL_law_707 dL_law_708 dL_law_709 hl rfl rfl (by omega) ?_
  refine g_callXI (As := [.int (xs (i + 1))]) (rest := []) hs hD hS (e_X11_mean (w := wX) (d := 7) (Nat.le_refl _) hX) g_l78 k_yX11_mean ⟨Nat.le_of_ble_eq_true rfl, Nat.le_of_ble_eq_true rfl⟩ dL_law_710 hl rfl (Nat.le_of_ble_eq_true rfl) (by omega) (by omega) (fun H1 locs1 hD1 hS1 => ?_)
  refine lv_aload_n hx hb dL_law_713 rfl (lv_at hl 2 rfl) ?_
  refine g_ld (k := 1) hs hS1 dL_law_714 dL_law_715 dL_law_717 dL_law_718 dL_law_719 hl rfl rfl (by omega) ?_
  refine g_callMI (As := [.int (xs (i + 1))]) (rest := [.int r]) hs hD1 hS1 (e_X12_mean (w := wM) (d := 205) (Nat.le_refl _) hM) g_l81 k_yX12_mean ⟨Nat.le_of_ble_eq_true rfl, Nat.le_of_ble_eq_true rfl⟩ dL_law_720 hl rfl (Nat.le_of_ble_eq_true rfl) (by omega) (by omega) (fun H2 locs2 hD2 hS2 => ?_)
  refine lv_icmp_eq (tgt := 1963) hx hb dL_law_723 (by decide) (fun _ => ?_) (fun c9 => absurd rfl c9)
  exact W.widen (k := cells + 1) (n := slots + 6) (by omega) (by omega) (K _ _ _ _ _ _ hI1 hD2 hS2 hl)
set_option maxHeartbeats 1000000 in
set_option maxRecDepth 100000 in
theorem g_case13 {Inv : k_St → k_St → Prop} (sim : g_s13 Inv) {p : Program} {l : Launch} {e : Env} {s : State} {m : MethodId} {below : List Frame} {meth : Method} {c : Code} {b L i : Nat} {xs : Nat → Int32} {wX wM : k_WC} {ao : Nat} {σX σM : k_St} {fo : Nat → Int64} {H : Heap} {locs : List Loc} {cells slots : Nat} {Q : State → Prop} {ls : Array Slot} (hs : g_St p l s m meth c b L xs wX wM ao) (hc : cells + 1 ≤ 601024) (hsl : slots + 6 ≤ 7293034) (hi : i + 6 ≤ L) (hI : Inv σX σM) (hD : g_Dy s wX wM ao σX σM fo H) (hS : va_S (g_A s) s.heap H locs) (hl : lv_has ls 7 (g_L b i ao wX wM)) (K : g_Nx Inv p l e s m below meth c b i wX wM ao (cells + 1) (slots + 6) Q) : W p l e room_1 s m #[Value.ref b] below meth c H locs cells slots Q (F0 m 728 ls []) := by
  have hx := hs.1.1
  have hb := hs.1.2.1
  have hsim := sim σX σM hI ((xs (i + 1))) ((xs (i + 2)))
  obtain ⟨r, σX1, σM1, hX, hM, hI1⟩ := hsim
  refine lv_aload_n hx hb dL_law_728 rfl (lv_at hl 1 rfl) ?_
  refine g_ld (k := 1) hs hS dL_law_729 dL_law_730 dL_law_732 dL_law_733 dL_law_734 hl rfl rfl (by omega) ?_
  refine g_ld (k := 2) hs hS dL_law_735 dL_law_736 dL_law_738 dL_law_739 dL_law_740 hl rfl rfl (by omega) ?_
  refine g_callXI (As := [.int (xs (i + 1)), .int (xs (i + 2))]) (rest := []) hs hD hS (e_X11_tongue (w := wX) (d := 18) (Nat.le_refl _) hX) g_l82 k_yX11_tongue ⟨Nat.le_of_ble_eq_true rfl, Nat.le_of_ble_eq_true rfl⟩ dL_law_741 hl rfl (Nat.le_of_ble_eq_true rfl) (by omega) (by omega) (fun H1 locs1 hD1 hS1 => ?_)
  refine lv_aload_n hx hb dL_law_744 rfl (lv_at hl 2 rfl) ?_
  refine g_ld (k := 1) hs hS1 dL_law_745 dL_law_746 dL_law_748 dL_law_749 dL_law_750 hl rfl rfl (by omega) ?_
  refine g_ld (k := 2) hs hS1 dL_law_751 dL_law_752 dL_law_754 dL_law_755 dL_law_756 hl rfl rfl (by omega) ?_
  refine g_callMI (As := [.int (xs (i + 1)), .int (xs (i + 2))]) (rest := [.int r]) hs hD1 hS1 (e_X12_tongue (w := wM) (d := 205) (Nat.le_refl _) hM) g_l85 k_yX12_tongue ⟨Nat.le_of_ble_eq_true rfl, Nat.le_of_ble_eq_true rfl⟩ dL_law_757 hl rfl (Nat.le_of_ble_eq_true rfl) (by omega) (by omega) (fun H2 locs2 hD2 hS2 => ?_)
  refine lv_icmp_eq (tgt := 1963) hx hb dL_law_760 (by decide) (fun _ => ?_) (fun c9 => absurd rfl c9)
  exact W.widen (k := cells + 1) (n := slots + 6) (by omega) (by omega) (K _ _ _ _ _ _ hI1 hD2 hS2 hl)
set_option maxHeartbeats 1000000 in
set_option maxRecDepth 100000 in
theorem g_case14 {Inv : k_St → k_St → Prop} (sim : g_s14 Inv) {p : Program} {l : Launch} {e : Env} {s : State} {m : MethodId} {below : List Frame} {meth : Method} {c : Code} {b L i : Nat} {xs : Nat → Int32} {wX wM : k_WC} {ao : Nat} {σX σM : k_St} {fo : Nat → Int64} {H : Heap} {locs : List Loc} {cells slots : Nat} {Q : State → Prop} {ls : Array Slot} (hs : g_St p l s m meth c b L xs wX wM ao) (hc : cells + 1 ≤ 601024) (hsl : slots + 6 ≤ 7293034) (hi : i + 6 ≤ L) (hI : Inv σX σM) (hD : g_Dy s wX wM ao σX σM fo H) (hS : va_S (g_A s) s.heap H locs) (hl : lv_has ls 7 (g_L b i ao wX wM)) (K : g_Nx Inv p l e s m below meth c b i wX wM ao (cells + 1) (slots + 6) Q) : W p l e room_1 s m #[Value.ref b] below meth c H locs cells slots Q (F0 m 765 ls []) := by
  have hx := hs.1.1
  have hb := hs.1.2.1
  have hsim := sim σX σM hI ((g_b (xs (i + 1)))) ((g_b (xs (i + 2)))) ((xs (i + 3))) (g_b01 _) (g_b01 _)
  obtain ⟨r, σX1, σM1, hX, hM, hI1⟩ := hsim
  refine lv_aload_n hx hb dL_law_765 rfl (lv_at hl 1 rfl) ?_
  refine g_ldb (k := 1) hs hS dL_law_766 dL_law_767 dL_law_769 dL_law_770 dL_law_771 dL_law_772 dL_law_775 dL_law_776 dL_law_779 hl rfl rfl (by omega) ?_
  refine g_ldb (k := 2) hs hS dL_law_780 dL_law_781 dL_law_783 dL_law_784 dL_law_785 dL_law_786 dL_law_789 dL_law_790 dL_law_793 hl rfl rfl (by omega) ?_
  refine g_ld (k := 3) hs hS dL_law_794 dL_law_795 dL_law_797 dL_law_798 dL_law_799 hl rfl rfl (by omega) ?_
  refine g_callXI (As := [.int (g_b (xs (i + 1))), .int (g_b (xs (i + 2))), .int (xs (i + 3))]) (rest := []) hs hD hS (e_X11_sense (w := wX) (d := 19) (Nat.le_refl _) hX) g_l86 k_yX11_sense ⟨Nat.le_of_ble_eq_true rfl, Nat.le_of_ble_eq_true rfl⟩ dL_law_800 hl rfl (Nat.le_of_ble_eq_true rfl) (by omega) (by omega) (fun H1 locs1 hD1 hS1 => ?_)
  refine lv_aload_n hx hb dL_law_803 rfl (lv_at hl 2 rfl) ?_
  refine g_ldb (k := 1) hs hS1 dL_law_804 dL_law_805 dL_law_807 dL_law_808 dL_law_809 dL_law_810 dL_law_813 dL_law_814 dL_law_817 hl rfl rfl (by omega) ?_
  refine g_ldb (k := 2) hs hS1 dL_law_818 dL_law_819 dL_law_821 dL_law_822 dL_law_823 dL_law_824 dL_law_827 dL_law_828 dL_law_831 hl rfl rfl (by omega) ?_
  refine g_ld (k := 3) hs hS1 dL_law_832 dL_law_833 dL_law_835 dL_law_836 dL_law_837 hl rfl rfl (by omega) ?_
  refine g_callMI (As := [.int (g_b (xs (i + 1))), .int (g_b (xs (i + 2))), .int (xs (i + 3))]) (rest := [.int r]) hs hD1 hS1 (e_X12_sense (w := wM) (d := 205) (Nat.le_refl _) hM) g_l90 k_yX12_sense ⟨Nat.le_of_ble_eq_true rfl, Nat.le_of_ble_eq_true rfl⟩ dL_law_838 hl rfl (Nat.le_of_ble_eq_true rfl) (by omega) (by omega) (fun H2 locs2 hD2 hS2 => ?_)
  refine lv_icmp_eq (tgt := 1963) hx hb dL_law_841 (by decide) (fun _ => ?_) (fun c9 => absurd rfl c9)
  exact W.widen (k := cells + 1) (n := slots + 6) (by omega) (by omega) (K _ _ _ _ _ _ hI1 hD2 hS2 hl)
set_option maxHeartbeats 1000000 in
set_option maxRecDepth 100000 in
theorem g_case15 {Inv : k_St → k_St → Prop} (sim : g_s15 Inv) {p : Program} {l : Launch} {e : Env} {s : State} {m : MethodId} {below : List Frame} {meth : Method} {c : Code} {b L i : Nat} {xs : Nat → Int32} {wX wM : k_WC} {ao : Nat} {σX σM : k_St} {fo : Nat → Int64} {H : Heap} {locs : List Loc} {cells slots : Nat} {Q : State → Prop} {ls : Array Slot} (hs : g_St p l s m meth c b L xs wX wM ao) (hc : cells + 1 ≤ 601024) (hsl : slots + 6 ≤ 7293034) (hi : i + 6 ≤ L) (hI : Inv σX σM) (hD : g_Dy s wX wM ao σX σM fo H) (hS : va_S (g_A s) s.heap H locs) (hl : lv_has ls 7 (g_L b i ao wX wM)) (K : g_Nx Inv p l e s m below meth c b i wX wM ao (cells + 1) (slots + 6) Q) : W p l e room_1 s m #[Value.ref b] below meth c H locs cells slots Q (F0 m 846 ls []) := by
  have hx := hs.1.1
  have hb := hs.1.2.1
  have hsim := sim σX σM hI ((xs (i + 1)))
  obtain ⟨r, σX1, σM1, hX, hM, hI1⟩ := hsim
  refine lv_aload_n hx hb dL_law_846 rfl (lv_at hl 1 rfl) ?_
  refine g_ld (k := 1) hs hS dL_law_847 dL_law_848 dL_law_850 dL_law_851 dL_law_852 hl rfl rfl (by omega) ?_
  refine g_callXI (As := [.int (xs (i + 1))]) (rest := []) hs hD hS (e_X11_settled (w := wX) (d := 7) (Nat.le_refl _) hX) g_l91 k_yX11_settled ⟨Nat.le_of_ble_eq_true rfl, Nat.le_of_ble_eq_true rfl⟩ dL_law_853 hl rfl (Nat.le_of_ble_eq_true rfl) (by omega) (by omega) (fun H1 locs1 hD1 hS1 => ?_)
  refine lv_aload_n hx hb dL_law_856 rfl (lv_at hl 2 rfl) ?_
  refine g_ld (k := 1) hs hS1 dL_law_857 dL_law_858 dL_law_860 dL_law_861 dL_law_862 hl rfl rfl (by omega) ?_
  refine g_callMI (As := [.int (xs (i + 1))]) (rest := [.int r]) hs hD1 hS1 (e_X12_settled (w := wM) (d := 11) (Nat.le_refl _) hM) g_l94 k_yX12_settled ⟨Nat.le_of_ble_eq_true rfl, Nat.le_of_ble_eq_true rfl⟩ dL_law_863 hl rfl (Nat.le_of_ble_eq_true rfl) (by omega) (by omega) (fun H2 locs2 hD2 hS2 => ?_)
  refine lv_icmp_eq (tgt := 1963) hx hb dL_law_866 (by decide) (fun _ => ?_) (fun c9 => absurd rfl c9)
  exact W.widen (k := cells + 1) (n := slots + 6) (by omega) (by omega) (K _ _ _ _ _ _ hI1 hD2 hS2 hl)
set_option maxHeartbeats 1000000 in
set_option maxRecDepth 100000 in
theorem g_case16 {Inv : k_St → k_St → Prop} (sim : g_s16 Inv) {p : Program} {l : Launch} {e : Env} {s : State} {m : MethodId} {below : List Frame} {meth : Method} {c : Code} {b L i : Nat} {xs : Nat → Int32} {wX wM : k_WC} {ao : Nat} {σX σM : k_St} {fo : Nat → Int64} {H : Heap} {locs : List Loc} {cells slots : Nat} {Q : State → Prop} {ls : Array Slot} (hs : g_St p l s m meth c b L xs wX wM ao) (hc : cells + 1 ≤ 601024) (hsl : slots + 6 ≤ 7293034) (hi : i + 6 ≤ L) (hI : Inv σX σM) (hD : g_Dy s wX wM ao σX σM fo H) (hS : va_S (g_A s) s.heap H locs) (hl : lv_has ls 7 (g_L b i ao wX wM)) (K : g_Nx Inv p l e s m below meth c b i wX wM ao (cells + 1) (slots + 6) Q) : W p l e room_1 s m #[Value.ref b] below meth c H locs cells slots Q (F0 m 871 ls []) := by
  have hx := hs.1.1
  have hb := hs.1.2.1
  have hsim := sim σX σM hI ((xs (i + 1)))
  obtain ⟨r, σX1, σM1, hX, hM, hI1⟩ := hsim
  refine lv_aload_n hx hb dL_law_871 rfl (lv_at hl 1 rfl) ?_
  refine g_ld (k := 1) hs hS dL_law_872 dL_law_873 dL_law_875 dL_law_876 dL_law_877 hl rfl rfl (by omega) ?_
  refine g_callXI (As := [.int (xs (i + 1))]) (rest := []) hs hD hS (e_X11_worst (w := wX) (d := 7) (Nat.le_refl _) hX) g_l95 k_yX11_worst ⟨Nat.le_of_ble_eq_true rfl, Nat.le_of_ble_eq_true rfl⟩ dL_law_878 hl rfl (Nat.le_of_ble_eq_true rfl) (by omega) (by omega) (fun H1 locs1 hD1 hS1 => ?_)
  refine lv_aload_n hx hb dL_law_881 rfl (lv_at hl 2 rfl) ?_
  refine g_ld (k := 1) hs hS1 dL_law_882 dL_law_883 dL_law_885 dL_law_886 dL_law_887 hl rfl rfl (by omega) ?_
  refine g_callMI (As := [.int (xs (i + 1))]) (rest := [.int r]) hs hD1 hS1 (e_X12_worst (w := wM) (d := 205) (Nat.le_refl _) hM) g_l98 k_yX12_worst ⟨Nat.le_of_ble_eq_true rfl, Nat.le_of_ble_eq_true rfl⟩ dL_law_888 hl rfl (Nat.le_of_ble_eq_true rfl) (by omega) (by omega) (fun H2 locs2 hD2 hS2 => ?_)
  refine lv_icmp_eq (tgt := 1963) hx hb dL_law_891 (by decide) (fun _ => ?_) (fun c9 => absurd rfl c9)
  exact W.widen (k := cells + 1) (n := slots + 6) (by omega) (by omega) (K _ _ _ _ _ _ hI1 hD2 hS2 hl)
set_option maxHeartbeats 1000000 in
set_option maxRecDepth 100000 in
theorem g_case17 {Inv : k_St → k_St → Prop} (sim : g_s17 Inv) {p : Program} {l : Launch} {e : Env} {s : State} {m : MethodId} {below : List Frame} {meth : Method} {c : Code} {b L i : Nat} {xs : Nat → Int32} {wX wM : k_WC} {ao : Nat} {σX σM : k_St} {fo : Nat → Int64} {H : Heap} {locs : List Loc} {cells slots : Nat} {Q : State → Prop} {ls : Array Slot} (hs : g_St p l s m meth c b L xs wX wM ao) (hc : cells + 1 ≤ 601024) (hsl : slots + 6 ≤ 7293034) (hi : i + 6 ≤ L) (hI : Inv σX σM) (hD : g_Dy s wX wM ao σX σM fo H) (hS : va_S (g_A s) s.heap H locs) (hl : lv_has ls 7 (g_L b i ao wX wM)) (K : g_Nx Inv p l e s m below meth c b i wX wM ao (cells + 1) (slots + 6) Q) : W p l e room_1 s m #[Value.ref b] below meth c H locs cells slots Q (F0 m 896 ls []) := by
  have hx := hs.1.1
  have hb := hs.1.2.1
  have hsim := sim σX σM hI ((xs (i + 1))) ((xs (i + 2))) ((xs (i + 3)))
  obtain ⟨r, σX1, σM1, hX, hM, hI1⟩ := hsim
  refine lv_aload_n hx hb dL_law_896 rfl (lv_at hl 1 rfl) ?_
  refine g_ld (k := 1) hs hS dL_law_897 dL_law_898 dL_law_900 dL_law_901 dL_law_902 hl rfl rfl (by omega) ?_
  refine g_ld (k := 2) hs hS dL_law_903 dL_law_904 dL_law_906 dL_law_907 dL_law_908 hl rfl rfl (by omega) ?_
  refine g_ld (k := 3) hs hS dL_law_909 dL_law_910 dL_law_912 dL_law_913 dL_law_914 hl rfl rfl (by omega) ?_
  refine g_callXI (As := [.int (xs (i + 1)), .int (xs (i + 2)), .int (xs (i + 3))]) (rest := []) hs hD hS (e_X11_code (w := wX) (d := 6) (Nat.le_refl _) hX) g_l99 k_yX11_code ⟨Nat.le_of_ble_eq_true rfl, Nat.le_of_ble_eq_true rfl⟩ dL_law_915 hl rfl (Nat.le_of_ble_eq_true rfl) (by omega) (by omega) (fun H1 locs1 hD1 hS1 => ?_)
  refine lv_aload_n hx hb dL_law_918 rfl (lv_at hl 2 rfl) ?_
  refine g_ld (k := 1) hs hS1 dL_law_919 dL_law_920 dL_law_922 dL_law_923 dL_law_924 hl rfl rfl (by omega) ?_
  refine g_ld (k := 2) hs hS1 dL_law_925 dL_law_926 dL_law_928 dL_law_929 dL_law_930 hl rfl rfl (by omega) ?_
  refine g_ld (k := 3) hs hS1 dL_law_931 dL_law_932 dL_law_934 dL_law_935 dL_law_936 hl rfl rfl (by omega) ?_
  refine g_callMI (As := [.int (xs (i + 1)), .int (xs (i + 2)), .int (xs (i + 3))]) (rest := [.int r]) hs hD1 hS1 (e_X12_code (w := wM) (d := 4) (Nat.le_refl _) hM) g_l103 k_yX12_code ⟨Nat.le_of_ble_eq_true rfl, Nat.le_of_ble_eq_true rfl⟩ dL_law_937 hl rfl (Nat.le_of_ble_eq_true rfl) (by omega) (by omega) (fun H2 locs2 hD2 hS2 => ?_)
  refine lv_icmp_eq (tgt := 1963) hx hb dL_law_940 (by decide) (fun _ => ?_) (fun c9 => absurd rfl c9)
  exact W.widen (k := cells + 1) (n := slots + 6) (by omega) (by omega) (K _ _ _ _ _ _ hI1 hD2 hS2 hl)
set_option maxHeartbeats 1000000 in
set_option maxRecDepth 100000 in
theorem g_case18 {Inv : k_St → k_St → Prop} (sim : g_s18 Inv) {p : Program} {l : Launch} {e : Env} {s : State} {m : MethodId} {below : List Frame} {meth : Method} {c : Code} {b L i : Nat} {xs : Nat → Int32} {wX wM : k_WC} {ao : Nat} {σX σM : k_St} {fo : Nat → Int64} {H : Heap} {locs : List Loc} {cells slots : Nat} {Q : State → Prop} {ls : Array Slot} (hs : g_St p l s m meth c b L xs wX wM ao) (hc : cells + 1 ≤ 601024) (hsl : slots + 6 ≤ 7293034) (hi : i + 6 ≤ L) (hI : Inv σX σM) (hD : g_Dy s wX wM ao σX σM fo H) (hS : va_S (g_A s) s.heap H locs) (hl : lv_has ls 7 (g_L b i ao wX wM)) (K : g_Nx Inv p l e s m below meth c b i wX wM ao (cells + 1) (slots + 6) Q) : W p l e room_1 s m #[Value.ref b] below meth c H locs cells slots Q (F0 m 945 ls []) := by
  have hx := hs.1.1
  have hb := hs.1.2.1
  have hsim := sim σX σM hI ((g_b (xs (i + 1)))) ((xs (i + 2))) (g_b01 _)
  obtain ⟨r, σX1, σM1, hX, hM, hI1⟩ := hsim
  refine lv_aload_n hx hb dL_law_945 rfl (lv_at hl 1 rfl) ?_
  refine g_ldb (k := 1) hs hS dL_law_946 dL_law_947 dL_law_949 dL_law_950 dL_law_951 dL_law_952 dL_law_955 dL_law_956 dL_law_959 hl rfl rfl (by omega) ?_
  refine g_ld (k := 2) hs hS dL_law_960 dL_law_961 dL_law_963 dL_law_964 dL_law_965 hl rfl rfl (by omega) ?_
  refine g_callXI (As := [.int (g_b (xs (i + 1))), .int (xs (i + 2))]) (rest := []) hs hD hS (e_X11_shelve (w := wX) (d := 4) (Nat.le_refl _) hX) g_l104 k_yX11_shelve ⟨Nat.le_of_ble_eq_true rfl, Nat.le_of_ble_eq_true rfl⟩ dL_law_966 hl rfl (Nat.le_of_ble_eq_true rfl) (by omega) (by omega) (fun H1 locs1 hD1 hS1 => ?_)
  refine lv_aload_n hx hb dL_law_969 rfl (lv_at hl 2 rfl) ?_
  refine g_ldb (k := 1) hs hS1 dL_law_970 dL_law_971 dL_law_973 dL_law_974 dL_law_975 dL_law_976 dL_law_979 dL_law_980 dL_law_983 hl rfl rfl (by omega) ?_
  refine g_ld (k := 2) hs hS1 dL_law_984 dL_law_985 dL_law_987 dL_law_988 dL_law_989 hl rfl rfl (by omega) ?_
  refine g_callMI (As := [.int (g_b (xs (i + 1))), .int (xs (i + 2))]) (rest := [.int r]) hs hD1 hS1 (e_X12_shelve (w := wM) (d := 3) (Nat.le_refl _) hM) g_l108 k_yX12_shelve ⟨Nat.le_of_ble_eq_true rfl, Nat.le_of_ble_eq_true rfl⟩ dL_law_990 hl rfl (Nat.le_of_ble_eq_true rfl) (by omega) (by omega) (fun H2 locs2 hD2 hS2 => ?_)
  refine lv_icmp_eq (tgt := 1963) hx hb dL_law_993 (by decide) (fun _ => ?_) (fun c9 => absurd rfl c9)
  exact W.widen (k := cells + 1) (n := slots + 6) (by omega) (by omega) (K _ _ _ _ _ _ hI1 hD2 hS2 hl)
set_option maxHeartbeats 1000000 in
set_option maxRecDepth 100000 in
theorem g_case19 {Inv : k_St → k_St → Prop} (sim : g_s19 Inv) {p : Program} {l : Launch} {e : Env} {s : State} {m : MethodId} {below : List Frame} {meth : Method} {c : Code} {b L i : Nat} {xs : Nat → Int32} {wX wM : k_WC} {ao : Nat} {σX σM : k_St} {fo : Nat → Int64} {H : Heap} {locs : List Loc} {cells slots : Nat} {Q : State → Prop} {ls : Array Slot} (hs : g_St p l s m meth c b L xs wX wM ao) (hc : cells + 1 ≤ 601024) (hsl : slots + 6 ≤ 7293034) (hi : i + 6 ≤ L) (hI : Inv σX σM) (hD : g_Dy s wX wM ao σX σM fo H) (hS : va_S (g_A s) s.heap H locs) (hl : lv_has ls 7 (g_L b i ao wX wM)) (K : g_Nx Inv p l e s m below meth c b i wX wM ao (cells + 1) (slots + 6) Q) : W p l e room_1 s m #[Value.ref b] below meth c H locs cells slots Q (F0 m 998 ls []) := by
  have hx := hs.1.1
  have hb := hs.1.2.1
  have hsim := sim σX σM hI ((xs (i + 1))) ((xs (i + 2))) ((xs (i + 3)))
  obtain ⟨r, σM1, hX, hM, hI1⟩ := hsim
  refine lv_aload_n hx hb dL_law_998 rfl (lv_at hl 1 rfl) ?_
  refine g_ld (k := 1) hs hS dL_law_999 dL_law_1000 dL_law_1002 dL_law_1003 dL_law_1004 hl rfl rfl (by omega) ?_
  refine g_ld (k := 2) hs hS dL_law_1005 dL_law_1006 dL_law_1008 dL_law_1009 dL_law_1010 hl rfl rfl (by omega) ?_
  refine g_ld (k := 3) hs hS dL_law_1011 dL_law_1012 dL_law_1014 dL_law_1015 dL_law_1016 hl rfl rfl (by omega) ?_
  refine g_callXI (As := [.int (xs (i + 1)), .int (xs (i + 2)), .int (xs (i + 3))]) (rest := []) hs hD hS (e_X11_fit (w := wX) (d := 7) (Nat.le_refl _) hX) g_l109 k_yX11_fit ⟨Nat.le_of_ble_eq_true rfl, Nat.le_of_ble_eq_true rfl⟩ dL_law_1017 hl rfl (Nat.le_of_ble_eq_true rfl) (by omega) (by omega) (fun H1 locs1 hD1 hS1 => ?_)
  refine lv_aload_n hx hb dL_law_1020 rfl (lv_at hl 2 rfl) ?_
  refine g_ld (k := 1) hs hS1 dL_law_1021 dL_law_1022 dL_law_1024 dL_law_1025 dL_law_1026 hl rfl rfl (by omega) ?_
  refine g_ld (k := 2) hs hS1 dL_law_1027 dL_law_1028 dL_law_1030 dL_law_1031 dL_law_1032 hl rfl rfl (by omega) ?_
  refine g_ld (k := 3) hs hS1 dL_law_1033 dL_law_1034 dL_law_1036 dL_law_1037 dL_law_1038 hl rfl rfl (by omega) ?_
  refine g_callMI (As := [.int (xs (i + 1)), .int (xs (i + 2)), .int (xs (i + 3))]) (rest := [.int r]) hs hD1 hS1 (e_X12_fit (w := wM) (d := 205) (Nat.le_refl _) hM) g_l112 k_yX12_fit ⟨Nat.le_of_ble_eq_true rfl, Nat.le_of_ble_eq_true rfl⟩ dL_law_1039 hl rfl (Nat.le_of_ble_eq_true rfl) (by omega) (by omega) (fun H2 locs2 hD2 hS2 => ?_)
  refine lv_icmp_eq (tgt := 1963) hx hb dL_law_1042 (by decide) (fun _ => ?_) (fun c9 => absurd rfl c9)
  exact W.widen (k := cells + 1) (n := slots + 6) (by omega) (by omega) (K _ _ _ _ _ _ hI1 hD2 hS2 hl)
set_option maxHeartbeats 1000000 in
set_option maxRecDepth 100000 in
theorem g_case20 {Inv : k_St → k_St → Prop} (sim : g_s20 Inv) {p : Program} {l : Launch} {e : Env} {s : State} {m : MethodId} {below : List Frame} {meth : Method} {c : Code} {b L i : Nat} {xs : Nat → Int32} {wX wM : k_WC} {ao : Nat} {σX σM : k_St} {fo : Nat → Int64} {H : Heap} {locs : List Loc} {cells slots : Nat} {Q : State → Prop} {ls : Array Slot} (hs : g_St p l s m meth c b L xs wX wM ao) (hc : cells + 1 ≤ 601024) (hsl : slots + 6 ≤ 7293034) (hi : i + 6 ≤ L) (hI : Inv σX σM) (hD : g_Dy s wX wM ao σX σM fo H) (hS : va_S (g_A s) s.heap H locs) (hl : lv_has ls 7 (g_L b i ao wX wM)) (K : g_Nx Inv p l e s m below meth c b i wX wM ao (cells + 1) (slots + 6) Q) : W p l e room_1 s m #[Value.ref b] below meth c H locs cells slots Q (F0 m 1047 ls []) := by
  have hx := hs.1.1
  have hb := hs.1.2.1
  have hsim := sim σX σM hI ((xs (i + 1)))
  obtain ⟨r, σX1, σM1, hX, hM, hI1⟩ := hsim
  refine lv_aload_n hx hb dL_law_1047 rfl (lv_at hl 1 rfl) ?_
  refine g_ld (k := 1) hs hS dL_law_1048 dL_law_1049 dL_law_1051 dL_law_1052 dL_law_1053 hl rfl rfl (by omega) ?_
  refine g_callXI (As := [.int (xs (i + 1))]) (rest := []) hs hD hS (e_X11_pair (w := wX) (d := 8) (Nat.le_refl _) hX) g_l113 k_yX11_pair ⟨Nat.le_of_ble_eq_true rfl, Nat.le_of_ble_eq_true rfl⟩ dL_law_1054 hl rfl (Nat.le_of_ble_eq_true rfl) (by omega) (by omega) (fun H1 locs1 hD1 hS1 => ?_)
  refine lv_aload_n hx hb dL_law_1057 rfl (lv_at hl 2 rfl) ?_
  refine g_ld (k := 1) hs hS1 dL_law_1058 dL_law_1059 dL_law_1061 dL_law_1062 dL_law_1063 hl rfl rfl (by omega) ?_
  refine g_callMI (As := [.int (xs (i + 1))]) (rest := [.int r]) hs hD1 hS1 (e_X12_pair (w := wM) (d := 11) (Nat.le_refl _) hM) g_l116 k_yX12_pair ⟨Nat.le_of_ble_eq_true rfl, Nat.le_of_ble_eq_true rfl⟩ dL_law_1064 hl rfl (Nat.le_of_ble_eq_true rfl) (by omega) (by omega) (fun H2 locs2 hD2 hS2 => ?_)
  refine lv_icmp_eq (tgt := 1963) hx hb dL_law_1067 (by decide) (fun _ => ?_) (fun c9 => absurd rfl c9)
  exact W.widen (k := cells + 1) (n := slots + 6) (by omega) (by omega) (K _ _ _ _ _ _ hI1 hD2 hS2 hl)
set_option maxHeartbeats 1000000 in
set_option maxRecDepth 100000 in
theorem g_case21 {Inv : k_St → k_St → Prop} (sim : g_s21 Inv) {p : Program} {l : Launch} {e : Env} {s : State} {m : MethodId} {below : List Frame} {meth : Method} {c : Code} {b L i : Nat} {xs : Nat → Int32} {wX wM : k_WC} {ao : Nat} {σX σM : k_St} {fo : Nat → Int64} {H : Heap} {locs : List Loc} {cells slots : Nat} {Q : State → Prop} {ls : Array Slot} (hs : g_St p l s m meth c b L xs wX wM ao) (hc : cells + 1 ≤ 601024) (hsl : slots + 6 ≤ 7293034) (hi : i + 6 ≤ L) (hI : Inv σX σM) (hD : g_Dy s wX wM ao σX σM fo H) (hS : va_S (g_A s) s.heap H locs) (hl : lv_has ls 7 (g_L b i ao wX wM)) (K : g_Nx Inv p l e s m below meth c b i wX wM ao (cells + 1) (slots + 6) Q) : W p l e room_1 s m #[Value.ref b] below meth c H locs cells slots Q (F0 m 1072 ls []) := by
  have hx := hs.1.1
  have hb := hs.1.2.1
  have hsim := sim σX σM hI ((xs (i + 1))) ((xs (i + 2)))
  obtain ⟨r, σX1, σM1, hX, hM, hI1⟩ := hsim
  refine lv_aload_n hx hb dL_law_1072 rfl (lv_at hl 1 rfl) ?_
  refine g_ld (k := 1) hs hS dL_law_1073 dL_law_1074 dL_law_1076 dL_law_1077 dL_law_1078 hl rfl rfl (by omega) ?_
  refine g_ld (k := 2) hs hS dL_law_1079 dL_law_1080 dL_law_1082 dL_law_1083 dL_law_1084 hl rfl rfl (by omega) ?_
  refine g_callXI (As := [.int (xs (i + 1)), .int (xs (i + 2))]) (rest := []) hs hD hS (e_X11_see (w := wX) (d := 4) (Nat.le_refl _) hX) g_l117 k_yX11_see ⟨Nat.le_of_ble_eq_true rfl, Nat.le_of_ble_eq_true rfl⟩ dL_law_1085 hl rfl (Nat.le_of_ble_eq_true rfl) (by omega) (by omega) (fun H1 locs1 hD1 hS1 => ?_)
  refine lv_aload_n hx hb dL_law_1088 rfl (lv_at hl 2 rfl) ?_
  refine g_ld (k := 1) hs hS1 dL_law_1089 dL_law_1090 dL_law_1092 dL_law_1093 dL_law_1094 hl rfl rfl (by omega) ?_
  refine g_ld (k := 2) hs hS1 dL_law_1095 dL_law_1096 dL_law_1098 dL_law_1099 dL_law_1100 hl rfl rfl (by omega) ?_
  refine g_callMI (As := [.int (xs (i + 1)), .int (xs (i + 2))]) (rest := [.int r]) hs hD1 hS1 (e_X12_see (w := wM) (d := 4) (Nat.le_refl _) hM) g_l120 k_yX12_see ⟨Nat.le_of_ble_eq_true rfl, Nat.le_of_ble_eq_true rfl⟩ dL_law_1101 hl rfl (Nat.le_of_ble_eq_true rfl) (by omega) (by omega) (fun H2 locs2 hD2 hS2 => ?_)
  refine lv_icmp_eq (tgt := 1963) hx hb dL_law_1104 (by decide) (fun _ => ?_) (fun c9 => absurd rfl c9)
  exact W.widen (k := cells + 1) (n := slots + 6) (by omega) (by omega) (K _ _ _ _ _ _ hI1 hD2 hS2 hl)
set_option maxHeartbeats 1000000 in
set_option maxRecDepth 100000 in
theorem g_case22 {Inv : k_St → k_St → Prop} (sim : g_s22 Inv) {p : Program} {l : Launch} {e : Env} {s : State} {m : MethodId} {below : List Frame} {meth : Method} {c : Code} {b L i : Nat} {xs : Nat → Int32} {wX wM : k_WC} {ao : Nat} {σX σM : k_St} {fo : Nat → Int64} {H : Heap} {locs : List Loc} {cells slots : Nat} {Q : State → Prop} {ls : Array Slot} (hs : g_St p l s m meth c b L xs wX wM ao) (hc : cells + 1 ≤ 601024) (hsl : slots + 6 ≤ 7293034) (hi : i + 6 ≤ L) (hI : Inv σX σM) (hD : g_Dy s wX wM ao σX σM fo H) (hS : va_S (g_A s) s.heap H locs) (hl : lv_has ls 7 (g_L b i ao wX wM)) (K : g_Nx Inv p l e s m below meth c b i wX wM ao (cells + 1) (slots + 6) Q) : W p l e room_1 s m #[Value.ref b] below meth c H locs cells slots Q (F0 m 1109 ls []) := by
  have hx := hs.1.1
  have hb := hs.1.2.1
  have hsim := sim σX σM hI ((xs (i + 1)))
  obtain ⟨r, σX1, σM1, hX, hM, hI1⟩ := hsim
  refine lv_aload_n hx hb dL_law_1109 rfl (lv_at hl 1 rfl) ?_
  refine g_ld (k := 1) hs hS dL_law_1110 dL_law_1111 dL_law_1113 dL_law_1114 dL_law_1115 hl rfl rfl (by omega) ?_
  refine g_callXI (As := [.int (xs (i + 1))]) (rest := []) hs hD hS (e_X11_meant (w := wX) (d := 5) (Nat.le_refl _) hX) g_l121 k_yX11_meant ⟨Nat.le_of_ble_eq_true rfl, Nat.le_of_ble_eq_true rfl⟩ dL_law_1116 hl rfl (Nat.le_of_ble_eq_true rfl) (by omega) (by omega) (fun H1 locs1 hD1 hS1 => ?_)
  refine lv_aload_n hx hb dL_law_1119 rfl (lv_at hl 2 rfl) ?_
  refine g_ld (k := 1) hs hS1 dL_law_1120 dL_law_1121 dL_law_1123 dL_law_1124 dL_law_1125 hl rfl rfl (by omega) ?_
  refine g_callMI (As := [.int (xs (i + 1))]) (rest := [.int r]) hs hD1 hS1 (e_X12_meant (w := wM) (d := 5) (Nat.le_refl _) hM) g_l124 k_yX12_meant ⟨Nat.le_of_ble_eq_true rfl, Nat.le_of_ble_eq_true rfl⟩ dL_law_1126 hl rfl (Nat.le_of_ble_eq_true rfl) (by omega) (by omega) (fun H2 locs2 hD2 hS2 => ?_)
  refine lv_icmp_eq (tgt := 1963) hx hb dL_law_1129 (by decide) (fun _ => ?_) (fun c9 => absurd rfl c9)
  exact W.widen (k := cells + 1) (n := slots + 6) (by omega) (by omega) (K _ _ _ _ _ _ hI1 hD2 hS2 hl)
set_option maxHeartbeats 1000000 in
set_option maxRecDepth 100000 in
theorem g_case23 {Inv : k_St → k_St → Prop} (sim : g_s23 Inv) {p : Program} {l : Launch} {e : Env} {s : State} {m : MethodId} {below : List Frame} {meth : Method} {c : Code} {b L i : Nat} {xs : Nat → Int32} {wX wM : k_WC} {ao : Nat} {σX σM : k_St} {fo : Nat → Int64} {H : Heap} {locs : List Loc} {cells slots : Nat} {Q : State → Prop} {ls : Array Slot} (hs : g_St p l s m meth c b L xs wX wM ao) (hc : cells + 1 ≤ 601024) (hsl : slots + 6 ≤ 7293034) (hi : i + 6 ≤ L) (hI : Inv σX σM) (hD : g_Dy s wX wM ao σX σM fo H) (hS : va_S (g_A s) s.heap H locs) (hl : lv_has ls 7 (g_L b i ao wX wM)) (K : g_Nx Inv p l e s m below meth c b i wX wM ao (cells + 1) (slots + 6) Q) : W p l e room_1 s m #[Value.ref b] below meth c H locs cells slots Q (F0 m 1134 ls []) := by
  have hx := hs.1.1
  have hb := hs.1.2.1
  have hsim := sim σX σM hI (((o_lshl ((xs (i + 1))).toInt64 (32)) ||| (((xs (i + 2))).toInt64 &&& 4294967295)))
  obtain ⟨r, σX1, σM1, hX, hM, hI1⟩ := hsim
  refine lv_aload_n hx hb dL_law_1134 rfl (lv_at hl 1 rfl) ?_
  refine g_ld (k := 1) hs hS dL_law_1135 dL_law_1136 dL_law_1138 dL_law_1139 dL_law_1140 hl rfl rfl (by omega) ?_
  refine lv_i2l hx hb dL_law_1141 rfl ?_
  refine lv_bipush (v := 32) hx hb dL_law_1142 rfl ?_
  refine lv_lshl hx hb dL_law_1144 rfl ?_
  refine g_ld (k := 2) hs hS dL_law_1145 dL_law_1146 dL_law_1148 dL_law_1149 dL_law_1150 hl rfl rfl (by omega) ?_
  refine lv_i2l hx hb dL_law_1151 rfl ?_
  refine lv_ldc2 hx hb hs.1.2.2.2.2 (hs.2.1 _ g_c125) dL_law_1152 ?_
  refine lv_land hx hb dL_law_1155 ?_
  refine lv_lor hx hb dL_law_1156 ?_
  refine g_callXI (As := [.long ((o_lshl ((xs (i + 1))).toInt64 (32)) ||| (((xs (i + 2))).toInt64 &&& 4294967295))]) (rest := []) hs hD hS (e_X11_seed (w := wX) (d := 2) (Nat.le_refl _) hX) g_l127 k_yX11_seed ⟨Nat.le_of_ble_eq_true rfl, Nat.le_of_ble_eq_true rfl⟩ dL_law_1157 hl rfl (Nat.le_of_ble_eq_true rfl) (by omega) (by omega) (fun H1 locs1 hD1 hS1 => ?_)
  refine lv_aload_n hx hb dL_law_1160 rfl (lv_at hl 2 rfl) ?_
  refine g_ld (k := 1) hs hS1 dL_law_1161 dL_law_1162 dL_law_1164 dL_law_1165 dL_law_1166 hl rfl rfl (by omega) ?_
  refine lv_i2l hx hb dL_law_1167 rfl ?_
  refine lv_bipush (v := 32) hx hb dL_law_1168 rfl ?_
  refine lv_lshl hx hb dL_law_1170 rfl ?_
  refine g_ld (k := 2) hs hS1 dL_law_1171 dL_law_1172 dL_law_1174 dL_law_1175 dL_law_1176 hl rfl rfl (by omega) ?_
  refine lv_i2l hx hb dL_law_1177 rfl ?_
  refine lv_ldc2 hx hb hs.1.2.2.2.2 (hs.2.1 _ g_c125) dL_law_1178 ?_
  refine lv_land hx hb dL_law_1181 ?_
  refine lv_lor hx hb dL_law_1182 ?_
  refine g_callMI (As := [.long ((o_lshl ((xs (i + 1))).toInt64 (32)) ||| (((xs (i + 2))).toInt64 &&& 4294967295))]) (rest := [.int r]) hs hD1 hS1 (e_X12_seed (w := wM) (d := 2) (Nat.le_refl _) hM) g_l131 k_yX12_seed ⟨Nat.le_of_ble_eq_true rfl, Nat.le_of_ble_eq_true rfl⟩ dL_law_1183 hl rfl (Nat.le_of_ble_eq_true rfl) (by omega) (by omega) (fun H2 locs2 hD2 hS2 => ?_)
  refine lv_icmp_eq (tgt := 1963) hx hb dL_law_1186 (by decide) (fun _ => ?_) (fun c9 => absurd rfl c9)
  exact W.widen (k := cells + 1) (n := slots + 6) (by omega) (by omega) (K _ _ _ _ _ _ hI1 hD2 hS2 hl)
set_option maxHeartbeats 1000000 in
set_option maxRecDepth 100000 in
theorem g_case24 {Inv : k_St → k_St → Prop} (sim : g_s24 Inv) {p : Program} {l : Launch} {e : Env} {s : State} {m : MethodId} {below : List Frame} {meth : Method} {c : Code} {b L i : Nat} {xs : Nat → Int32} {wX wM : k_WC} {ao : Nat} {σX σM : k_St} {fo : Nat → Int64} {H : Heap} {locs : List Loc} {cells slots : Nat} {Q : State → Prop} {ls : Array Slot} (hs : g_St p l s m meth c b L xs wX wM ao) (hc : cells + 1 ≤ 601024) (hsl : slots + 6 ≤ 7293034) (hi : i + 6 ≤ L) (hI : Inv σX σM) (hD : g_Dy s wX wM ao σX σM fo H) (hS : va_S (g_A s) s.heap H locs) (hl : lv_has ls 7 (g_L b i ao wX wM)) (K : g_Nx Inv p l e s m below meth c b i wX wM ao (cells + 1) (slots + 6) Q) : W p l e room_1 s m #[Value.ref b] below meth c H locs cells slots Q (F0 m 1191 ls []) := by
  have hx := hs.1.1
  have hb := hs.1.2.1
  have hsim := sim σX σM hI
  obtain ⟨r, σX1, σM1, hX, hM, hI1⟩ := hsim
  refine lv_aload_n hx hb dL_law_1191 rfl (lv_at hl 1 rfl) ?_
  refine g_callXI (As := []) (rest := []) hs hD hS (e_X11_day (w := wX) (d := 4) (Nat.le_refl _) hX) g_l132 k_yX11_day ⟨Nat.le_of_ble_eq_true rfl, Nat.le_of_ble_eq_true rfl⟩ dL_law_1192 hl rfl (Nat.le_of_ble_eq_true rfl) (by omega) (by omega) (fun H1 locs1 hD1 hS1 => ?_)
  refine lv_aload_n hx hb dL_law_1195 rfl (lv_at hl 2 rfl) ?_
  refine g_callMI (As := []) (rest := [.int r]) hs hD1 hS1 (e_X12_day (w := wM) (d := 8) (Nat.le_refl _) hM) g_l135 k_yX12_day ⟨Nat.le_of_ble_eq_true rfl, Nat.le_of_ble_eq_true rfl⟩ dL_law_1196 hl rfl (Nat.le_of_ble_eq_true rfl) (by omega) (by omega) (fun H2 locs2 hD2 hS2 => ?_)
  refine lv_icmp_eq (tgt := 1963) hx hb dL_law_1199 (by decide) (fun _ => ?_) (fun c9 => absurd rfl c9)
  exact W.widen (k := cells + 1) (n := slots + 6) (by omega) (by omega) (K _ _ _ _ _ _ hI1 hD2 hS2 hl)
set_option maxHeartbeats 1000000 in
set_option maxRecDepth 100000 in
theorem g_case25 {Inv : k_St → k_St → Prop} (sim : g_s25 Inv) {p : Program} {l : Launch} {e : Env} {s : State} {m : MethodId} {below : List Frame} {meth : Method} {c : Code} {b L i : Nat} {xs : Nat → Int32} {wX wM : k_WC} {ao : Nat} {σX σM : k_St} {fo : Nat → Int64} {H : Heap} {locs : List Loc} {cells slots : Nat} {Q : State → Prop} {ls : Array Slot} (hs : g_St p l s m meth c b L xs wX wM ao) (hc : cells + 1 ≤ 601024) (hsl : slots + 6 ≤ 7293034) (hi : i + 6 ≤ L) (hI : Inv σX σM) (hD : g_Dy s wX wM ao σX σM fo H) (hS : va_S (g_A s) s.heap H locs) (hl : lv_has ls 7 (g_L b i ao wX wM)) (K : g_Nx Inv p l e s m below meth c b i wX wM ao (cells + 1) (slots + 6) Q) : W p l e room_1 s m #[Value.ref b] below meth c H locs cells slots Q (F0 m 1204 ls []) := by
  have hx := hs.1.1
  have hb := hs.1.2.1
  have hsim := sim σX σM hI ((xs (i + 1))) ((xs (i + 2)))
  obtain ⟨r, hX, hM⟩ := hsim
  refine lv_aload_n hx hb dL_law_1204 rfl (lv_at hl 1 rfl) ?_
  refine g_ld (k := 1) hs hS dL_law_1205 dL_law_1206 dL_law_1208 dL_law_1209 dL_law_1210 hl rfl rfl (by omega) ?_
  refine g_ld (k := 2) hs hS dL_law_1211 dL_law_1212 dL_law_1214 dL_law_1215 dL_law_1216 hl rfl rfl (by omega) ?_
  refine g_callXI (As := [.int (xs (i + 1)), .int (xs (i + 2))]) (rest := []) hs hD hS (e_X11_was (w := wX) (d := 4) (Nat.le_refl _) hX) g_l136 k_yX11_was ⟨Nat.le_of_ble_eq_true rfl, Nat.le_of_ble_eq_true rfl⟩ dL_law_1217 hl rfl (Nat.le_of_ble_eq_true rfl) (by omega) (by omega) (fun H1 locs1 hD1 hS1 => ?_)
  refine lv_aload_n hx hb dL_law_1220 rfl (lv_at hl 2 rfl) ?_
  refine g_ld (k := 1) hs hS1 dL_law_1221 dL_law_1222 dL_law_1224 dL_law_1225 dL_law_1226 hl rfl rfl (by omega) ?_
  refine g_ld (k := 2) hs hS1 dL_law_1227 dL_law_1228 dL_law_1230 dL_law_1231 dL_law_1232 hl rfl rfl (by omega) ?_
  refine g_callMI (As := [.int (xs (i + 1)), .int (xs (i + 2))]) (rest := [.int r]) hs hD1 hS1 (e_X12_was (w := wM) (d := 3) (Nat.le_refl _) hM) g_l139 k_yX12_was ⟨Nat.le_of_ble_eq_true rfl, Nat.le_of_ble_eq_true rfl⟩ dL_law_1233 hl rfl (Nat.le_of_ble_eq_true rfl) (by omega) (by omega) (fun H2 locs2 hD2 hS2 => ?_)
  refine lv_icmp_eq (tgt := 1963) hx hb dL_law_1236 (by decide) (fun _ => ?_) (fun c9 => absurd rfl c9)
  exact W.widen (k := cells + 1) (n := slots + 6) (by omega) (by omega) (K _ _ _ _ _ _ hI hD2 hS2 hl)
set_option maxHeartbeats 1000000 in
set_option maxRecDepth 100000 in
theorem g_case26 {Inv : k_St → k_St → Prop} (sim : g_s26 Inv) {p : Program} {l : Launch} {e : Env} {s : State} {m : MethodId} {below : List Frame} {meth : Method} {c : Code} {b L i : Nat} {xs : Nat → Int32} {wX wM : k_WC} {ao : Nat} {σX σM : k_St} {fo : Nat → Int64} {H : Heap} {locs : List Loc} {cells slots : Nat} {Q : State → Prop} {ls : Array Slot} (hs : g_St p l s m meth c b L xs wX wM ao) (hc : cells + 1 ≤ 601024) (hsl : slots + 6 ≤ 7293034) (hi : i + 6 ≤ L) (hI : Inv σX σM) (hD : g_Dy s wX wM ao σX σM fo H) (hS : va_S (g_A s) s.heap H locs) (hl : lv_has ls 7 (g_L b i ao wX wM)) (K : g_Nx Inv p l e s m below meth c b i wX wM ao (cells + 1) (slots + 6) Q) : W p l e room_1 s m #[Value.ref b] below meth c H locs cells slots Q (F0 m 1241 ls []) := by
  have hx := hs.1.1
  have hb := hs.1.2.1
  have hsim := sim σX σM hI
  obtain ⟨r, σX1, σM1, hX, hM, hI1⟩ := hsim
  refine lv_aload_n hx hb dL_law_1241 rfl (lv_at hl 1 rfl) ?_
  refine g_callXI (As := []) (rest := []) hs hD hS (e_X11_undo (w := wX) (d := 4) (Nat.le_refl _) hX) g_l140 k_yX11_undo ⟨Nat.le_of_ble_eq_true rfl, Nat.le_of_ble_eq_true rfl⟩ dL_law_1242 hl rfl (Nat.le_of_ble_eq_true rfl) (by omega) (by omega) (fun H1 locs1 hD1 hS1 => ?_)
  refine lv_aload_n hx hb dL_law_1245 rfl (lv_at hl 2 rfl) ?_
  refine g_callMI (As := []) (rest := [.int r]) hs hD1 hS1 (e_X12_undo (w := wM) (d := 4) (Nat.le_refl _) hM) g_l143 k_yX12_undo ⟨Nat.le_of_ble_eq_true rfl, Nat.le_of_ble_eq_true rfl⟩ dL_law_1246 hl rfl (Nat.le_of_ble_eq_true rfl) (by omega) (by omega) (fun H2 locs2 hD2 hS2 => ?_)
  refine lv_icmp_eq (tgt := 1963) hx hb dL_law_1249 (by decide) (fun _ => ?_) (fun c9 => absurd rfl c9)
  exact W.widen (k := cells + 1) (n := slots + 6) (by omega) (by omega) (K _ _ _ _ _ _ hI1 hD2 hS2 hl)
set_option maxHeartbeats 1000000 in
set_option maxRecDepth 100000 in
theorem g_case27 {Inv : k_St → k_St → Prop} (sim : g_s27 Inv) {p : Program} {l : Launch} {e : Env} {s : State} {m : MethodId} {below : List Frame} {meth : Method} {c : Code} {b L i : Nat} {xs : Nat → Int32} {wX wM : k_WC} {ao : Nat} {σX σM : k_St} {fo : Nat → Int64} {H : Heap} {locs : List Loc} {cells slots : Nat} {Q : State → Prop} {ls : Array Slot} (hs : g_St p l s m meth c b L xs wX wM ao) (hc : cells + 1 ≤ 601024) (hsl : slots + 6 ≤ 7293034) (hi : i + 6 ≤ L) (hI : Inv σX σM) (hD : g_Dy s wX wM ao σX σM fo H) (hS : va_S (g_A s) s.heap H locs) (hl : lv_has ls 7 (g_L b i ao wX wM)) (K : g_Nx Inv p l e s m below meth c b i wX wM ao (cells + 1) (slots + 6) Q) : W p l e room_1 s m #[Value.ref b] below meth c H locs cells slots Q (F0 m 1254 ls []) := by
  have hx := hs.1.1
  have hb := hs.1.2.1
  have hsim := sim σX σM hI ((xs (i + 1)))
  obtain ⟨r, σX1, σM1, hX, hM, hI1⟩ := hsim
  refine lv_aload_n hx hb dL_law_1254 rfl (lv_at hl 1 rfl) ?_
  refine g_ld (k := 1) hs hS dL_law_1255 dL_law_1256 dL_law_1258 dL_law_1259 dL_law_1260 hl rfl rfl (by omega) ?_
  refine g_callXI (As := [.int (xs (i + 1))]) (rest := []) hs hD hS (e_X11_wet (w := wX) (d := 3) (Nat.le_refl _) hX) g_l144 k_yX11_wet ⟨Nat.le_of_ble_eq_true rfl, Nat.le_of_ble_eq_true rfl⟩ dL_law_1261 hl rfl (Nat.le_of_ble_eq_true rfl) (by omega) (by omega) (fun H1 locs1 hD1 hS1 => ?_)
  refine lv_aload_n hx hb dL_law_1264 rfl (lv_at hl 2 rfl) ?_
  refine g_ld (k := 1) hs hS1 dL_law_1265 dL_law_1266 dL_law_1268 dL_law_1269 dL_law_1270 hl rfl rfl (by omega) ?_
  refine g_callMI (As := [.int (xs (i + 1))]) (rest := [.int r]) hs hD1 hS1 (e_X12_wet (w := wM) (d := 3) (Nat.le_refl _) hM) g_l147 k_yX12_wet ⟨Nat.le_of_ble_eq_true rfl, Nat.le_of_ble_eq_true rfl⟩ dL_law_1271 hl rfl (Nat.le_of_ble_eq_true rfl) (by omega) (by omega) (fun H2 locs2 hD2 hS2 => ?_)
  refine lv_icmp_eq (tgt := 1963) hx hb dL_law_1274 (by decide) (fun _ => ?_) (fun c9 => absurd rfl c9)
  exact W.widen (k := cells + 1) (n := slots + 6) (by omega) (by omega) (K _ _ _ _ _ _ hI1 hD2 hS2 hl)
set_option maxHeartbeats 1000000 in
set_option maxRecDepth 100000 in
theorem g_case28 {Inv : k_St → k_St → Prop} (sim : g_s28 Inv) {p : Program} {l : Launch} {e : Env} {s : State} {m : MethodId} {below : List Frame} {meth : Method} {c : Code} {b L i : Nat} {xs : Nat → Int32} {wX wM : k_WC} {ao : Nat} {σX σM : k_St} {fo : Nat → Int64} {H : Heap} {locs : List Loc} {cells slots : Nat} {Q : State → Prop} {ls : Array Slot} (hs : g_St p l s m meth c b L xs wX wM ao) (hc : cells + 1 ≤ 601024) (hsl : slots + 6 ≤ 7293034) (hi : i + 6 ≤ L) (hI : Inv σX σM) (hD : g_Dy s wX wM ao σX σM fo H) (hS : va_S (g_A s) s.heap H locs) (hl : lv_has ls 7 (g_L b i ao wX wM)) (K : g_Nx Inv p l e s m below meth c b i wX wM ao (cells + 1) (slots + 6) Q) : W p l e room_1 s m #[Value.ref b] below meth c H locs cells slots Q (F0 m 1279 ls []) := by
  have hx := hs.1.1
  have hb := hs.1.2.1
  have hsim := sim σX σM hI ((xs (i + 1))) ((xs (i + 2)))
  obtain ⟨r, σM1, hX, hM, hI1⟩ := hsim
  refine lv_aload_n hx hb dL_law_1279 rfl (lv_at hl 1 rfl) ?_
  refine g_ld (k := 1) hs hS dL_law_1280 dL_law_1281 dL_law_1283 dL_law_1284 dL_law_1285 hl rfl rfl (by omega) ?_
  refine g_ld (k := 2) hs hS dL_law_1286 dL_law_1287 dL_law_1289 dL_law_1290 dL_law_1291 hl rfl rfl (by omega) ?_
  refine g_callXI (As := [.int (xs (i + 1)), .int (xs (i + 2))]) (rest := []) hs hD hS (e_X11_lone (w := wX) (d := 7) (Nat.le_refl _) hX) g_l148 k_yX11_lone ⟨Nat.le_of_ble_eq_true rfl, Nat.le_of_ble_eq_true rfl⟩ dL_law_1292 hl rfl (Nat.le_of_ble_eq_true rfl) (by omega) (by omega) (fun H1 locs1 hD1 hS1 => ?_)
  refine lv_aload_n hx hb dL_law_1295 rfl (lv_at hl 2 rfl) ?_
  refine g_ld (k := 1) hs hS1 dL_law_1296 dL_law_1297 dL_law_1299 dL_law_1300 dL_law_1301 hl rfl rfl (by omega) ?_
  refine g_ld (k := 2) hs hS1 dL_law_1302 dL_law_1303 dL_law_1305 dL_law_1306 dL_law_1307 hl rfl rfl (by omega) ?_
  refine g_callMI (As := [.int (xs (i + 1)), .int (xs (i + 2))]) (rest := [.int r]) hs hD1 hS1 (e_X12_lone (w := wM) (d := 205) (Nat.le_refl _) hM) g_l151 k_yX12_lone ⟨Nat.le_of_ble_eq_true rfl, Nat.le_of_ble_eq_true rfl⟩ dL_law_1308 hl rfl (Nat.le_of_ble_eq_true rfl) (by omega) (by omega) (fun H2 locs2 hD2 hS2 => ?_)
  refine lv_icmp_eq (tgt := 1963) hx hb dL_law_1311 (by decide) (fun _ => ?_) (fun c9 => absurd rfl c9)
  exact W.widen (k := cells + 1) (n := slots + 6) (by omega) (by omega) (K _ _ _ _ _ _ hI1 hD2 hS2 hl)
set_option maxHeartbeats 1000000 in
set_option maxRecDepth 100000 in
theorem g_case29 {Inv : k_St → k_St → Prop} (sim : g_s29 Inv) {p : Program} {l : Launch} {e : Env} {s : State} {m : MethodId} {below : List Frame} {meth : Method} {c : Code} {b L i : Nat} {xs : Nat → Int32} {wX wM : k_WC} {ao : Nat} {σX σM : k_St} {fo : Nat → Int64} {H : Heap} {locs : List Loc} {cells slots : Nat} {Q : State → Prop} {ls : Array Slot} (hs : g_St p l s m meth c b L xs wX wM ao) (hc : cells + 1 ≤ 601024) (hsl : slots + 6 ≤ 7293034) (hi : i + 6 ≤ L) (hI : Inv σX σM) (hD : g_Dy s wX wM ao σX σM fo H) (hS : va_S (g_A s) s.heap H locs) (hl : lv_has ls 7 (g_L b i ao wX wM)) (K : g_Nx Inv p l e s m below meth c b i wX wM ao (cells + 1) (slots + 6) Q) : W p l e room_1 s m #[Value.ref b] below meth c H locs cells slots Q (F0 m 1316 ls []) := by
  have hx := hs.1.1
  have hb := hs.1.2.1
  have hsim := sim σX σM hI ((xs (i + 1))) ((xs (i + 2))) ((xs (i + 3)))
  obtain ⟨r, σM1, hX, hM, hI1⟩ := hsim
  refine lv_aload_n hx hb dL_law_1316 rfl (lv_at hl 1 rfl) ?_
  refine g_ld (k := 1) hs hS dL_law_1317 dL_law_1318 dL_law_1320 dL_law_1321 dL_law_1322 hl rfl rfl (by omega) ?_
  refine g_ld (k := 2) hs hS dL_law_1323 dL_law_1324 dL_law_1326 dL_law_1327 dL_law_1328 hl rfl rfl (by omega) ?_
  refine g_ld (k := 3) hs hS dL_law_1329 dL_law_1330 dL_law_1332 dL_law_1333 dL_law_1334 hl rfl rfl (by omega) ?_
  refine g_callXI (As := [.int (xs (i + 1)), .int (xs (i + 2)), .int (xs (i + 3))]) (rest := []) hs hD hS (e_X11_alone (w := wX) (d := 6) (Nat.le_refl _) hX) g_l152 k_yX11_alone ⟨Nat.le_of_ble_eq_true rfl, Nat.le_of_ble_eq_true rfl⟩ dL_law_1335 hl rfl (Nat.le_of_ble_eq_true rfl) (by omega) (by omega) (fun H1 locs1 hD1 hS1 => ?_)
  refine lv_aload_n hx hb dL_law_1338 rfl (lv_at hl 2 rfl) ?_
  refine g_ld (k := 1) hs hS1 dL_law_1339 dL_law_1340 dL_law_1342 dL_law_1343 dL_law_1344 hl rfl rfl (by omega) ?_
  refine g_ld (k := 2) hs hS1 dL_law_1345 dL_law_1346 dL_law_1348 dL_law_1349 dL_law_1350 hl rfl rfl (by omega) ?_
  refine g_ld (k := 3) hs hS1 dL_law_1351 dL_law_1352 dL_law_1354 dL_law_1355 dL_law_1356 hl rfl rfl (by omega) ?_
  refine g_callMI (As := [.int (xs (i + 1)), .int (xs (i + 2)), .int (xs (i + 3))]) (rest := [.int r]) hs hD1 hS1 (e_X12_alone (w := wM) (d := 9) (Nat.le_refl _) hM) g_l155 k_yX12_alone ⟨Nat.le_of_ble_eq_true rfl, Nat.le_of_ble_eq_true rfl⟩ dL_law_1357 hl rfl (Nat.le_of_ble_eq_true rfl) (by omega) (by omega) (fun H2 locs2 hD2 hS2 => ?_)
  refine lv_icmp_eq (tgt := 1963) hx hb dL_law_1360 (by decide) (fun _ => ?_) (fun c9 => absurd rfl c9)
  exact W.widen (k := cells + 1) (n := slots + 6) (by omega) (by omega) (K _ _ _ _ _ _ hI1 hD2 hS2 hl)
set_option maxHeartbeats 1000000 in
set_option maxRecDepth 100000 in
theorem g_case30 {Inv : k_St → k_St → Prop} (sim : g_s30 Inv) {p : Program} {l : Launch} {e : Env} {s : State} {m : MethodId} {below : List Frame} {meth : Method} {c : Code} {b L i : Nat} {xs : Nat → Int32} {wX wM : k_WC} {ao : Nat} {σX σM : k_St} {fo : Nat → Int64} {H : Heap} {locs : List Loc} {cells slots : Nat} {Q : State → Prop} {ls : Array Slot} (hs : g_St p l s m meth c b L xs wX wM ao) (hc : cells + 1 ≤ 601024) (hsl : slots + 6 ≤ 7293034) (hi : i + 6 ≤ L) (hI : Inv σX σM) (hD : g_Dy s wX wM ao σX σM fo H) (hS : va_S (g_A s) s.heap H locs) (hl : lv_has ls 7 (g_L b i ao wX wM)) (K : g_Nx Inv p l e s m below meth c b i wX wM ao (cells + 1) (slots + 6) Q) : W p l e room_1 s m #[Value.ref b] below meth c H locs cells slots Q (F0 m 1365 ls []) := by
  have hx := hs.1.1
  have hb := hs.1.2.1
  have hsim := sim σX σM hI ((xs (i + 1))) ((xs (i + 2))) ((xs (i + 3)))
  obtain ⟨r, σX1, σM1, hX, hM, hI1⟩ := hsim
  refine lv_aload_n hx hb dL_law_1365 rfl (lv_at hl 1 rfl) ?_
  refine g_ld (k := 1) hs hS dL_law_1366 dL_law_1367 dL_law_1369 dL_law_1370 dL_law_1371 hl rfl rfl (by omega) ?_
  refine g_ld (k := 2) hs hS dL_law_1372 dL_law_1373 dL_law_1375 dL_law_1376 dL_law_1377 hl rfl rfl (by omega) ?_
  refine g_ld (k := 3) hs hS dL_law_1378 dL_law_1379 dL_law_1381 dL_law_1382 dL_law_1383 hl rfl rfl (by omega) ?_
  refine g_callXL (As := [.int (xs (i + 1)), .int (xs (i + 2)), .int (xs (i + 3))]) (rest := []) hs hD hS (e_X11_knots (w := wX) (d := 7) (Nat.le_refl _) hX) g_l156 k_yX11_knots ⟨Nat.le_of_ble_eq_true rfl, Nat.le_of_ble_eq_true rfl⟩ dL_law_1384 hl rfl (Nat.le_of_ble_eq_true rfl) (by omega) (by omega) (fun H1 locs1 hD1 hS1 => ?_)
  refine lv_aload_n hx hb dL_law_1387 rfl (lv_at hl 2 rfl) ?_
  refine g_ld (k := 1) hs hS1 dL_law_1388 dL_law_1389 dL_law_1391 dL_law_1392 dL_law_1393 hl rfl rfl (by omega) ?_
  refine g_ld (k := 2) hs hS1 dL_law_1394 dL_law_1395 dL_law_1397 dL_law_1398 dL_law_1399 hl rfl rfl (by omega) ?_
  refine g_ld (k := 3) hs hS1 dL_law_1400 dL_law_1401 dL_law_1403 dL_law_1404 dL_law_1405 hl rfl rfl (by omega) ?_
  refine g_callML (As := [.int (xs (i + 1)), .int (xs (i + 2)), .int (xs (i + 3))]) (rest := [.long r]) hs hD1 hS1 (e_X12_knots (w := wM) (d := 205) (Nat.le_refl _) hM) g_l160 k_yX12_knots ⟨Nat.le_of_ble_eq_true rfl, Nat.le_of_ble_eq_true rfl⟩ dL_law_1406 hl rfl (Nat.le_of_ble_eq_true rfl) (by omega) (by omega) (fun H2 locs2 hD2 hS2 => ?_)
  refine W.lcmp hx hb dL_law_1409 ?_
  refine lv_if_eq (tgt := 1963) hx hb dL_law_1410 (by decide) (fun _ => ?_) (fun c9 => absurd (g_cmp r) c9)
  exact W.widen (k := cells + 1) (n := slots + 6) (by omega) (by omega) (K _ _ _ _ _ _ hI1 hD2 hS2 hl)
set_option maxHeartbeats 1000000 in
set_option maxRecDepth 100000 in
theorem g_case31 {Inv : k_St → k_St → Prop} (sim : g_s31 Inv) {p : Program} {l : Launch} {e : Env} {s : State} {m : MethodId} {below : List Frame} {meth : Method} {c : Code} {b L i : Nat} {xs : Nat → Int32} {wX wM : k_WC} {ao : Nat} {σX σM : k_St} {fo : Nat → Int64} {H : Heap} {locs : List Loc} {cells slots : Nat} {Q : State → Prop} {ls : Array Slot} (hs : g_St p l s m meth c b L xs wX wM ao) (hc : cells + 1 ≤ 601024) (hsl : slots + 6 ≤ 7293034) (hi : i + 6 ≤ L) (hI : Inv σX σM) (hD : g_Dy s wX wM ao σX σM fo H) (hS : va_S (g_A s) s.heap H locs) (hl : lv_has ls 7 (g_L b i ao wX wM)) (K : g_Nx Inv p l e s m below meth c b i wX wM ao (cells + 1) (slots + 6) Q) : W p l e room_1 s m #[Value.ref b] below meth c H locs cells slots Q (F0 m 1415 ls []) := by
  have hx := hs.1.1
  have hb := hs.1.2.1
  have hsim := sim σX σM hI ((xs (i + 1))) ((xs (i + 2)))
  obtain ⟨r, σX1, σM1, hX, hM, hI1⟩ := hsim
  refine lv_aload_n hx hb dL_law_1415 rfl (lv_at hl 1 rfl) ?_
  refine g_ld (k := 1) hs hS dL_law_1416 dL_law_1417 dL_law_1419 dL_law_1420 dL_law_1421 hl rfl rfl (by omega) ?_
  refine g_ld (k := 2) hs hS dL_law_1422 dL_law_1423 dL_law_1425 dL_law_1426 dL_law_1427 hl rfl rfl (by omega) ?_
  refine g_callXL (As := [.int (xs (i + 1)), .int (xs (i + 2))]) (rest := []) hs hD hS (e_X11_bestKnots (w := wX) (d := 18) (Nat.le_refl _) hX) g_l161 k_yX11_bestKnots ⟨Nat.le_of_ble_eq_true rfl, Nat.le_of_ble_eq_true rfl⟩ dL_law_1428 hl rfl (Nat.le_of_ble_eq_true rfl) (by omega) (by omega) (fun H1 locs1 hD1 hS1 => ?_)
  refine lv_aload_n hx hb dL_law_1431 rfl (lv_at hl 2 rfl) ?_
  refine g_ld (k := 1) hs hS1 dL_law_1432 dL_law_1433 dL_law_1435 dL_law_1436 dL_law_1437 hl rfl rfl (by omega) ?_
  refine g_ld (k := 2) hs hS1 dL_law_1438 dL_law_1439 dL_law_1441 dL_law_1442 dL_law_1443 hl rfl rfl (by omega) ?_
  refine g_callML (As := [.int (xs (i + 1)), .int (xs (i + 2))]) (rest := [.long r]) hs hD1 hS1 (e_X12_bestKnots (w := wM) (d := 205) (Nat.le_refl _) hM) g_l165 k_yX12_bestKnots ⟨Nat.le_of_ble_eq_true rfl, Nat.le_of_ble_eq_true rfl⟩ dL_law_1444 hl rfl (Nat.le_of_ble_eq_true rfl) (by omega) (by omega) (fun H2 locs2 hD2 hS2 => ?_)
  refine W.lcmp hx hb dL_law_1447 ?_
  refine lv_if_eq (tgt := 1963) hx hb dL_law_1448 (by decide) (fun _ => ?_) (fun c9 => absurd (g_cmp r) c9)
  exact W.widen (k := cells + 1) (n := slots + 6) (by omega) (by omega) (K _ _ _ _ _ _ hI1 hD2 hS2 hl)
set_option maxHeartbeats 1000000 in
set_option maxRecDepth 100000 in
theorem g_case32 {Inv : k_St → k_St → Prop} (sim : g_s32 Inv) {p : Program} {l : Launch} {e : Env} {s : State} {m : MethodId} {below : List Frame} {meth : Method} {c : Code} {b L i : Nat} {xs : Nat → Int32} {wX wM : k_WC} {ao : Nat} {σX σM : k_St} {fo : Nat → Int64} {H : Heap} {locs : List Loc} {cells slots : Nat} {Q : State → Prop} {ls : Array Slot} (hs : g_St p l s m meth c b L xs wX wM ao) (hc : cells + 1 ≤ 601024) (hsl : slots + 6 ≤ 7293034) (hi : i + 6 ≤ L) (hI : Inv σX σM) (hD : g_Dy s wX wM ao σX σM fo H) (hS : va_S (g_A s) s.heap H locs) (hl : lv_has ls 7 (g_L b i ao wX wM)) (K : g_Nx Inv p l e s m below meth c b i wX wM ao (cells + 1) (slots + 6) Q) : W p l e room_1 s m #[Value.ref b] below meth c H locs cells slots Q (F0 m 1453 ls []) := by
  have hx := hs.1.1
  have hb := hs.1.2.1
  have hsim := sim σX σM hI ((xs (i + 1))) ((xs (i + 2))) ((xs (i + 3)))
  obtain ⟨r, σM1, hX, hM, hI1⟩ := hsim
  refine lv_aload_n hx hb dL_law_1453 rfl (lv_at hl 1 rfl) ?_
  refine g_ld (k := 1) hs hS dL_law_1454 dL_law_1455 dL_law_1457 dL_law_1458 dL_law_1459 hl rfl rfl (by omega) ?_
  refine g_ld (k := 2) hs hS dL_law_1460 dL_law_1461 dL_law_1463 dL_law_1464 dL_law_1465 hl rfl rfl (by omega) ?_
  refine g_ld (k := 3) hs hS dL_law_1466 dL_law_1467 dL_law_1469 dL_law_1470 dL_law_1471 hl rfl rfl (by omega) ?_
  refine g_callXL (As := [.int (xs (i + 1)), .int (xs (i + 2)), .int (xs (i + 3))]) (rest := []) hs hD hS (e_X11_weather (w := wX) (d := 7) (Nat.le_refl _) hX) g_l166 k_yX11_weather ⟨Nat.le_of_ble_eq_true rfl, Nat.le_of_ble_eq_true rfl⟩ dL_law_1472 hl rfl (Nat.le_of_ble_eq_true rfl) (by omega) (by omega) (fun H1 locs1 hD1 hS1 => ?_)
  refine lv_aload_n hx hb dL_law_1475 rfl (lv_at hl 2 rfl) ?_
  refine g_ld (k := 1) hs hS1 dL_law_1476 dL_law_1477 dL_law_1479 dL_law_1480 dL_law_1481 hl rfl rfl (by omega) ?_
  refine g_ld (k := 2) hs hS1 dL_law_1482 dL_law_1483 dL_law_1485 dL_law_1486 dL_law_1487 hl rfl rfl (by omega) ?_
  refine g_ld (k := 3) hs hS1 dL_law_1488 dL_law_1489 dL_law_1491 dL_law_1492 dL_law_1493 hl rfl rfl (by omega) ?_
  refine g_callML (As := [.int (xs (i + 1)), .int (xs (i + 2)), .int (xs (i + 3))]) (rest := [.long r]) hs hD1 hS1 (e_X12_weather (w := wM) (d := 205) (Nat.le_refl _) hM) g_l169 k_yX12_weather ⟨Nat.le_of_ble_eq_true rfl, Nat.le_of_ble_eq_true rfl⟩ dL_law_1494 hl rfl (Nat.le_of_ble_eq_true rfl) (by omega) (by omega) (fun H2 locs2 hD2 hS2 => ?_)
  refine W.lcmp hx hb dL_law_1497 ?_
  refine lv_if_eq (tgt := 1963) hx hb dL_law_1498 (by decide) (fun _ => ?_) (fun c9 => absurd (g_cmp r) c9)
  exact W.widen (k := cells + 1) (n := slots + 6) (by omega) (by omega) (K _ _ _ _ _ _ hI1 hD2 hS2 hl)
set_option maxHeartbeats 1000000 in
set_option maxRecDepth 100000 in
theorem g_case33 {Inv : k_St → k_St → Prop} (sim : g_s33 Inv) {p : Program} {l : Launch} {e : Env} {s : State} {m : MethodId} {below : List Frame} {meth : Method} {c : Code} {b L i : Nat} {xs : Nat → Int32} {wX wM : k_WC} {ao : Nat} {σX σM : k_St} {fo : Nat → Int64} {H : Heap} {locs : List Loc} {cells slots : Nat} {Q : State → Prop} {ls : Array Slot} (hs : g_St p l s m meth c b L xs wX wM ao) (hc : cells + 1 ≤ 601024) (hsl : slots + 6 ≤ 7293034) (hi : i + 6 ≤ L) (hI : Inv σX σM) (hD : g_Dy s wX wM ao σX σM fo H) (hS : va_S (g_A s) s.heap H locs) (hl : lv_has ls 7 (g_L b i ao wX wM)) (K : g_Nx Inv p l e s m below meth c b i wX wM ao (cells + 1) (slots + 6) Q) : W p l e room_1 s m #[Value.ref b] below meth c H locs cells slots Q (F0 m 1503 ls []) := by
  have hx := hs.1.1
  have hb := hs.1.2.1
  have hsim := sim σX σM hI ((xs (i + 1))) ((xs (i + 2)))
  obtain ⟨r, σX1, σM1, hX, hM, hI1⟩ := hsim
  refine lv_aload_n hx hb dL_law_1503 rfl (lv_at hl 1 rfl) ?_
  refine g_ld (k := 1) hs hS dL_law_1504 dL_law_1505 dL_law_1507 dL_law_1508 dL_law_1509 hl rfl rfl (by omega) ?_
  refine g_ld (k := 2) hs hS dL_law_1510 dL_law_1511 dL_law_1513 dL_law_1514 dL_law_1515 hl rfl rfl (by omega) ?_
  refine g_callXI (As := [.int (xs (i + 1)), .int (xs (i + 2))]) (rest := []) hs hD hS (e_X11_skill (w := wX) (d := 19) (Nat.le_refl _) hX) g_l170 k_yX11_skill ⟨Nat.le_of_ble_eq_true rfl, Nat.le_of_ble_eq_true rfl⟩ dL_law_1516 hl rfl (Nat.le_of_ble_eq_true rfl) (by omega) (by omega) (fun H1 locs1 hD1 hS1 => ?_)
  refine lv_aload_n hx hb dL_law_1519 rfl (lv_at hl 2 rfl) ?_
  refine g_ld (k := 1) hs hS1 dL_law_1520 dL_law_1521 dL_law_1523 dL_law_1524 dL_law_1525 hl rfl rfl (by omega) ?_
  refine g_ld (k := 2) hs hS1 dL_law_1526 dL_law_1527 dL_law_1529 dL_law_1530 dL_law_1531 hl rfl rfl (by omega) ?_
  refine g_callMI (As := [.int (xs (i + 1)), .int (xs (i + 2))]) (rest := [.int r]) hs hD1 hS1 (e_X12_skill (w := wM) (d := 205) (Nat.le_refl _) hM) g_l173 k_yX12_skill ⟨Nat.le_of_ble_eq_true rfl, Nat.le_of_ble_eq_true rfl⟩ dL_law_1532 hl rfl (Nat.le_of_ble_eq_true rfl) (by omega) (by omega) (fun H2 locs2 hD2 hS2 => ?_)
  refine lv_icmp_eq (tgt := 1963) hx hb dL_law_1535 (by decide) (fun _ => ?_) (fun c9 => absurd rfl c9)
  exact W.widen (k := cells + 1) (n := slots + 6) (by omega) (by omega) (K _ _ _ _ _ _ hI1 hD2 hS2 hl)
set_option maxHeartbeats 1000000 in
set_option maxRecDepth 100000 in
theorem g_case34 {Inv : k_St → k_St → Prop} (sim : g_s34 Inv) {p : Program} {l : Launch} {e : Env} {s : State} {m : MethodId} {below : List Frame} {meth : Method} {c : Code} {b L i : Nat} {xs : Nat → Int32} {wX wM : k_WC} {ao : Nat} {σX σM : k_St} {fo : Nat → Int64} {H : Heap} {locs : List Loc} {cells slots : Nat} {Q : State → Prop} {ls : Array Slot} (hs : g_St p l s m meth c b L xs wX wM ao) (hc : cells + 1 ≤ 601024) (hsl : slots + 6 ≤ 7293034) (hi : i + 6 ≤ L) (hI : Inv σX σM) (hD : g_Dy s wX wM ao σX σM fo H) (hS : va_S (g_A s) s.heap H locs) (hl : lv_has ls 7 (g_L b i ao wX wM)) (K : g_Nx Inv p l e s m below meth c b i wX wM ao (cells + 1) (slots + 6) Q) : W p l e room_1 s m #[Value.ref b] below meth c H locs cells slots Q (F0 m 1540 ls []) := by
  have hx := hs.1.1
  have hb := hs.1.2.1
  have hsim := sim σX σM hI ((xs (i + 1)))
  obtain ⟨r, hX, hM⟩ := hsim
  refine lv_aload_n hx hb dL_law_1540 rfl (lv_at hl 1 rfl) ?_
  refine g_ld (k := 1) hs hS dL_law_1541 dL_law_1542 dL_law_1544 dL_law_1545 dL_law_1546 hl rfl rfl (by omega) ?_
  refine g_callXI (As := [.int (xs (i + 1))]) (rest := []) hs hD hS (e_X11_cases (w := wX) (d := 5) (Nat.le_refl _) hX) g_l174 k_yX11_cases ⟨Nat.le_of_ble_eq_true rfl, Nat.le_of_ble_eq_true rfl⟩ dL_law_1547 hl rfl (Nat.le_of_ble_eq_true rfl) (by omega) (by omega) (fun H1 locs1 hD1 hS1 => ?_)
  refine lv_aload_n hx hb dL_law_1550 rfl (lv_at hl 2 rfl) ?_
  refine g_ld (k := 1) hs hS1 dL_law_1551 dL_law_1552 dL_law_1554 dL_law_1555 dL_law_1556 hl rfl rfl (by omega) ?_
  refine g_callMI (As := [.int (xs (i + 1))]) (rest := [.int r]) hs hD1 hS1 (e_X12_cases (w := wM) (d := 4) (Nat.le_refl _) hM) g_l177 k_yX12_cases ⟨Nat.le_of_ble_eq_true rfl, Nat.le_of_ble_eq_true rfl⟩ dL_law_1557 hl rfl (Nat.le_of_ble_eq_true rfl) (by omega) (by omega) (fun H2 locs2 hD2 hS2 => ?_)
  refine lv_icmp_eq (tgt := 1963) hx hb dL_law_1560 (by decide) (fun _ => ?_) (fun c9 => absurd rfl c9)
  exact W.widen (k := cells + 1) (n := slots + 6) (by omega) (by omega) (K _ _ _ _ _ _ hI hD2 hS2 hl)
set_option maxHeartbeats 1000000 in
set_option maxRecDepth 100000 in
theorem g_case35 {Inv : k_St → k_St → Prop} (sim : g_s35 Inv) {p : Program} {l : Launch} {e : Env} {s : State} {m : MethodId} {below : List Frame} {meth : Method} {c : Code} {b L i : Nat} {xs : Nat → Int32} {wX wM : k_WC} {ao : Nat} {σX σM : k_St} {fo : Nat → Int64} {H : Heap} {locs : List Loc} {cells slots : Nat} {Q : State → Prop} {ls : Array Slot} (hs : g_St p l s m meth c b L xs wX wM ao) (hc : cells + 1 ≤ 601024) (hsl : slots + 6 ≤ 7293034) (hi : i + 6 ≤ L) (hI : Inv σX σM) (hD : g_Dy s wX wM ao σX σM fo H) (hS : va_S (g_A s) s.heap H locs) (hl : lv_has ls 7 (g_L b i ao wX wM)) (K : g_Nx Inv p l e s m below meth c b i wX wM ao (cells + 1) (slots + 6) Q) : W p l e room_1 s m #[Value.ref b] below meth c H locs cells slots Q (F0 m 1565 ls []) := by
  have hx := hs.1.1
  have hb := hs.1.2.1
  have hsim := sim σX σM hI ((xs (i + 1)))
  obtain ⟨r, σX1, hX, hM, hI1⟩ := hsim
  refine lv_aload_n hx hb dL_law_1565 rfl (lv_at hl 1 rfl) ?_
  refine g_ld (k := 1) hs hS dL_law_1566 dL_law_1567 dL_law_1569 dL_law_1570 dL_law_1571 hl rfl rfl (by omega) ?_
  refine g_callXI (As := [.int (xs (i + 1))]) (rest := []) hs hD hS (e_X11_mixed (w := wX) (d := 5) (Nat.le_refl _) hX) g_l178 k_yX11_mixed ⟨Nat.le_of_ble_eq_true rfl, Nat.le_of_ble_eq_true rfl⟩ dL_law_1572 hl rfl (Nat.le_of_ble_eq_true rfl) (by omega) (by omega) (fun H1 locs1 hD1 hS1 => ?_)
  refine lv_aload_n hx hb dL_law_1575 rfl (lv_at hl 2 rfl) ?_
  refine g_ld (k := 1) hs hS1 dL_law_1576 dL_law_1577 dL_law_1579 dL_law_1580 dL_law_1581 hl rfl rfl (by omega) ?_
  refine g_callMI (As := [.int (xs (i + 1))]) (rest := [.int r]) hs hD1 hS1 (e_X12_mixed (w := wM) (d := 4) (Nat.le_refl _) hM) g_l181 k_yX12_mixed ⟨Nat.le_of_ble_eq_true rfl, Nat.le_of_ble_eq_true rfl⟩ dL_law_1582 hl rfl (Nat.le_of_ble_eq_true rfl) (by omega) (by omega) (fun H2 locs2 hD2 hS2 => ?_)
  refine lv_icmp_eq (tgt := 1963) hx hb dL_law_1585 (by decide) (fun _ => ?_) (fun c9 => absurd rfl c9)
  exact W.widen (k := cells + 1) (n := slots + 6) (by omega) (by omega) (K _ _ _ _ _ _ hI1 hD2 hS2 hl)
set_option maxHeartbeats 1000000 in
set_option maxRecDepth 100000 in
theorem g_case36 {Inv : k_St → k_St → Prop} (sim : g_s36 Inv) {p : Program} {l : Launch} {e : Env} {s : State} {m : MethodId} {below : List Frame} {meth : Method} {c : Code} {b L i : Nat} {xs : Nat → Int32} {wX wM : k_WC} {ao : Nat} {σX σM : k_St} {fo : Nat → Int64} {H : Heap} {locs : List Loc} {cells slots : Nat} {Q : State → Prop} {ls : Array Slot} (hs : g_St p l s m meth c b L xs wX wM ao) (hc : cells + 1 ≤ 601024) (hsl : slots + 6 ≤ 7293034) (hi : i + 6 ≤ L) (hI : Inv σX σM) (hD : g_Dy s wX wM ao σX σM fo H) (hS : va_S (g_A s) s.heap H locs) (hl : lv_has ls 7 (g_L b i ao wX wM)) (K : g_Nx Inv p l e s m below meth c b i wX wM ao (cells + 1) (slots + 6) Q) : W p l e room_1 s m #[Value.ref b] below meth c H locs cells slots Q (F0 m 1590 ls []) := by
  have hx := hs.1.1
  have hb := hs.1.2.1
  have hsim := sim σX σM hI ((xs (i + 1))) ((xs (i + 2))) ((xs (i + 3)))
  obtain ⟨r, σM1, hX, hM, hI1⟩ := hsim
  refine lv_aload_n hx hb dL_law_1590 rfl (lv_at hl 1 rfl) ?_
  refine g_ld (k := 1) hs hS dL_law_1591 dL_law_1592 dL_law_1594 dL_law_1595 dL_law_1596 hl rfl rfl (by omega) ?_
  refine g_ld (k := 2) hs hS dL_law_1597 dL_law_1598 dL_law_1600 dL_law_1601 dL_law_1602 hl rfl rfl (by omega) ?_
  refine g_ld (k := 3) hs hS dL_law_1603 dL_law_1604 dL_law_1606 dL_law_1607 dL_law_1608 hl rfl rfl (by omega) ?_
  refine g_callXL (As := [.int (xs (i + 1)), .int (xs (i + 2)), .int (xs (i + 3))]) (rest := []) hs hD hS (e_X11_crossed (w := wX) (d := 7) (Nat.le_refl _) hX) g_l182 k_yX11_crossed ⟨Nat.le_of_ble_eq_true rfl, Nat.le_of_ble_eq_true rfl⟩ dL_law_1609 hl rfl (Nat.le_of_ble_eq_true rfl) (by omega) (by omega) (fun H1 locs1 hD1 hS1 => ?_)
  refine lv_aload_n hx hb dL_law_1612 rfl (lv_at hl 2 rfl) ?_
  refine g_ld (k := 1) hs hS1 dL_law_1613 dL_law_1614 dL_law_1616 dL_law_1617 dL_law_1618 hl rfl rfl (by omega) ?_
  refine g_ld (k := 2) hs hS1 dL_law_1619 dL_law_1620 dL_law_1622 dL_law_1623 dL_law_1624 hl rfl rfl (by omega) ?_
  refine g_ld (k := 3) hs hS1 dL_law_1625 dL_law_1626 dL_law_1628 dL_law_1629 dL_law_1630 hl rfl rfl (by omega) ?_
  refine g_callML (As := [.int (xs (i + 1)), .int (xs (i + 2)), .int (xs (i + 3))]) (rest := [.long r]) hs hD1 hS1 (e_X12_crossed (w := wM) (d := 205) (Nat.le_refl _) hM) g_l185 k_yX12_crossed ⟨Nat.le_of_ble_eq_true rfl, Nat.le_of_ble_eq_true rfl⟩ dL_law_1631 hl rfl (Nat.le_of_ble_eq_true rfl) (by omega) (by omega) (fun H2 locs2 hD2 hS2 => ?_)
  refine W.lcmp hx hb dL_law_1634 ?_
  refine lv_if_eq (tgt := 1963) hx hb dL_law_1635 (by decide) (fun _ => ?_) (fun c9 => absurd (g_cmp r) c9)
  exact W.widen (k := cells + 1) (n := slots + 6) (by omega) (by omega) (K _ _ _ _ _ _ hI1 hD2 hS2 hl)
set_option maxHeartbeats 1000000 in
set_option maxRecDepth 100000 in
theorem g_case37 {Inv : k_St → k_St → Prop} (sim : g_s37 Inv) {p : Program} {l : Launch} {e : Env} {s : State} {m : MethodId} {below : List Frame} {meth : Method} {c : Code} {b L i : Nat} {xs : Nat → Int32} {wX wM : k_WC} {ao : Nat} {σX σM : k_St} {fo : Nat → Int64} {H : Heap} {locs : List Loc} {cells slots : Nat} {Q : State → Prop} {ls : Array Slot} (hs : g_St p l s m meth c b L xs wX wM ao) (hc : cells + 1 ≤ 601024) (hsl : slots + 6 ≤ 7293034) (hi : i + 6 ≤ L) (hI : Inv σX σM) (hD : g_Dy s wX wM ao σX σM fo H) (hS : va_S (g_A s) s.heap H locs) (hl : lv_has ls 7 (g_L b i ao wX wM)) (K : g_Nx Inv p l e s m below meth c b i wX wM ao (cells + 1) (slots + 6) Q) : W p l e room_1 s m #[Value.ref b] below meth c H locs cells slots Q (F0 m 1640 ls []) := by
  have hx := hs.1.1
  have hb := hs.1.2.1
  have hsim := sim σX σM hI ((xs (i + 1))) ((xs (i + 2))) ((xs (i + 3)))
  obtain ⟨r, σX1, σM1, hX, hM, hI1⟩ := hsim
  refine lv_aload_n hx hb dL_law_1640 rfl (lv_at hl 1 rfl) ?_
  refine g_ld (k := 1) hs hS dL_law_1641 dL_law_1642 dL_law_1644 dL_law_1645 dL_law_1646 hl rfl rfl (by omega) ?_
  refine g_ld (k := 2) hs hS dL_law_1647 dL_law_1648 dL_law_1650 dL_law_1651 dL_law_1652 hl rfl rfl (by omega) ?_
  refine g_ld (k := 3) hs hS dL_law_1653 dL_law_1654 dL_law_1656 dL_law_1657 dL_law_1658 hl rfl rfl (by omega) ?_
  refine g_callXI (As := [.int (xs (i + 1)), .int (xs (i + 2)), .int (xs (i + 3))]) (rest := []) hs hD hS (e_X11_rests (w := wX) (d := 8) (Nat.le_refl _) hX) g_l186 k_yX11_rests ⟨Nat.le_of_ble_eq_true rfl, Nat.le_of_ble_eq_true rfl⟩ dL_law_1659 hl rfl (Nat.le_of_ble_eq_true rfl) (by omega) (by omega) (fun H1 locs1 hD1 hS1 => ?_)
  refine lv_aload_n hx hb dL_law_1662 rfl (lv_at hl 2 rfl) ?_
  refine g_ld (k := 1) hs hS1 dL_law_1663 dL_law_1664 dL_law_1666 dL_law_1667 dL_law_1668 hl rfl rfl (by omega) ?_
  refine g_ld (k := 2) hs hS1 dL_law_1669 dL_law_1670 dL_law_1672 dL_law_1673 dL_law_1674 hl rfl rfl (by omega) ?_
  refine g_ld (k := 3) hs hS1 dL_law_1675 dL_law_1676 dL_law_1678 dL_law_1679 dL_law_1680 hl rfl rfl (by omega) ?_
  refine g_callMI (As := [.int (xs (i + 1)), .int (xs (i + 2)), .int (xs (i + 3))]) (rest := [.int r]) hs hD1 hS1 (e_X12_rests (w := wM) (d := 10) (Nat.le_refl _) hM) g_l189 k_yX12_rests ⟨Nat.le_of_ble_eq_true rfl, Nat.le_of_ble_eq_true rfl⟩ dL_law_1681 hl rfl (Nat.le_of_ble_eq_true rfl) (by omega) (by omega) (fun H2 locs2 hD2 hS2 => ?_)
  refine lv_icmp_eq (tgt := 1963) hx hb dL_law_1684 (by decide) (fun _ => ?_) (fun c9 => absurd rfl c9)
  exact W.widen (k := cells + 1) (n := slots + 6) (by omega) (by omega) (K _ _ _ _ _ _ hI1 hD2 hS2 hl)
set_option maxHeartbeats 1000000 in
set_option maxRecDepth 100000 in
theorem g_case38 {Inv : k_St → k_St → Prop} (sim : g_s38 Inv) {p : Program} {l : Launch} {e : Env} {s : State} {m : MethodId} {below : List Frame} {meth : Method} {c : Code} {b L i : Nat} {xs : Nat → Int32} {wX wM : k_WC} {ao : Nat} {σX σM : k_St} {fo : Nat → Int64} {H : Heap} {locs : List Loc} {cells slots : Nat} {Q : State → Prop} {ls : Array Slot} (hs : g_St p l s m meth c b L xs wX wM ao) (hc : cells + 1 ≤ 601024) (hsl : slots + 6 ≤ 7293034) (hi : i + 6 ≤ L) (hI : Inv σX σM) (hD : g_Dy s wX wM ao σX σM fo H) (hS : va_S (g_A s) s.heap H locs) (hl : lv_has ls 7 (g_L b i ao wX wM)) (K : g_Nx Inv p l e s m below meth c b i wX wM ao (cells + 1) (slots + 6) Q) : W p l e room_1 s m #[Value.ref b] below meth c H locs cells slots Q (F0 m 1689 ls []) := by
  have hx := hs.1.1
  have hb := hs.1.2.1
  have hsim := sim σX σM hI ((xs (i + 1))) ((xs (i + 2)))
  obtain ⟨r, σX1, σM1, hX, hM, hI1⟩ := hsim
  refine lv_aload_n hx hb dL_law_1689 rfl (lv_at hl 1 rfl) ?_
  refine g_ld (k := 1) hs hS dL_law_1690 dL_law_1691 dL_law_1693 dL_law_1694 dL_law_1695 hl rfl rfl (by omega) ?_
  refine g_ld (k := 2) hs hS dL_law_1696 dL_law_1697 dL_law_1699 dL_law_1700 dL_law_1701 hl rfl rfl (by omega) ?_
  refine g_callXI (As := [.int (xs (i + 1)), .int (xs (i + 2))]) (rest := []) hs hD hS (e_X11_leavers (w := wX) (d := 8) (Nat.le_refl _) hX) g_l190 k_yX11_leavers ⟨Nat.le_of_ble_eq_true rfl, Nat.le_of_ble_eq_true rfl⟩ dL_law_1702 hl rfl (Nat.le_of_ble_eq_true rfl) (by omega) (by omega) (fun H1 locs1 hD1 hS1 => ?_)
  refine lv_aload_n hx hb dL_law_1705 rfl (lv_at hl 2 rfl) ?_
  refine g_ld (k := 1) hs hS1 dL_law_1706 dL_law_1707 dL_law_1709 dL_law_1710 dL_law_1711 hl rfl rfl (by omega) ?_
  refine g_ld (k := 2) hs hS1 dL_law_1712 dL_law_1713 dL_law_1715 dL_law_1716 dL_law_1717 hl rfl rfl (by omega) ?_
  refine g_callMI (As := [.int (xs (i + 1)), .int (xs (i + 2))]) (rest := [.int r]) hs hD1 hS1 (e_X12_leavers (w := wM) (d := 10) (Nat.le_refl _) hM) g_l193 k_yX12_leavers ⟨Nat.le_of_ble_eq_true rfl, Nat.le_of_ble_eq_true rfl⟩ dL_law_1718 hl rfl (Nat.le_of_ble_eq_true rfl) (by omega) (by omega) (fun H2 locs2 hD2 hS2 => ?_)
  refine lv_icmp_eq (tgt := 1963) hx hb dL_law_1721 (by decide) (fun _ => ?_) (fun c9 => absurd rfl c9)
  exact W.widen (k := cells + 1) (n := slots + 6) (by omega) (by omega) (K _ _ _ _ _ _ hI1 hD2 hS2 hl)
set_option maxHeartbeats 1000000 in
set_option maxRecDepth 100000 in
theorem g_case39 {Inv : k_St → k_St → Prop} (sim : g_s39 Inv) {p : Program} {l : Launch} {e : Env} {s : State} {m : MethodId} {below : List Frame} {meth : Method} {c : Code} {b L i : Nat} {xs : Nat → Int32} {wX wM : k_WC} {ao : Nat} {σX σM : k_St} {fo : Nat → Int64} {H : Heap} {locs : List Loc} {cells slots : Nat} {Q : State → Prop} {ls : Array Slot} (hs : g_St p l s m meth c b L xs wX wM ao) (hc : cells + 1 ≤ 601024) (hsl : slots + 6 ≤ 7293034) (hi : i + 6 ≤ L) (hI : Inv σX σM) (hD : g_Dy s wX wM ao σX σM fo H) (hS : va_S (g_A s) s.heap H locs) (hl : lv_has ls 7 (g_L b i ao wX wM)) (K : g_Nx Inv p l e s m below meth c b i wX wM ao (cells + 1) (slots + 6) Q) : W p l e room_1 s m #[Value.ref b] below meth c H locs cells slots Q (F0 m 1726 ls []) := by
  have hx := hs.1.1
  have hb := hs.1.2.1
  have hsim := sim σX σM hI ((xs (i + 1))) ((xs (i + 2))) ((xs (i + 3)))
  obtain ⟨r, σX1, σM1, hX, hM, hI1⟩ := hsim
  refine lv_aload_n hx hb dL_law_1726 rfl (lv_at hl 1 rfl) ?_
  refine g_ld (k := 1) hs hS dL_law_1727 dL_law_1728 dL_law_1730 dL_law_1731 dL_law_1732 hl rfl rfl (by omega) ?_
  refine g_ld (k := 2) hs hS dL_law_1733 dL_law_1734 dL_law_1736 dL_law_1737 dL_law_1738 hl rfl rfl (by omega) ?_
  refine g_ld (k := 3) hs hS dL_law_1739 dL_law_1740 dL_law_1742 dL_law_1743 dL_law_1744 hl rfl rfl (by omega) ?_
  refine g_callXI (As := [.int (xs (i + 1)), .int (xs (i + 2)), .int (xs (i + 3))]) (rest := []) hs hD hS (e_X11_read (w := wX) (d := 6) (Nat.le_refl _) hX) g_l194 k_yX11_read ⟨Nat.le_of_ble_eq_true rfl, Nat.le_of_ble_eq_true rfl⟩ dL_law_1745 hl rfl (Nat.le_of_ble_eq_true rfl) (by omega) (by omega) (fun H1 locs1 hD1 hS1 => ?_)
  refine lv_aload_n hx hb dL_law_1748 rfl (lv_at hl 2 rfl) ?_
  refine g_ld (k := 1) hs hS1 dL_law_1749 dL_law_1750 dL_law_1752 dL_law_1753 dL_law_1754 hl rfl rfl (by omega) ?_
  refine g_ld (k := 2) hs hS1 dL_law_1755 dL_law_1756 dL_law_1758 dL_law_1759 dL_law_1760 hl rfl rfl (by omega) ?_
  refine g_ld (k := 3) hs hS1 dL_law_1761 dL_law_1762 dL_law_1764 dL_law_1765 dL_law_1766 hl rfl rfl (by omega) ?_
  refine g_callMI (As := [.int (xs (i + 1)), .int (xs (i + 2)), .int (xs (i + 3))]) (rest := [.int r]) hs hD1 hS1 (e_X12_read (w := wM) (d := 5) (Nat.le_refl _) hM) g_l197 k_yX12_read ⟨Nat.le_of_ble_eq_true rfl, Nat.le_of_ble_eq_true rfl⟩ dL_law_1767 hl rfl (Nat.le_of_ble_eq_true rfl) (by omega) (by omega) (fun H2 locs2 hD2 hS2 => ?_)
  refine lv_icmp_eq (tgt := 1963) hx hb dL_law_1770 (by decide) (fun _ => ?_) (fun c9 => absurd rfl c9)
  exact W.widen (k := cells + 1) (n := slots + 6) (by omega) (by omega) (K _ _ _ _ _ _ hI1 hD2 hS2 hl)
set_option maxHeartbeats 1000000 in
set_option maxRecDepth 100000 in
theorem g_case40 {Inv : k_St → k_St → Prop} (sim : g_s40 Inv) {p : Program} {l : Launch} {e : Env} {s : State} {m : MethodId} {below : List Frame} {meth : Method} {c : Code} {b L i : Nat} {xs : Nat → Int32} {wX wM : k_WC} {ao : Nat} {σX σM : k_St} {fo : Nat → Int64} {H : Heap} {locs : List Loc} {cells slots : Nat} {Q : State → Prop} {ls : Array Slot} (hs : g_St p l s m meth c b L xs wX wM ao) (hc : cells + 1 ≤ 601024) (hsl : slots + 6 ≤ 7293034) (hi : i + 6 ≤ L) (hI : Inv σX σM) (hD : g_Dy s wX wM ao σX σM fo H) (hS : va_S (g_A s) s.heap H locs) (hl : lv_has ls 7 (g_L b i ao wX wM)) (K : g_Nx Inv p l e s m below meth c b i wX wM ao (cells + 1) (slots + 6) Q) : W p l e room_1 s m #[Value.ref b] below meth c H locs cells slots Q (F0 m 1775 ls []) := by
  have hx := hs.1.1
  have hb := hs.1.2.1
  have hsim := sim σX σM hI ((xs (i + 1))) ((xs (i + 2)))
  obtain ⟨r, σX1, σM1, hX, hM, hI1⟩ := hsim
  refine lv_aload_n hx hb dL_law_1775 rfl (lv_at hl 1 rfl) ?_
  refine g_ld (k := 1) hs hS dL_law_1776 dL_law_1777 dL_law_1779 dL_law_1780 dL_law_1781 hl rfl rfl (by omega) ?_
  refine g_ld (k := 2) hs hS dL_law_1782 dL_law_1783 dL_law_1785 dL_law_1786 dL_law_1787 hl rfl rfl (by omega) ?_
  refine g_callXI (As := [.int (xs (i + 1)), .int (xs (i + 2))]) (rest := []) hs hD hS (e_X11_spread (w := wX) (d := 6) (Nat.le_refl _) hX) g_l198 k_yX11_spread ⟨Nat.le_of_ble_eq_true rfl, Nat.le_of_ble_eq_true rfl⟩ dL_law_1788 hl rfl (Nat.le_of_ble_eq_true rfl) (by omega) (by omega) (fun H1 locs1 hD1 hS1 => ?_)
  refine lv_aload_n hx hb dL_law_1791 rfl (lv_at hl 2 rfl) ?_
  refine g_ld (k := 1) hs hS1 dL_law_1792 dL_law_1793 dL_law_1795 dL_law_1796 dL_law_1797 hl rfl rfl (by omega) ?_
  refine g_ld (k := 2) hs hS1 dL_law_1798 dL_law_1799 dL_law_1801 dL_law_1802 dL_law_1803 hl rfl rfl (by omega) ?_
  refine g_callMI (As := [.int (xs (i + 1)), .int (xs (i + 2))]) (rest := [.int r]) hs hD1 hS1 (e_X12_spread (w := wM) (d := 5) (Nat.le_refl _) hM) g_l201 k_yX12_spread ⟨Nat.le_of_ble_eq_true rfl, Nat.le_of_ble_eq_true rfl⟩ dL_law_1804 hl rfl (Nat.le_of_ble_eq_true rfl) (by omega) (by omega) (fun H2 locs2 hD2 hS2 => ?_)
  refine lv_icmp_eq (tgt := 1963) hx hb dL_law_1807 (by decide) (fun _ => ?_) (fun c9 => absurd rfl c9)
  exact W.widen (k := cells + 1) (n := slots + 6) (by omega) (by omega) (K _ _ _ _ _ _ hI1 hD2 hS2 hl)
set_option maxHeartbeats 1000000 in
set_option maxRecDepth 100000 in
theorem g_case41 {Inv : k_St → k_St → Prop} (sim : g_s41 Inv) {p : Program} {l : Launch} {e : Env} {s : State} {m : MethodId} {below : List Frame} {meth : Method} {c : Code} {b L i : Nat} {xs : Nat → Int32} {wX wM : k_WC} {ao : Nat} {σX σM : k_St} {fo : Nat → Int64} {H : Heap} {locs : List Loc} {cells slots : Nat} {Q : State → Prop} {ls : Array Slot} (hs : g_St p l s m meth c b L xs wX wM ao) (hc : cells + 1 ≤ 601024) (hsl : slots + 6 ≤ 7293034) (hi : i + 6 ≤ L) (hI : Inv σX σM) (hD : g_Dy s wX wM ao σX σM fo H) (hS : va_S (g_A s) s.heap H locs) (hl : lv_has ls 7 (g_L b i ao wX wM)) (K : g_Nx Inv p l e s m below meth c b i wX wM ao (cells + 1) (slots + 6) Q) : W p l e room_1 s m #[Value.ref b] below meth c H locs cells slots Q (F0 m 1812 ls []) := by
  have hx := hs.1.1
  have hb := hs.1.2.1
  have hsim := sim σX σM hI ((xs (i + 1))) ((xs (i + 2)))
  obtain ⟨r, hX, hM⟩ := hsim
  refine lv_aload_n hx hb dL_law_1812 rfl (lv_at hl 1 rfl) ?_
  refine g_ld (k := 1) hs hS dL_law_1813 dL_law_1814 dL_law_1816 dL_law_1817 dL_law_1818 hl rfl rfl (by omega) ?_
  refine g_ld (k := 2) hs hS dL_law_1819 dL_law_1820 dL_law_1822 dL_law_1823 dL_law_1824 hl rfl rfl (by omega) ?_
  refine g_callXI (As := [.int (xs (i + 1)), .int (xs (i + 2))]) (rest := []) hs hD hS (e_X11_hoard (w := wX) (d := 4) (Nat.le_refl _) hX) g_l202 k_yX11_hoard ⟨Nat.le_of_ble_eq_true rfl, Nat.le_of_ble_eq_true rfl⟩ dL_law_1825 hl rfl (Nat.le_of_ble_eq_true rfl) (by omega) (by omega) (fun H1 locs1 hD1 hS1 => ?_)
  refine lv_aload_n hx hb dL_law_1828 rfl (lv_at hl 2 rfl) ?_
  refine g_ld (k := 1) hs hS1 dL_law_1829 dL_law_1830 dL_law_1832 dL_law_1833 dL_law_1834 hl rfl rfl (by omega) ?_
  refine g_ld (k := 2) hs hS1 dL_law_1835 dL_law_1836 dL_law_1838 dL_law_1839 dL_law_1840 hl rfl rfl (by omega) ?_
  refine g_callMI (As := [.int (xs (i + 1)), .int (xs (i + 2))]) (rest := [.int r]) hs hD1 hS1 (e_X12_hoard (w := wM) (d := 4) (Nat.le_refl _) hM) g_l205 k_yX12_hoard ⟨Nat.le_of_ble_eq_true rfl, Nat.le_of_ble_eq_true rfl⟩ dL_law_1841 hl rfl (Nat.le_of_ble_eq_true rfl) (by omega) (by omega) (fun H2 locs2 hD2 hS2 => ?_)
  refine lv_icmp_eq (tgt := 1963) hx hb dL_law_1844 (by decide) (fun _ => ?_) (fun c9 => absurd rfl c9)
  exact W.widen (k := cells + 1) (n := slots + 6) (by omega) (by omega) (K _ _ _ _ _ _ hI hD2 hS2 hl)
set_option maxHeartbeats 1000000 in
set_option maxRecDepth 100000 in
theorem g_case42 {Inv : k_St → k_St → Prop} (sim : g_s42 Inv) {p : Program} {l : Launch} {e : Env} {s : State} {m : MethodId} {below : List Frame} {meth : Method} {c : Code} {b L i : Nat} {xs : Nat → Int32} {wX wM : k_WC} {ao : Nat} {σX σM : k_St} {fo : Nat → Int64} {H : Heap} {locs : List Loc} {cells slots : Nat} {Q : State → Prop} {ls : Array Slot} (hs : g_St p l s m meth c b L xs wX wM ao) (hc : cells + 1 ≤ 601024) (hsl : slots + 6 ≤ 7293034) (hi : i + 6 ≤ L) (hI : Inv σX σM) (hD : g_Dy s wX wM ao σX σM fo H) (hS : va_S (g_A s) s.heap H locs) (hl : lv_has ls 7 (g_L b i ao wX wM)) (K : g_Nx Inv p l e s m below meth c b i wX wM ao (cells + 1) (slots + 6) Q) : W p l e room_1 s m #[Value.ref b] below meth c H locs cells slots Q (F0 m 1849 ls []) := by
  have hx := hs.1.1
  have hb := hs.1.2.1
  have hsim := sim σX σM hI ((xs (i + 1))) ((xs (i + 2)))
  obtain ⟨r, hX, hM⟩ := hsim
  refine lv_aload_n hx hb dL_law_1849 rfl (lv_at hl 1 rfl) ?_
  refine g_ld (k := 1) hs hS dL_law_1850 dL_law_1851 dL_law_1853 dL_law_1854 dL_law_1855 hl rfl rfl (by omega) ?_
  refine g_ld (k := 2) hs hS dL_law_1856 dL_law_1857 dL_law_1859 dL_law_1860 dL_law_1861 hl rfl rfl (by omega) ?_
  refine g_callXI (As := [.int (xs (i + 1)), .int (xs (i + 2))]) (rest := []) hs hD hS (e_X11_said (w := wX) (d := 4) (Nat.le_refl _) hX) g_l206 k_yX11_said ⟨Nat.le_of_ble_eq_true rfl, Nat.le_of_ble_eq_true rfl⟩ dL_law_1862 hl rfl (Nat.le_of_ble_eq_true rfl) (by omega) (by omega) (fun H1 locs1 hD1 hS1 => ?_)
  refine lv_aload_n hx hb dL_law_1865 rfl (lv_at hl 2 rfl) ?_
  refine g_ld (k := 1) hs hS1 dL_law_1866 dL_law_1867 dL_law_1869 dL_law_1870 dL_law_1871 hl rfl rfl (by omega) ?_
  refine g_ld (k := 2) hs hS1 dL_law_1872 dL_law_1873 dL_law_1875 dL_law_1876 dL_law_1877 hl rfl rfl (by omega) ?_
  refine g_callMI (As := [.int (xs (i + 1)), .int (xs (i + 2))]) (rest := [.int r]) hs hD1 hS1 (e_X12_said (w := wM) (d := 3) (Nat.le_refl _) hM) g_l209 k_yX12_said ⟨Nat.le_of_ble_eq_true rfl, Nat.le_of_ble_eq_true rfl⟩ dL_law_1878 hl rfl (Nat.le_of_ble_eq_true rfl) (by omega) (by omega) (fun H2 locs2 hD2 hS2 => ?_)
  refine lv_icmp_eq (tgt := 1963) hx hb dL_law_1881 (by decide) (fun _ => ?_) (fun c9 => absurd rfl c9)
  exact W.widen (k := cells + 1) (n := slots + 6) (by omega) (by omega) (K _ _ _ _ _ _ hI hD2 hS2 hl)
set_option maxHeartbeats 1000000 in
set_option maxRecDepth 100000 in
theorem g_case43 {Inv : k_St → k_St → Prop} (sim : g_s43 Inv) {p : Program} {l : Launch} {e : Env} {s : State} {m : MethodId} {below : List Frame} {meth : Method} {c : Code} {b L i : Nat} {xs : Nat → Int32} {wX wM : k_WC} {ao : Nat} {σX σM : k_St} {fo : Nat → Int64} {H : Heap} {locs : List Loc} {cells slots : Nat} {Q : State → Prop} {ls : Array Slot} (hs : g_St p l s m meth c b L xs wX wM ao) (hc : cells + 1 ≤ 601024) (hsl : slots + 6 ≤ 7293034) (hi : i + 6 ≤ L) (hI : Inv σX σM) (hD : g_Dy s wX wM ao σX σM fo H) (hS : va_S (g_A s) s.heap H locs) (hl : lv_has ls 7 (g_L b i ao wX wM)) (K : g_Nx Inv p l e s m below meth c b i wX wM ao (cells + 1) (slots + 6) Q) : W p l e room_1 s m #[Value.ref b] below meth c H locs cells slots Q (F0 m 1886 ls []) := by
  have hx := hs.1.1
  have hb := hs.1.2.1
  have hsim := sim σX σM hI
  obtain ⟨r, hX, hM⟩ := hsim
  refine lv_aload_n hx hb dL_law_1886 rfl (lv_at hl 1 rfl) ?_
  refine g_callXI (As := []) (rest := []) hs hD hS (e_X11_run (w := wX) (d := 4) (Nat.le_refl _) hX) g_l210 k_yX11_run ⟨Nat.le_of_ble_eq_true rfl, Nat.le_of_ble_eq_true rfl⟩ dL_law_1887 hl rfl (Nat.le_of_ble_eq_true rfl) (by omega) (by omega) (fun H1 locs1 hD1 hS1 => ?_)
  refine lv_aload_n hx hb dL_law_1890 rfl (lv_at hl 2 rfl) ?_
  refine g_callMI (As := []) (rest := [.int r]) hs hD1 hS1 (e_X12_run (w := wM) (d := 3) (Nat.le_refl _) hM) g_l213 k_yX12_run ⟨Nat.le_of_ble_eq_true rfl, Nat.le_of_ble_eq_true rfl⟩ dL_law_1891 hl rfl (Nat.le_of_ble_eq_true rfl) (by omega) (by omega) (fun H2 locs2 hD2 hS2 => ?_)
  refine lv_icmp_eq (tgt := 1963) hx hb dL_law_1894 (by decide) (fun _ => ?_) (fun c9 => absurd rfl c9)
  exact W.widen (k := cells + 1) (n := slots + 6) (by omega) (by omega) (K _ _ _ _ _ _ hI hD2 hS2 hl)
set_option maxHeartbeats 1000000 in
set_option maxRecDepth 100000 in
theorem g_case44 {Inv : k_St → k_St → Prop} (sim : g_s44 Inv) {p : Program} {l : Launch} {e : Env} {s : State} {m : MethodId} {below : List Frame} {meth : Method} {c : Code} {b L i : Nat} {xs : Nat → Int32} {wX wM : k_WC} {ao : Nat} {σX σM : k_St} {fo : Nat → Int64} {H : Heap} {locs : List Loc} {cells slots : Nat} {Q : State → Prop} {ls : Array Slot} (hs : g_St p l s m meth c b L xs wX wM ao) (hc : cells + 1 ≤ 601024) (hsl : slots + 6 ≤ 7293034) (hi : i + 6 ≤ L) (hI : Inv σX σM) (hD : g_Dy s wX wM ao σX σM fo H) (hS : va_S (g_A s) s.heap H locs) (hl : lv_has ls 7 (g_L b i ao wX wM)) (K : g_Nx Inv p l e s m below meth c b i wX wM ao (cells + 1) (slots + 6) Q) : W p l e room_1 s m #[Value.ref b] below meth c H locs cells slots Q (F0 m 1899 ls []) := by
  have hx := hs.1.1
  have hb := hs.1.2.1
  have hsim := sim σX σM hI
  obtain ⟨r, σX1, σM1, hX, hM, hI1⟩ := hsim
  refine lv_aload_n hx hb dL_law_1899 rfl (lv_at hl 1 rfl) ?_
  refine g_callXI (As := []) (rest := []) hs hD hS (e_X11_copy (w := wX) (d := 6) (Nat.le_refl _) hX) g_l214 k_yX11_copy ⟨Nat.le_of_ble_eq_true rfl, Nat.le_of_ble_eq_true rfl⟩ dL_law_1900 hl rfl (Nat.le_of_ble_eq_true rfl) (by omega) (by omega) (fun H1 locs1 hD1 hS1 => ?_)
  refine lv_aload_n hx hb dL_law_1903 rfl (lv_at hl 2 rfl) ?_
  refine g_callMI (As := []) (rest := [.int r]) hs hD1 hS1 (e_X12_copy (w := wM) (d := 9) (Nat.le_refl _) hM) g_l217 k_yX12_copy ⟨Nat.le_of_ble_eq_true rfl, Nat.le_of_ble_eq_true rfl⟩ dL_law_1904 hl rfl (Nat.le_of_ble_eq_true rfl) (by omega) (by omega) (fun H2 locs2 hD2 hS2 => ?_)
  refine lv_icmp_eq (tgt := 1963) hx hb dL_law_1907 (by decide) (fun _ => ?_) (fun c9 => absurd rfl c9)
  exact W.widen (k := cells + 1) (n := slots + 6) (by omega) (by omega) (K _ _ _ _ _ _ hI1 hD2 hS2 hl)
set_option maxHeartbeats 1000000 in
set_option maxRecDepth 100000 in
theorem g_case45 {Inv : k_St → k_St → Prop} (sim : g_s45 Inv) {p : Program} {l : Launch} {e : Env} {s : State} {m : MethodId} {below : List Frame} {meth : Method} {c : Code} {b L i : Nat} {xs : Nat → Int32} {wX wM : k_WC} {ao : Nat} {σX σM : k_St} {fo : Nat → Int64} {H : Heap} {locs : List Loc} {cells slots : Nat} {Q : State → Prop} {ls : Array Slot} (hs : g_St p l s m meth c b L xs wX wM ao) (hc : cells + 1 ≤ 601024) (hsl : slots + 6 ≤ 7293034) (hi : i + 6 ≤ L) (hI : Inv σX σM) (hD : g_Dy s wX wM ao σX σM fo H) (hS : va_S (g_A s) s.heap H locs) (hl : lv_has ls 7 (g_L b i ao wX wM)) (K : g_Nx Inv p l e s m below meth c b i wX wM ao (cells + 1) (slots + 6) Q) : W p l e room_1 s m #[Value.ref b] below meth c H locs cells slots Q (F0 m 1912 ls []) := by
  have hx := hs.1.1
  have hb := hs.1.2.1
  have hsim := sim σX σM hI
  obtain ⟨r, σX1, σM1, hX, hM, hI1⟩ := hsim
  refine lv_aload_n hx hb dL_law_1912 rfl (lv_at hl 1 rfl) ?_
  refine g_callXI (As := []) (rest := []) hs hD hS (e_X11_image (w := wX) (d := 4) (Nat.le_refl _) hX) g_l218 k_yX11_image ⟨Nat.le_of_ble_eq_true rfl, Nat.le_of_ble_eq_true rfl⟩ dL_law_1913 hl rfl (Nat.le_of_ble_eq_true rfl) (by omega) (by omega) (fun H1 locs1 hD1 hS1 => ?_)
  refine lv_aload_n hx hb dL_law_1916 rfl (lv_at hl 2 rfl) ?_
  refine g_callMI (As := []) (rest := [.int r]) hs hD1 hS1 (e_X12_image (w := wM) (d := 2) (Nat.le_refl _) hM) g_l221 k_yX12_image ⟨Nat.le_of_ble_eq_true rfl, Nat.le_of_ble_eq_true rfl⟩ dL_law_1917 hl rfl (Nat.le_of_ble_eq_true rfl) (by omega) (by omega) (fun H2 locs2 hD2 hS2 => ?_)
  refine lv_icmp_eq (tgt := 1963) hx hb dL_law_1920 (by decide) (fun _ => ?_) (fun c9 => absurd rfl c9)
  exact W.widen (k := cells + 1) (n := slots + 6) (by omega) (by omega) (K _ _ _ _ _ _ hI1 hD2 hS2 hl)
set_option maxHeartbeats 1000000 in
set_option maxRecDepth 100000 in
theorem g_case46 {Inv : k_St → k_St → Prop} (sim : g_s46 Inv) {p : Program} {l : Launch} {e : Env} {s : State} {m : MethodId} {below : List Frame} {meth : Method} {c : Code} {b L i : Nat} {xs : Nat → Int32} {wX wM : k_WC} {ao : Nat} {σX σM : k_St} {fo : Nat → Int64} {H : Heap} {locs : List Loc} {cells slots : Nat} {Q : State → Prop} {ls : Array Slot} (hs : g_St p l s m meth c b L xs wX wM ao) (hc : cells + 1 ≤ 601024) (hsl : slots + 6 ≤ 7293034) (hi : i + 6 ≤ L) (hI : Inv σX σM) (hD : g_Dy s wX wM ao σX σM fo H) (hS : va_S (g_A s) s.heap H locs) (hl : lv_has ls 7 (g_L b i ao wX wM)) (K : g_Nx Inv p l e s m below meth c b i wX wM ao (cells + 1) (slots + 6) Q) : W p l e room_1 s m #[Value.ref b] below meth c H locs cells slots Q (F0 m 1925 ls []) := by
  have hx := hs.1.1
  have hb := hs.1.2.1
  have hsim := sim σX σM hI
  obtain ⟨r, σX1, σM1, hX, hM, hI1⟩ := hsim
  refine lv_aload_n hx hb dL_law_1925 rfl (lv_at hl 1 rfl) ?_
  refine g_callXI (As := []) (rest := []) hs hD hS (e_X11_back (w := wX) (d := 4) (Nat.le_refl _) hX) g_l222 k_yX11_back ⟨Nat.le_of_ble_eq_true rfl, Nat.le_of_ble_eq_true rfl⟩ dL_law_1926 hl rfl (Nat.le_of_ble_eq_true rfl) (by omega) (by omega) (fun H1 locs1 hD1 hS1 => ?_)
  refine lv_aload_n hx hb dL_law_1929 rfl (lv_at hl 2 rfl) ?_
  refine g_callMI (As := []) (rest := [.int r]) hs hD1 hS1 (e_X12_back (w := wM) (d := 2) (Nat.le_refl _) hM) g_l225 k_yX12_back ⟨Nat.le_of_ble_eq_true rfl, Nat.le_of_ble_eq_true rfl⟩ dL_law_1930 hl rfl (Nat.le_of_ble_eq_true rfl) (by omega) (by omega) (fun H2 locs2 hD2 hS2 => ?_)
  refine lv_icmp_eq (tgt := 1963) hx hb dL_law_1933 (by decide) (fun _ => ?_) (fun c9 => absurd rfl c9)
  exact W.widen (k := cells + 1) (n := slots + 6) (by omega) (by omega) (K _ _ _ _ _ _ hI1 hD2 hS2 hl)
set_option maxHeartbeats 1000000 in
set_option maxRecDepth 100000 in
theorem g_case47 {Inv : k_St → k_St → Prop} (sim : g_s47 Inv) {p : Program} {l : Launch} {e : Env} {s : State} {m : MethodId} {below : List Frame} {meth : Method} {c : Code} {b L i : Nat} {xs : Nat → Int32} {wX wM : k_WC} {ao : Nat} {σX σM : k_St} {fo : Nat → Int64} {H : Heap} {locs : List Loc} {cells slots : Nat} {Q : State → Prop} {ls : Array Slot} (hs : g_St p l s m meth c b L xs wX wM ao) (hc : cells + 1 ≤ 601024) (hsl : slots + 6 ≤ 7293034) (hi : i + 6 ≤ L) (hI : Inv σX σM) (hD : g_Dy s wX wM ao σX σM fo H) (hS : va_S (g_A s) s.heap H locs) (hl : lv_has ls 7 (g_L b i ao wX wM)) (K : g_Nx Inv p l e s m below meth c b i wX wM ao (cells + 1) (slots + 6) Q) : W p l e room_1 s m #[Value.ref b] below meth c H locs cells slots Q (F0 m 1938 ls []) := by
  have hx := hs.1.1
  have hb := hs.1.2.1
  have hsim := sim σX σM hI ((xs (i + 1)))
  obtain ⟨r, hX, hM⟩ := hsim
  refine lv_aload_n hx hb dL_law_1938 rfl (lv_at hl 1 rfl) ?_
  refine g_ld (k := 1) hs hS dL_law_1939 dL_law_1940 dL_law_1942 dL_law_1943 dL_law_1944 hl rfl rfl (by omega) ?_
  refine g_callXI (As := [.int (xs (i + 1))]) (rest := []) hs hD hS (e_X11_count (w := wX) (d := 5) (Nat.le_refl _) hX) g_l226 k_yX11_count ⟨Nat.le_of_ble_eq_true rfl, Nat.le_of_ble_eq_true rfl⟩ dL_law_1945 hl rfl (Nat.le_of_ble_eq_true rfl) (by omega) (by omega) (fun H1 locs1 hD1 hS1 => ?_)
  refine lv_aload_n hx hb dL_law_1948 rfl (lv_at hl 2 rfl) ?_
  refine g_ld (k := 1) hs hS1 dL_law_1949 dL_law_1950 dL_law_1952 dL_law_1953 dL_law_1954 hl rfl rfl (by omega) ?_
  refine g_callMI (As := [.int (xs (i + 1))]) (rest := [.int r]) hs hD1 hS1 (e_X12_count (w := wM) (d := 3) (Nat.le_refl _) hM) g_l229 k_yX12_count ⟨Nat.le_of_ble_eq_true rfl, Nat.le_of_ble_eq_true rfl⟩ dL_law_1955 hl rfl (Nat.le_of_ble_eq_true rfl) (by omega) (by omega) (fun H2 locs2 hD2 hS2 => ?_)
  refine lv_icmp_eq (tgt := 1963) hx hb dL_law_1958 (by decide) (fun _ => ?_) (fun c9 => absurd rfl c9)
  exact W.widen (k := cells + 1) (n := slots + 6) (by omega) (by omega) (K _ _ _ _ _ _ hI hD2 hS2 hl)
set_option maxHeartbeats 1000000 in
set_option maxRecDepth 100000 in
theorem g_case4 {Inv : k_St → k_St → Prop} (sim : g_s4 Inv) {p : Program} {l : Launch} {e : Env} {s : State} {m : MethodId} {below : List Frame} {meth : Method} {c : Code} {b L i : Nat} {xs : Nat → Int32} {wX wM : k_WC} {ao : Nat} {σX σM : k_St} {fo : Nat → Int64} {H : Heap} {locs : List Loc} {cells slots : Nat} {Q : State → Prop} {ls : Array Slot} (hs : g_St p l s m meth c b L xs wX wM ao) (hc : cells + 1 ≤ 601024) (hsl : slots + 6 ≤ 7293034) (hi : i + 6 ≤ L) (hI : Inv σX σM) (hD : g_Dy s wX wM ao σX σM fo H) (hS : va_S (g_A s) s.heap H locs) (hl : lv_has ls 7 (g_L b i ao wX wM)) (K : g_Nx Inv p l e s m below meth c b i wX wM ao (cells + 1) (slots + 6) Q) : W p l e room_1 s m #[Value.ref b] below meth c H locs cells slots Q (F0 m 396 ls []) := by
  have hx := hs.1.1
  have hb := hs.1.2.1
  obtain ⟨r, v, t, σM1, hX, hM, hTh, hm, hI1⟩ := sim σX σM hI (xs (i + 1)) (xs (i + 2))
  have hT := hs.2.1
  obtain ⟨-, -, -, ⟨a1, a2, a3⟩, hDN, hEx⟩ := id hs
  refine lv_aload_n hx hb dL_law_396 rfl (lv_at hl 1 rfl) ?_
  refine g_ld (k := 1) hs hS dL_law_397 dL_law_398 dL_law_400 dL_law_401 dL_law_402 hl rfl rfl (by omega) ?_
  refine g_ld (k := 2) hs hS dL_law_403 dL_law_404 dL_law_406 dL_law_407 dL_law_408 hl rfl rfl (by omega) ?_
  refine lv_aload_n hx hb dL_law_409 rfl (lv_at hl 3 rfl) ?_
  have hao : ¬ (k_PX wX).2.2.1 ao := fun h => (a1 _ h).2.1 rfl
  refine va_calli (vx_runSW (As := [.ref (wX.2.1 0), .int (xs (i + 1)), .int (xs (i + 2)), .ref ao]) (rest := []) (g_SF hs) (e_L_place hs.2.2.1.2.2.2.1 hX (fo := fo) hao) (vx_cwSW (hh := [(0, 10, 13, 13)]) 4 hT (g_goodP) rfl rfl rfl (by decide +kernel) ⟨Nat.le_of_ble_eq_true rfl, Nat.le_of_ble_eq_true rfl⟩) ⟨fun a U g mk q => by
      obtain ⟨q0, qW, qO⟩ := q
      exact ⟨q0, (g_blind (P := k_PX wX) (σ := σX) a U g mk ⟨q0, qW⟩).2, qO⟩, fun U hU hW => ⟨rfl, ⟨hD.1.W hU hW, fun w h => g_dw h hW (hDN w h), hEx.go hW (fun a h1 h2 => by rw [hU]; exact hS.2.1 a h1 (Nat.not_le.mpr h1)) (fun _ h => h)⟩, by rw [hU]; exact hD.2.2⟩⟩ rfl rfl hl.1 rfl (lv_room (Nat.le_of_ble_eq_true rfl)) dL_law_410 ⟨by show cells + 1 ≤ 601024; omega, by show slots + 6 ≤ 7293034; omega⟩) hS (fun q _ h => h.elim (fun h => (a1 q h).2.2) (fun h => by rw [h]; exact a3)) (fun q h => h.elim (fun h => (a1 q h).2.2) (fun h => by rw [h]; exact a3)) (fun k1 fo1 t1 H1 locs1 ht hvm hw1 hB hz hk hS1 => ?_)
  subst ht
  have hD1 : g_Dy s wX wM ao σX σM fo1 t1.heap := ⟨⟨hB.1, hD.1.2.1, hD.1.2.2.1, hD.1.2.2.2.1, hD.1.2.2.2.2.1, hD.1.2.2.2.2.2.1, fun q hq hn => hS1.2.1 q hq (Nat.not_le.mpr hq)⟩, hD.2.1.keep _ hS.1 hk (fun q h => h.elim (fun h => ⟨(a1 q h).1, (a1 q h).2.2⟩) (fun h => by rw [h]; exact ⟨fun h2 => (a2 _ h2).2.1 rfl, a3⟩)), hB.2⟩
  refine lv_istore (lv' := [(5, .int k1), (0, .ref b), (1, .ref (wX.2.1 0)), (2, .ref (wM.2.1 0)), (3, .ref ao), (4, .int (nI i))]) hx hb dL_law_413 hl (by decide) rfl (fun ls1 hl1 => ?_)
  have hl2 : lv_has ls1 7 [(0, .ref b), (1, .ref (wX.2.1 0)), (2, .ref (wM.2.1 0)), (3, .ref ao), (4, .int (nI i)), (5, .int k1)] := lv_sub hl1 [1, 2, 3, 4, 5, 0] rfl
  refine lv_aload_n hx hb dL_law_415 rfl (lv_at hl2 2 rfl) ?_
  refine g_ld (k := 1) hs hS1 dL_law_416 dL_law_417 dL_law_419 dL_law_420 dL_law_421 hl2 rfl rfl (by omega) ?_
  refine g_ld (k := 2) hs hS1 dL_law_422 dL_law_423 dL_law_425 dL_law_426 dL_law_427 hl2 rfl rfl (by omega) ?_
  refine g_callMI (As := [.int (xs (i + 1)), .int (xs (i + 2))]) (rest := []) hs hD1 hS1 (e_X12_place (w := wM) (d := 8) (Nat.le_refl _) hM) g_l43 k_yX12_place ⟨Nat.le_of_ble_eq_true rfl, Nat.le_of_ble_eq_true rfl⟩ dL_law_428 hl2 rfl (Nat.le_of_ble_eq_true rfl) (by omega) (by omega) (fun H2 locs2 hD2 hS2 => ?_)
  refine lv_istore (lv' := [(6, .int v), (0, .ref b), (1, .ref (wX.2.1 0)), (2, .ref (wM.2.1 0)), (3, .ref ao), (4, .int (nI i)), (5, .int k1)]) hx hb dL_law_431 hl2 (by decide) rfl (fun ls2 hl3 => ?_)
  have hl4 : lv_has ls2 7 [(0, .ref b), (1, .ref (wX.2.1 0)), (2, .ref (wM.2.1 0)), (3, .ref ao), (4, .int (nI i)), (5, .int k1), (6, .int v)] := lv_sub hl3 [1, 2, 3, 4, 5, 6, 0] rfl
  refine lv_aload_n hx hb dL_law_433 rfl (lv_at hl4 2 rfl) ?_
  refine g_callMI (As := []) (rest := []) hs hD2 hS2 (e_X12_thrown (w := wM) (d := 2) (Nat.le_refl _) hTh) g_l44 k_yX12_thrown ⟨Nat.le_of_ble_eq_true rfl, Nat.le_of_ble_eq_true rfl⟩ dL_law_434 hl4 rfl (Nat.le_of_ble_eq_true rfl) (by omega) (by omega) (fun H3 locs3 hD3 hS3 => ?_)
  refine lv_iload hx hb dL_law_437 (lv_at hl4 5 rfl) ?_
  have hend := K _ _ _ _ _ _ hI1 hD3 hS3 (lv_sub hl4 [0, 1, 2, 3, 4] rfl)
  cases r with
  | none =>
    obtain ⟨e1, e2⟩ := hw1
    refine lv_icmp_eq (tgt := 444) hx hb dL_law_439 (by decide) (fun _ => ?_) (fun c9 => absurd (hm.trans e1.symm) c9)
    refine lv_iload hx hb dL_law_444 (lv_at hl4 5 rfl) ?_
    refine lv_if_ne (tgt := 461) hx hb dL_law_446 (by decide) (fun _ => ?_) (fun c9 => absurd (e1.symm.trans c9) (by decide))
    refine lv_goto (tgt := 1963) hx hb dL_law_461 (by decide) ?_
    exact hend
  | some z =>
    obtain ⟨e1, e2⟩ := hw1
    obtain ⟨e3, e4⟩ := hm
    refine lv_icmp_eq (tgt := 444) hx hb dL_law_439 (by decide) (fun _ => ?_) (fun c9 => absurd (e3.trans e1.symm) c9)
    refine lv_iload hx hb dL_law_444 (lv_at hl4 5 rfl) ?_
    refine lv_if_ne (tgt := 461) hx hb dL_law_446 (by decide) (fun c9 => absurd e1 c9) (fun _ => ?_)
    refine lv_aload_n hx hb dL_law_449 rfl (lv_at hl4 3 rfl) ?_
    refine lv_iconst (v := 0) hx hb dL_law_450 rfl ?_
    refine va_lald hx hb hD3.1.2.1 hD3.2.2 0 1 rfl rfl (k_ix_vp (by decide)) dL_law_451 ?_
    refine lv_iload hx hb dL_law_452 (lv_at hl4 6 rfl) ?_
    refine lv_i2l hx hb dL_law_454 rfl ?_
    refine W.lcmp hx hb dL_law_455 ?_
    refine lv_if_eq (tgt := 461) hx hb dL_law_456 (by decide) (fun _ => ?_) (fun c9 => absurd (by rw [e2, e4]; exact g_cmp _) c9)
    refine lv_goto (tgt := 1963) hx hb dL_law_461 (by decide) ?_
    exact hend
