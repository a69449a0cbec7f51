/-! ===== THE LAW: its cases 0 .. 24, printed ===== -/
set_option maxHeartbeats 4000000 in
set_option maxRecDepth 100000 in
/-- feed -/
theorem lc_0 {p : Program} {l : Launch} {e : Env} {s : State} {m : MethodId} {args : Array Value} {below : List Frame} {meth : Method} {c : Code} {G : Gl} {al : Nat → Nat} {mk cs ss : Nat} {Q : State → Prop} {M : Mem} {S : Gs} {b L i : Nat} {xs : Nat → Int32} (X : Lx p s m meth c G b L xs) (hC : CS mk S M) (hM : MS S M) (hG : GI S) (hi : i + 5 < L) (hR : cs ≤ room_1.cells ∧ ss ≤ room_1.slots) (K : ∀ S' M', CS mk S' M' → MS S' M' → GI S' → Wa p l e room_1 s m args below meth c 7 G al mk cs ss Q M' 2116 (lwl al b i) []) : Wa p l e room_1 s m args below meth c 7 G al mk cs ss Q M 252 (lwl al b i) [] := by
  obtain ⟨S', r, hG', h1, h2⟩ := op_feed hC hG (xs (i + 1)) (xs (i + 2)) (xs (i + 3)) (xs (i + 4)) (xs (i + 5))
  refine a_aload_n X.1 dL_law_252 rfl 1 rfl ?_
  refine a_arg X 1 ic_1 dL_law_253 dL_law_254 dL_law_256 dL_law_257 dL_law_258 (by omega) ?_
  refine a_arg X 2 ic_2 dL_law_259 dL_law_260 dL_law_262 dL_law_263 dL_law_264 (by omega) ?_
  refine a_arg X 3 ic_3 dL_law_265 dL_law_266 dL_law_268 dL_law_269 dL_law_270 (by omega) ?_
  refine a_arg X 4 ic_4 dL_law_271 dL_law_272 dL_law_274 dL_law_275 dL_law_276 (by omega) ?_
  refine a_arg X 5 ic_5 dL_law_277 dL_law_278 dL_law_280 dL_law_281 dL_law_282 (by omega) ?_
  refine a_cVi (As := [.int (xs (i + 1)), .int (xs (i + 2)), .int (xs (i + 3)), .int (xs (i + 4)), .int (xs (i + 5))]) (st := []) X.1 fw3 iz_0 (cX3_feed_ok l (h1 (fun r1 M1 => r1 = r ∧ CS mk S' M1 ∧ Fr 0 199 M M1) (fun M1 a b => ⟨rfl, a, b⟩))) mlL_19 mvX3_feed ⟨⟨rfl, rfl⟩, ⟨Nat.le_of_ble_eq_true rfl, Nat.le_of_ble_eq_true rfl⟩, hR.1, hR.2⟩ (Nat.le_of_ble_eq_true rfl) rfl dL_law_283 (fun r1 M1 q => ?_)
  obtain ⟨hr, hC1, f1⟩ := q
  subst hr
  refine a_aload_n X.1 dL_law_286 rfl 2 rfl ?_
  refine a_arg X 1 ic_1 dL_law_287 dL_law_288 dL_law_290 dL_law_291 dL_law_292 (by omega) ?_
  refine a_arg X 2 ic_2 dL_law_293 dL_law_294 dL_law_296 dL_law_297 dL_law_298 (by omega) ?_
  refine a_arg X 3 ic_3 dL_law_299 dL_law_300 dL_law_302 dL_law_303 dL_law_304 (by omega) ?_
  refine a_arg X 4 ic_4 dL_law_305 dL_law_306 dL_law_308 dL_law_309 dL_law_310 (by omega) ?_
  refine a_arg X 5 ic_5 dL_law_311 dL_law_312 dL_law_314 dL_law_315 dL_law_316 (by omega) ?_
  refine a_cVi (As := [.int (xs (i + 1)), .int (xs (i + 2)), .int (xs (i + 3)), .int (xs (i + 4)), .int (xs (i + 5))]) (st := [.int r1]) X.1 fw4 iz_200 (cX4_feed_ok l (h2 M1 (hM.fr f1) (fun r2 M2 => r2 = r1 ∧ MS S' M2 ∧ Fr 200 299 M1 M2) (fun M2 a b => ⟨rfl, a, b⟩))) mlL_23 mvX4_feed ⟨⟨rfl, rfl⟩, ⟨Nat.le_of_ble_eq_true rfl, Nat.le_of_ble_eq_true rfl⟩, hR.1, hR.2⟩ (Nat.le_of_ble_eq_true rfl) rfl dL_law_317 (fun r2 M2 q => ?_)
  obtain ⟨hr, hM2, f2⟩ := q
  refine a_icmp_eq (tgt := 2116) X.1 dL_law_320 (by decide) (fun z => ?_) (fun z => absurd hr.symm z)
  exact K S' M2 (hC1.fr hG' f2) hM2 hG'
set_option maxHeartbeats 4000000 in
set_option maxRecDepth 100000 in
/-- fault -/
theorem lc_2 {p : Program} {l : Launch} {e : Env} {s : State} {m : MethodId} {args : Array Value} {below : List Frame} {meth : Method} {c : Code} {G : Gl} {al : Nat → Nat} {mk cs ss : Nat} {Q : State → Prop} {M : Mem} {S : Gs} {b L i : Nat} {xs : Nat → Int32} (X : Lx p s m meth c G b L xs) (hC : CS mk S M) (hM : MS S M) (hG : GI S) (hi : i + 5 < L) (hR : cs ≤ room_1.cells ∧ ss ≤ room_1.slots) (K : ∀ S' M', CS mk S' M' → MS S' M' → GI S' → Wa p l e room_1 s m args below meth c 7 G al mk cs ss Q M' 2116 (lwl al b i) []) : Wa p l e room_1 s m args below meth c 7 G al mk cs ss Q M 350 (lwl al b i) [] := by
  obtain ⟨S', r, hG', h1, h2⟩ := op_fault hC hG
  refine a_aload_n X.1 dL_law_350 rfl 1 rfl ?_
  refine a_cVi (As := []) (st := []) X.1 fw3 iz_0 (cX3_fault_ok l (h1 (fun r1 M1 => r1 = r ∧ CS mk S' M1 ∧ Fr 0 199 M M1) (fun M1 a b => ⟨rfl, a, b⟩))) mlL_28 mvX3_fault ⟨⟨rfl, rfl⟩, ⟨Nat.le_of_ble_eq_true rfl, Nat.le_of_ble_eq_true rfl⟩, hR.1, hR.2⟩ (Nat.le_of_ble_eq_true rfl) rfl dL_law_351 (fun r1 M1 q => ?_)
  obtain ⟨hr, hC1, f1⟩ := q
  subst hr
  refine a_aload_n X.1 dL_law_354 rfl 2 rfl ?_
  refine a_cVi (As := []) (st := [.int r1]) X.1 fw4 iz_200 (cX4_fault_ok l (h2 M1 (hM.fr f1) (fun r2 M2 => r2 = r1 ∧ MS S' M2 ∧ Fr 200 299 M1 M2) (fun M2 a b => ⟨rfl, a, b⟩))) mlL_32 mvX4_fault ⟨⟨rfl, rfl⟩, ⟨Nat.le_of_ble_eq_true rfl, Nat.le_of_ble_eq_true rfl⟩, hR.1, hR.2⟩ (Nat.le_of_ble_eq_true rfl) rfl dL_law_355 (fun r2 M2 q => ?_)
  obtain ⟨hr, hM2, f2⟩ := q
  refine a_icmp_eq (tgt := 2116) X.1 dL_law_358 (by decide) (fun z => ?_) (fun z => absurd hr.symm z)
  exact K S' M2 (hC1.fr hG' f2) hM2 hG'
set_option maxHeartbeats 4000000 in
set_option maxRecDepth 100000 in
/-- where -/
theorem lc_3 {p : Program} {l : Launch} {e : Env} {s : State} {m : MethodId} {args : Array Value} {below : List Frame} {meth : Method} {c : Code} {G : Gl} {al : Nat → Nat} {mk cs ss : Nat} {Q : State → Prop} {M : Mem} {S : Gs} {b L i : Nat} {xs : Nat → Int32} (X : Lx p s m meth c G b L xs) (hC : CS mk S M) (hM : MS S M) (hG : GI S) (hi : i + 5 < L) (hR : cs ≤ room_1.cells ∧ ss ≤ room_1.slots) (K : ∀ S' M', CS mk S' M' → MS S' M' → GI S' → Wa p l e room_1 s m args below meth c 7 G al mk cs ss Q M' 2116 (lwl al b i) []) : Wa p l e room_1 s m args below meth c 7 G al mk cs ss Q M 363 (lwl al b i) [] := by
  obtain ⟨S', r, hG', h1, h2⟩ := op_where hC hG
  refine a_aload_n X.1 dL_law_363 rfl 1 rfl ?_
  refine a_cVi (As := []) (st := []) X.1 fw3 iz_0 (cX3_where_ok l (h1 (fun r1 M1 => r1 = r ∧ CS mk S' M1 ∧ Fr 0 199 M M1) (fun M1 a b => ⟨rfl, a, b⟩))) mlL_33 mvX3_where ⟨⟨rfl, rfl⟩, ⟨Nat.le_of_ble_eq_true rfl, Nat.le_of_ble_eq_true rfl⟩, hR.1, hR.2⟩ (Nat.le_of_ble_eq_true rfl) rfl dL_law_364 (fun r1 M1 q => ?_)
  obtain ⟨hr, hC1, f1⟩ := q
  subst hr
  refine a_aload_n X.1 dL_law_367 rfl 2 rfl ?_
  refine a_cVi (As := []) (st := [.int r1]) X.1 fw4 iz_200 (cX4_where_ok l (h2 M1 (hM.fr f1) (fun r2 M2 => r2 = r1 ∧ MS S' M2 ∧ Fr 200 299 M1 M2) (fun M2 a b => ⟨rfl, a, b⟩))) mlL_36 mvX4_where ⟨⟨rfl, rfl⟩, ⟨Nat.le_of_ble_eq_true rfl, Nat.le_of_ble_eq_true rfl⟩, hR.1, hR.2⟩ (Nat.le_of_ble_eq_true rfl) rfl dL_law_368 (fun r2 M2 q => ?_)
  obtain ⟨hr, hM2, f2⟩ := q
  refine a_icmp_eq (tgt := 2116) X.1 dL_law_371 (by decide) (fun z => ?_) (fun z => absurd hr.symm z)
  exact K S' M2 (hC1.fr hG' f2) hM2 hG'
set_option maxHeartbeats 4000000 in
set_option maxRecDepth 100000 in
/-- about -/
theorem lc_4 {p : Program} {l : Launch} {e : Env} {s : State} {m : MethodId} {args : Array Value} {below : List Frame} {meth : Method} {c : Code} {G : Gl} {al : Nat → Nat} {mk cs ss : Nat} {Q : State → Prop} {M : Mem} {S : Gs} {b L i : Nat} {xs : Nat → Int32} (X : Lx p s m meth c G b L xs) (hC : CS mk S M) (hM : MS S M) (hG : GI S) (hi : i + 5 < L) (hR : cs ≤ room_1.cells ∧ ss ≤ room_1.slots) (K : ∀ S' M', CS mk S' M' → MS S' M' → GI S' → Wa p l e room_1 s m args below meth c 7 G al mk cs ss Q M' 2116 (lwl al b i) []) : Wa p l e room_1 s m args below meth c 7 G al mk cs ss Q M 376 (lwl al b i) [] := by
  obtain ⟨S', r, hG', h1, h2⟩ := op_about hC hG (xs (i + 1))
  refine a_aload_n X.1 dL_law_376 rfl 1 rfl ?_
  refine a_arg X 1 ic_1 dL_law_377 dL_law_378 dL_law_380 dL_law_381 dL_law_382 (by omega) ?_
  refine a_cVi (As := [.int (xs (i + 1))]) (st := []) X.1 fw3 iz_0 (cX3_about_ok l (h1 (fun r1 M1 => r1 = r ∧ CS mk S' M1 ∧ Fr 0 199 M M1) (fun M1 a b => ⟨rfl, a, b⟩))) mlL_37 mvX3_about ⟨⟨rfl, rfl⟩, ⟨Nat.le_of_ble_eq_true rfl, Nat.le_of_ble_eq_true rfl⟩, hR.1, hR.2⟩ (Nat.le_of_ble_eq_true rfl) rfl dL_law_383 (fun r1 M1 q => ?_)
  obtain ⟨hr, hC1, f1⟩ := q
  subst hr
  refine a_aload_n X.1 dL_law_386 rfl 2 rfl ?_
  refine a_arg X 1 ic_1 dL_law_387 dL_law_388 dL_law_390 dL_law_391 dL_law_392 (by omega) ?_
  refine a_cVi (As := [.int (xs (i + 1))]) (st := [.int r1]) X.1 fw4 iz_200 (cX4_about_ok l (h2 M1 (hM.fr f1) (fun r2 M2 => r2 = r1 ∧ MS S' M2 ∧ Fr 200 299 M1 M2) (fun M2 a b => ⟨rfl, a, b⟩))) mlL_40 mvX4_about ⟨⟨rfl, rfl⟩, ⟨Nat.le_of_ble_eq_true rfl, Nat.le_of_ble_eq_true rfl⟩, hR.1, hR.2⟩ (Nat.le_of_ble_eq_true rfl) rfl dL_law_393 (fun r2 M2 q => ?_)
  obtain ⟨hr, hM2, f2⟩ := q
  refine a_icmp_eq (tgt := 2116) X.1 dL_law_396 (by decide) (fun z => ?_) (fun z => absurd hr.symm z)
  exact K S' M2 (hC1.fr hG' f2) hM2 hG'
set_option maxHeartbeats 4000000 in
set_option maxRecDepth 100000 in
/-- stream -/
theorem lc_5 {p : Program} {l : Launch} {e : Env} {s : State} {m : MethodId} {args : Array Value} {below : List Frame} {meth : Method} {c : Code} {G : Gl} {al : Nat → Nat} {mk cs ss : Nat} {Q : State → Prop} {M : Mem} {S : Gs} {b L i : Nat} {xs : Nat → Int32} (X : Lx p s m meth c G b L xs) (hC : CS mk S M) (hM : MS S M) (hG : GI S) (hi : i + 5 < L) (hR : cs ≤ room_1.cells ∧ ss ≤ room_1.slots) (K : ∀ S' M', CS mk S' M' → MS S' M' → GI S' → Wa p l e room_1 s m args below meth c 7 G al mk cs ss Q M' 2116 (lwl al b i) []) : Wa p l e room_1 s m args below meth c 7 G al mk cs ss Q M 401 (lwl al b i) [] := by
  obtain ⟨S', r, hG', h1, h2⟩ := op_stream hC hG (xs (i + 1)) (xs (i + 2))
  refine a_aload_n X.1 dL_law_401 rfl 1 rfl ?_
  refine a_arg X 1 ic_1 dL_law_402 dL_law_403 dL_law_405 dL_law_406 dL_law_407 (by omega) ?_
  refine a_arg X 2 ic_2 dL_law_408 dL_law_409 dL_law_411 dL_law_412 dL_law_413 (by omega) ?_
  refine a_cVi (As := [.int (xs (i + 1)), .int (xs (i + 2))]) (st := []) X.1 fw3 iz_0 (cX3_stream_ok l (h1 (fun r1 M1 => r1 = r ∧ CS mk S' M1 ∧ Fr 0 199 M M1) (fun M1 a b => ⟨rfl, a, b⟩))) mlL_41 mvX3_stream ⟨⟨rfl, rfl⟩, ⟨Nat.le_of_ble_eq_true rfl, Nat.le_of_ble_eq_true rfl⟩, hR.1, hR.2⟩ (Nat.le_of_ble_eq_true rfl) rfl dL_law_414 (fun r1 M1 q => ?_)
  obtain ⟨hr, hC1, f1⟩ := q
  subst hr
  refine a_aload_n X.1 dL_law_417 rfl 2 rfl ?_
  refine a_arg X 1 ic_1 dL_law_418 dL_law_419 dL_law_421 dL_law_422 dL_law_423 (by omega) ?_
  refine a_arg X 2 ic_2 dL_law_424 dL_law_425 dL_law_427 dL_law_428 dL_law_429 (by omega) ?_
  refine a_cVi (As := [.int (xs (i + 1)), .int (xs (i + 2))]) (st := [.int r1]) X.1 fw4 iz_200 (cX4_stream_ok l (h2 M1 (hM.fr f1) (fun r2 M2 => r2 = r1 ∧ MS S' M2 ∧ Fr 200 299 M1 M2) (fun M2 a b => ⟨rfl, a, b⟩))) mlL_45 mvX4_stream ⟨⟨rfl, rfl⟩, ⟨Nat.le_of_ble_eq_true rfl, Nat.le_of_ble_eq_true rfl⟩, hR.1, hR.2⟩ (Nat.le_of_ble_eq_true rfl) rfl dL_law_430 (fun r2 M2 q => ?_)
  obtain ⟨hr, hM2, f2⟩ := q
  refine a_icmp_eq (tgt := 2116) X.1 dL_law_433 (by decide) (fun z => ?_) (fun z => absurd hr.symm z)
  exact K S' M2 (hC1.fr hG' f2) hM2 hG'
set_option maxHeartbeats 4000000 in
set_option maxRecDepth 100000 in
/-- tuple -/
theorem lc_6 {p : Program} {l : Launch} {e : Env} {s : State} {m : MethodId} {args : Array Value} {below : List Frame} {meth : Method} {c : Code} {G : Gl} {al : Nat → Nat} {mk cs ss : Nat} {Q : State → Prop} {M : Mem} {S : Gs} {b L i : Nat} {xs : Nat → Int32} (X : Lx p s m meth c G b L xs) (hC : CS mk S M) (hM : MS S M) (hG : GI S) (hi : i + 5 < L) (hR : cs ≤ room_1.cells ∧ ss ≤ room_1.slots) (K : ∀ S' M', CS mk S' M' → MS S' M' → GI S' → Wa p l e room_1 s m args below meth c 7 G al mk cs ss Q M' 2116 (lwl al b i) []) : Wa p l e room_1 s m args below meth c 7 G al mk cs ss Q M 438 (lwl al b i) [] := by
  obtain ⟨S', r, hG', h1, h2⟩ := op_tuple hC hG (xs (i + 1)) (xs (i + 2)) (xs (i + 3))
  refine a_aload_n X.1 dL_law_438 rfl 1 rfl ?_
  refine a_arg X 1 ic_1 dL_law_439 dL_law_440 dL_law_442 dL_law_443 dL_law_444 (by omega) ?_
  refine a_arg X 2 ic_2 dL_law_445 dL_law_446 dL_law_448 dL_law_449 dL_law_450 (by omega) ?_
  refine a_arg X 3 ic_3 dL_law_451 dL_law_452 dL_law_454 dL_law_455 dL_law_456 (by omega) ?_
  refine a_cVi (As := [.int (xs (i + 1)), .int (xs (i + 2)), .int (xs (i + 3))]) (st := []) X.1 fw3 iz_0 (cX3_tuple_ok l (h1 (fun r1 M1 => r1 = r ∧ CS mk S' M1 ∧ Fr 0 199 M M1) (fun M1 a b => ⟨rfl, a, b⟩))) mlL_46 mvX3_tuple ⟨⟨rfl, rfl⟩, ⟨Nat.le_of_ble_eq_true rfl, Nat.le_of_ble_eq_true rfl⟩, hR.1, hR.2⟩ (Nat.le_of_ble_eq_true rfl) rfl dL_law_457 (fun r1 M1 q => ?_)
  obtain ⟨hr, hC1, f1⟩ := q
  subst hr
  refine a_aload_n X.1 dL_law_460 rfl 2 rfl ?_
  refine a_arg X 1 ic_1 dL_law_461 dL_law_462 dL_law_464 dL_law_465 dL_law_466 (by omega) ?_
  refine a_arg X 2 ic_2 dL_law_467 dL_law_468 dL_law_470 dL_law_471 dL_law_472 (by omega) ?_
  refine a_arg X 3 ic_3 dL_law_473 dL_law_474 dL_law_476 dL_law_477 dL_law_478 (by omega) ?_
  refine a_cVi (As := [.int (xs (i + 1)), .int (xs (i + 2)), .int (xs (i + 3))]) (st := [.int r1]) X.1 fw4 iz_200 (cX4_tuple_ok l (h2 M1 (hM.fr f1) (fun r2 M2 => r2 = r1 ∧ MS S' M2 ∧ Fr 200 299 M1 M2) (fun M2 a b => ⟨rfl, a, b⟩))) mlL_50 mvX4_tuple ⟨⟨rfl, rfl⟩, ⟨Nat.le_of_ble_eq_true rfl, Nat.le_of_ble_eq_true rfl⟩, hR.1, hR.2⟩ (Nat.le_of_ble_eq_true rfl) rfl dL_law_479 (fun r2 M2 q => ?_)
  obtain ⟨hr, hM2, f2⟩ := q
  refine a_icmp_eq (tgt := 2116) X.1 dL_law_482 (by decide) (fun z => ?_) (fun z => absurd hr.symm z)
  exact K S' M2 (hC1.fr hG' f2) hM2 hG'
set_option maxHeartbeats 4000000 in
set_option maxRecDepth 100000 in
/-- goes -/
theorem lc_7 {p : Program} {l : Launch} {e : Env} {s : State} {m : MethodId} {args : Array Value} {below : List Frame} {meth : Method} {c : Code} {G : Gl} {al : Nat → Nat} {mk cs ss : Nat} {Q : State → Prop} {M : Mem} {S : Gs} {b L i : Nat} {xs : Nat → Int32} (X : Lx p s m meth c G b L xs) (hC : CS mk S M) (hM : MS S M) (hG : GI S) (hi : i + 5 < L) (hR : cs ≤ room_1.cells ∧ ss ≤ room_1.slots) (K : ∀ S' M', CS mk S' M' → MS S' M' → GI S' → Wa p l e room_1 s m args below meth c 7 G al mk cs ss Q M' 2116 (lwl al b i) []) : Wa p l e room_1 s m args below meth c 7 G al mk cs ss Q M 487 (lwl al b i) [] := by
  obtain ⟨S', r, hG', h1, h2⟩ := op_goes hC hG (xs (i + 1)) (xs (i + 2))
  refine a_aload_n X.1 dL_law_487 rfl 1 rfl ?_
  refine a_arg X 1 ic_1 dL_law_488 dL_law_489 dL_law_491 dL_law_492 dL_law_493 (by omega) ?_
  refine a_arg X 2 ic_2 dL_law_494 dL_law_495 dL_law_497 dL_law_498 dL_law_499 (by omega) ?_
  refine a_cVi (As := [.int (xs (i + 1)), .int (xs (i + 2))]) (st := []) X.1 fw3 iz_0 (cX3_goes_ok l (h1 (fun r1 M1 => r1 = r ∧ CS mk S' M1 ∧ Fr 0 199 M M1) (fun M1 a b => ⟨rfl, a, b⟩))) mlL_51 mvX3_goes ⟨⟨rfl, rfl⟩, ⟨Nat.le_of_ble_eq_true rfl, Nat.le_of_ble_eq_true rfl⟩, hR.1, hR.2⟩ (Nat.le_of_ble_eq_true rfl) rfl dL_law_500 (fun r1 M1 q => ?_)
  obtain ⟨hr, hC1, f1⟩ := q
  subst hr
  refine a_aload_n X.1 dL_law_503 rfl 2 rfl ?_
  refine a_arg X 1 ic_1 dL_law_504 dL_law_505 dL_law_507 dL_law_508 dL_law_509 (by omega) ?_
  refine a_arg X 2 ic_2 dL_law_510 dL_law_511 dL_law_513 dL_law_514 dL_law_515 (by omega) ?_
  refine a_cVi (As := [.int (xs (i + 1)), .int (xs (i + 2))]) (st := [.int r1]) X.1 fw4 iz_200 (cX4_goes_ok l (h2 M1 (hM.fr f1) (fun r2 M2 => r2 = r1 ∧ MS S' M2 ∧ Fr 200 299 M1 M2) (fun M2 a b => ⟨rfl, a, b⟩))) mlL_54 mvX4_goes ⟨⟨rfl, rfl⟩, ⟨Nat.le_of_ble_eq_true rfl, Nat.le_of_ble_eq_true rfl⟩, hR.1, hR.2⟩ (Nat.le_of_ble_eq_true rfl) rfl dL_law_516 (fun r2 M2 q => ?_)
  obtain ⟨hr, hM2, f2⟩ := q
  refine a_icmp_eq (tgt := 2116) X.1 dL_law_519 (by decide) (fun z => ?_) (fun z => absurd hr.symm z)
  exact K S' M2 (hC1.fr hG' f2) hM2 hG'
set_option maxHeartbeats 4000000 in
set_option maxRecDepth 100000 in
/-- band -/
theorem lc_8 {p : Program} {l : Launch} {e : Env} {s : State} {m : MethodId} {args : Array Value} {below : List Frame} {meth : Method} {c : Code} {G : Gl} {al : Nat → Nat} {mk cs ss : Nat} {Q : State → Prop} {M : Mem} {S : Gs} {b L i : Nat} {xs : Nat → Int32} (X : Lx p s m meth c G b L xs) (hC : CS mk S M) (hM : MS S M) (hG : GI S) (hi : i + 5 < L) (hR : cs ≤ room_1.cells ∧ ss ≤ room_1.slots) (K : ∀ S' M', CS mk S' M' → MS S' M' → GI S' → Wa p l e room_1 s m args below meth c 7 G al mk cs ss Q M' 2116 (lwl al b i) []) : Wa p l e room_1 s m args below meth c 7 G al mk cs ss Q M 524 (lwl al b i) [] := by
  obtain ⟨S', r, hG', h1, h2⟩ := op_band hC hG (xs (i + 1)) (xs (i + 2))
  refine a_aload_n X.1 dL_law_524 rfl 1 rfl ?_
  refine a_arg X 1 ic_1 dL_law_525 dL_law_526 dL_law_528 dL_law_529 dL_law_530 (by omega) ?_
  refine a_arg X 2 ic_2 dL_law_531 dL_law_532 dL_law_534 dL_law_535 dL_law_536 (by omega) ?_
  refine a_cVi (As := [.int (xs (i + 1)), .int (xs (i + 2))]) (st := []) X.1 fw3 iz_0 (cX3_band_ok l (h1 (fun r1 M1 => r1 = r ∧ CS mk S' M1 ∧ Fr 0 199 M M1) (fun M1 a b => ⟨rfl, a, b⟩))) mlL_55 mvX3_band ⟨⟨rfl, rfl⟩, ⟨Nat.le_of_ble_eq_true rfl, Nat.le_of_ble_eq_true rfl⟩, hR.1, hR.2⟩ (Nat.le_of_ble_eq_true rfl) rfl dL_law_537 (fun r1 M1 q => ?_)
  obtain ⟨hr, hC1, f1⟩ := q
  subst hr
  refine a_aload_n X.1 dL_law_540 rfl 2 rfl ?_
  refine a_arg X 1 ic_1 dL_law_541 dL_law_542 dL_law_544 dL_law_545 dL_law_546 (by omega) ?_
  refine a_arg X 2 ic_2 dL_law_547 dL_law_548 dL_law_550 dL_law_551 dL_law_552 (by omega) ?_
  refine a_cVi (As := [.int (xs (i + 1)), .int (xs (i + 2))]) (st := [.int r1]) X.1 fw4 iz_200 (cX4_band_ok l (h2 M1 (hM.fr f1) (fun r2 M2 => r2 = r1 ∧ MS S' M2 ∧ Fr 200 299 M1 M2) (fun M2 a b => ⟨rfl, a, b⟩))) mlL_58 mvX4_band ⟨⟨rfl, rfl⟩, ⟨Nat.le_of_ble_eq_true rfl, Nat.le_of_ble_eq_true rfl⟩, hR.1, hR.2⟩ (Nat.le_of_ble_eq_true rfl) rfl dL_law_553 (fun r2 M2 q => ?_)
  obtain ⟨hr, hM2, f2⟩ := q
  refine a_icmp_eq (tgt := 2116) X.1 dL_law_556 (by decide) (fun z => ?_) (fun z => absurd hr.symm z)
  exact K S' M2 (hC1.fr hG' f2) hM2 hG'
set_option maxHeartbeats 4000000 in
set_option maxRecDepth 100000 in
/-- check -/
theorem lc_9 {p : Program} {l : Launch} {e : Env} {s : State} {m : MethodId} {args : Array Value} {below : List Frame} {meth : Method} {c : Code} {G : Gl} {al : Nat → Nat} {mk cs ss : Nat} {Q : State → Prop} {M : Mem} {S : Gs} {b L i : Nat} {xs : Nat → Int32} (X : Lx p s m meth c G b L xs) (hC : CS mk S M) (hM : MS S M) (hG : GI S) (hi : i + 5 < L) (hR : cs ≤ room_1.cells ∧ ss ≤ room_1.slots) (K : ∀ S' M', CS mk S' M' → MS S' M' → GI S' → Wa p l e room_1 s m args below meth c 7 G al mk cs ss Q M' 2116 (lwl al b i) []) : Wa p l e room_1 s m args below meth c 7 G al mk cs ss Q M 561 (lwl al b i) [] := by
  obtain ⟨S', r, hG', h1, h2⟩ := op_check hC hG (xs (i + 1))
  refine a_aload_n X.1 dL_law_561 rfl 1 rfl ?_
  refine a_arg X 1 ic_1 dL_law_562 dL_law_563 dL_law_565 dL_law_566 dL_law_567 (by omega) ?_
  refine a_cVi (As := [.int (xs (i + 1))]) (st := []) X.1 fw3 iz_0 (cX3_check_ok l (h1 (fun r1 M1 => r1 = r ∧ CS mk S' M1 ∧ Fr 0 199 M M1) (fun M1 a b => ⟨rfl, a, b⟩))) mlL_59 mvX3_check ⟨⟨rfl, rfl⟩, ⟨Nat.le_of_ble_eq_true rfl, Nat.le_of_ble_eq_true rfl⟩, hR.1, hR.2⟩ (Nat.le_of_ble_eq_true rfl) rfl dL_law_568 (fun r1 M1 q => ?_)
  obtain ⟨hr, hC1, f1⟩ := q
  subst hr
  refine a_aload_n X.1 dL_law_571 rfl 2 rfl ?_
  refine a_arg X 1 ic_1 dL_law_572 dL_law_573 dL_law_575 dL_law_576 dL_law_577 (by omega) ?_
  refine a_cVi (As := [.int (xs (i + 1))]) (st := [.int r1]) X.1 fw4 iz_200 (cX4_check_ok l (h2 M1 (hM.fr f1) (fun r2 M2 => r2 = r1 ∧ MS S' M2 ∧ Fr 200 299 M1 M2) (fun M2 a b => ⟨rfl, a, b⟩))) mlL_62 mvX4_check ⟨⟨rfl, rfl⟩, ⟨Nat.le_of_ble_eq_true rfl, Nat.le_of_ble_eq_true rfl⟩, hR.1, hR.2⟩ (Nat.le_of_ble_eq_true rfl) rfl dL_law_578 (fun r2 M2 q => ?_)
  obtain ⟨hr, hM2, f2⟩ := q
  refine a_icmp_eq (tgt := 2116) X.1 dL_law_581 (by decide) (fun z => ?_) (fun z => absurd hr.symm z)
  exact K S' M2 (hC1.fr hG' f2) hM2 hG'
set_option maxHeartbeats 4000000 in
set_option maxRecDepth 100000 in
/-- answer -/
theorem lc_10 {p : Program} {l : Launch} {e : Env} {s : State} {m : MethodId} {args : Array Value} {below : List Frame} {meth : Method} {c : Code} {G : Gl} {al : Nat → Nat} {mk cs ss : Nat} {Q : State → Prop} {M : Mem} {S : Gs} {b L i : Nat} {xs : Nat → Int32} (X : Lx p s m meth c G b L xs) (hC : CS mk S M) (hM : MS S M) (hG : GI S) (hi : i + 5 < L) (hR : cs ≤ room_1.cells ∧ ss ≤ room_1.slots) (K : ∀ S' M', CS mk S' M' → MS S' M' → GI S' → Wa p l e room_1 s m args below meth c 7 G al mk cs ss Q M' 2116 (lwl al b i) []) : Wa p l e room_1 s m args below meth c 7 G al mk cs ss Q M 586 (lwl al b i) [] := by
  obtain ⟨S', r, hG', h1, h2⟩ := op_answer hC hG (xs (i + 1)) (xs (i + 2)) (xs (i + 3))
  refine a_aload_n X.1 dL_law_586 rfl 1 rfl ?_
  refine a_arg X 1 ic_1 dL_law_587 dL_law_588 dL_law_590 dL_law_591 dL_law_592 (by omega) ?_
  refine a_arg X 2 ic_2 dL_law_593 dL_law_594 dL_law_596 dL_law_597 dL_law_598 (by omega) ?_
  refine a_arg X 3 ic_3 dL_law_599 dL_law_600 dL_law_602 dL_law_603 dL_law_604 (by omega) ?_
  refine a_cVi (As := [.int (xs (i + 1)), .int (xs (i + 2)), .int (xs (i + 3))]) (st := []) X.1 fw3 iz_0 (cX3_answer_ok l (h1 (fun r1 M1 => r1 = r ∧ CS mk S' M1 ∧ Fr 0 199 M M1) (fun M1 a b => ⟨rfl, a, b⟩))) mlL_63 mvX3_answer ⟨⟨rfl, rfl⟩, ⟨Nat.le_of_ble_eq_true rfl, Nat.le_of_ble_eq_true rfl⟩, hR.1, hR.2⟩ (Nat.le_of_ble_eq_true rfl) rfl dL_law_605 (fun r1 M1 q => ?_)
  obtain ⟨hr, hC1, f1⟩ := q
  subst hr
  refine a_aload_n X.1 dL_law_608 rfl 2 rfl ?_
  refine a_arg X 1 ic_1 dL_law_609 dL_law_610 dL_law_612 dL_law_613 dL_law_614 (by omega) ?_
  refine a_arg X 2 ic_2 dL_law_615 dL_law_616 dL_law_618 dL_law_619 dL_law_620 (by omega) ?_
  refine a_arg X 3 ic_3 dL_law_621 dL_law_622 dL_law_624 dL_law_625 dL_law_626 (by omega) ?_
  refine a_cVi (As := [.int (xs (i + 1)), .int (xs (i + 2)), .int (xs (i + 3))]) (st := [.int r1]) X.1 fw4 iz_200 (cX4_answer_ok l (h2 M1 (hM.fr f1) (fun r2 M2 => r2 = r1 ∧ MS S' M2 ∧ Fr 200 299 M1 M2) (fun M2 a b => ⟨rfl, a, b⟩))) mlL_66 mvX4_answer ⟨⟨rfl, rfl⟩, ⟨Nat.le_of_ble_eq_true rfl, Nat.le_of_ble_eq_true rfl⟩, hR.1, hR.2⟩ (Nat.le_of_ble_eq_true rfl) rfl dL_law_627 (fun r2 M2 q => ?_)
  obtain ⟨hr, hM2, f2⟩ := q
  refine a_icmp_eq (tgt := 2116) X.1 dL_law_630 (by decide) (fun z => ?_) (fun z => absurd hr.symm z)
  exact K S' M2 (hC1.fr hG' f2) hM2 hG'
set_option maxHeartbeats 4000000 in
set_option maxRecDepth 100000 in
/-- quota -/
theorem lc_11 {p : Program} {l : Launch} {e : Env} {s : State} {m : MethodId} {args : Array Value} {below : List Frame} {meth : Method} {c : Code} {G : Gl} {al : Nat → Nat} {mk cs ss : Nat} {Q : State → Prop} {M : Mem} {S : Gs} {b L i : Nat} {xs : Nat → Int32} (X : Lx p s m meth c G b L xs) (hC : CS mk S M) (hM : MS S M) (hG : GI S) (hi : i + 5 < L) (hR : cs ≤ room_1.cells ∧ ss ≤ room_1.slots) (K : ∀ S' M', CS mk S' M' → MS S' M' → GI S' → Wa p l e room_1 s m args below meth c 7 G al mk cs ss Q M' 2116 (lwl al b i) []) : Wa p l e room_1 s m args below meth c 7 G al mk cs ss Q M 635 (lwl al b i) [] := by
  obtain ⟨S', r, hG', h1, h2⟩ := op_quota hC hG (xs (i + 1)) (xs (i + 2)) (xs (i + 3)) (xs (i + 4))
  refine a_aload_n X.1 dL_law_635 rfl 1 rfl ?_
  refine a_arg X 1 ic_1 dL_law_636 dL_law_637 dL_law_639 dL_law_640 dL_law_641 (by omega) ?_
  refine a_arg X 2 ic_2 dL_law_642 dL_law_643 dL_law_645 dL_law_646 dL_law_647 (by omega) ?_
  refine a_arg X 3 ic_3 dL_law_648 dL_law_649 dL_law_651 dL_law_652 dL_law_653 (by omega) ?_
  refine a_arg X 4 ic_4 dL_law_654 dL_law_655 dL_law_657 dL_law_658 dL_law_659 (by omega) ?_
  refine a_cVi (As := [.int (xs (i + 1)), .int (xs (i + 2)), .int (xs (i + 3)), .int (xs (i + 4))]) (st := []) X.1 fw3 iz_0 (cX3_quota_ok l (h1 (fun r1 M1 => r1 = r ∧ CS mk S' M1 ∧ Fr 0 199 M M1) (fun M1 a b => ⟨rfl, a, b⟩))) mlL_67 mvX3_quota ⟨⟨rfl, rfl⟩, ⟨Nat.le_of_ble_eq_true rfl, Nat.le_of_ble_eq_true rfl⟩, hR.1, hR.2⟩ (Nat.le_of_ble_eq_true rfl) rfl dL_law_660 (fun r1 M1 q => ?_)
  obtain ⟨hr, hC1, f1⟩ := q
  subst hr
  refine a_aload_n X.1 dL_law_663 rfl 2 rfl ?_
  refine a_arg X 1 ic_1 dL_law_664 dL_law_665 dL_law_667 dL_law_668 dL_law_669 (by omega) ?_
  refine a_arg X 2 ic_2 dL_law_670 dL_law_671 dL_law_673 dL_law_674 dL_law_675 (by omega) ?_
  refine a_arg X 3 ic_3 dL_law_676 dL_law_677 dL_law_679 dL_law_680 dL_law_681 (by omega) ?_
  refine a_arg X 4 ic_4 dL_law_682 dL_law_683 dL_law_685 dL_law_686 dL_law_687 (by omega) ?_
  refine a_cVi (As := [.int (xs (i + 1)), .int (xs (i + 2)), .int (xs (i + 3)), .int (xs (i + 4))]) (st := [.int r1]) X.1 fw4 iz_200 (cX4_quota_ok l (h2 M1 (hM.fr f1) (fun r2 M2 => r2 = r1 ∧ MS S' M2 ∧ Fr 200 299 M1 M2) (fun M2 a b => ⟨rfl, a, b⟩))) mlL_71 mvX4_quota ⟨⟨rfl, rfl⟩, ⟨Nat.le_of_ble_eq_true rfl, Nat.le_of_ble_eq_true rfl⟩, hR.1, hR.2⟩ (Nat.le_of_ble_eq_true rfl) rfl dL_law_688 (fun r2 M2 q => ?_)
  obtain ⟨hr, hM2, f2⟩ := q
  refine a_icmp_eq (tgt := 2116) X.1 dL_law_691 (by decide) (fun z => ?_) (fun z => absurd hr.symm z)
  exact K S' M2 (hC1.fr hG' f2) hM2 hG'
set_option maxHeartbeats 4000000 in
set_option maxRecDepth 100000 in
/-- rank -/
theorem lc_12 {p : Program} {l : Launch} {e : Env} {s : State} {m : MethodId} {args : Array Value} {below : List Frame} {meth : Method} {c : Code} {G : Gl} {al : Nat → Nat} {mk cs ss : Nat} {Q : State → Prop} {M : Mem} {S : Gs} {b L i : Nat} {xs : Nat → Int32} (X : Lx p s m meth c G b L xs) (hC : CS mk S M) (hM : MS S M) (hG : GI S) (hi : i + 5 < L) (hR : cs ≤ room_1.cells ∧ ss ≤ room_1.slots) (K : ∀ S' M', CS mk S' M' → MS S' M' → GI S' → Wa p l e room_1 s m args below meth c 7 G al mk cs ss Q M' 2116 (lwl al b i) []) : Wa p l e room_1 s m args below meth c 7 G al mk cs ss Q M 696 (lwl al b i) [] := by
  obtain ⟨S', r, hG', h1, h2⟩ := op_rank hC hG (xs (i + 1)) (xs (i + 2)) (if xs (i + 3) = 0 then 0 else 1)
  refine a_aload_n X.1 dL_law_696 rfl 1 rfl ?_
  refine a_arg X 1 ic_1 dL_law_697 dL_law_698 dL_law_700 dL_law_701 dL_law_702 (by omega) ?_
  refine a_arg X 2 ic_2 dL_law_703 dL_law_704 dL_law_706 dL_law_707 dL_law_708 (by omega) ?_
  refine a_arg X 3 ic_3 dL_law_709 dL_law_710 dL_law_712 dL_law_713 dL_law_714 (by omega) ?_
  refine a_ne0 X dL_law_715 dL_law_718 dL_law_719 dL_law_722 ?_
  refine a_cVi (As := [.int (xs (i + 1)), .int (xs (i + 2)), .int (if xs (i + 3) = 0 then 0 else 1)]) (st := []) X.1 fw3 iz_0 (cX3_rank_ok l (h1 (fun r1 M1 => r1 = r ∧ CS mk S' M1 ∧ Fr 0 199 M M1) (fun M1 a b => ⟨rfl, a, b⟩))) mlL_72 mvX3_rank ⟨⟨rfl, rfl⟩, ⟨Nat.le_of_ble_eq_true rfl, Nat.le_of_ble_eq_true rfl⟩, hR.1, hR.2⟩ (Nat.le_of_ble_eq_true rfl) rfl dL_law_723 (fun r1 M1 q => ?_)
  obtain ⟨hr, hC1, f1⟩ := q
  subst hr
  refine a_aload_n X.1 dL_law_726 rfl 2 rfl ?_
  refine a_arg X 1 ic_1 dL_law_727 dL_law_728 dL_law_730 dL_law_731 dL_law_732 (by omega) ?_
  refine a_arg X 2 ic_2 dL_law_733 dL_law_734 dL_law_736 dL_law_737 dL_law_738 (by omega) ?_
  refine a_arg X 3 ic_3 dL_law_739 dL_law_740 dL_law_742 dL_law_743 dL_law_744 (by omega) ?_
  refine a_ne0 X dL_law_745 dL_law_748 dL_law_749 dL_law_752 ?_
  refine a_cVi (As := [.int (xs (i + 1)), .int (xs (i + 2)), .int (if xs (i + 3) = 0 then 0 else 1)]) (st := [.int r1]) X.1 fw4 iz_200 (cX4_rank_ok l (h2 M1 (hM.fr f1) (fun r2 M2 => r2 = r1 ∧ MS S' M2 ∧ Fr 200 299 M1 M2) (fun M2 a b => ⟨rfl, a, b⟩))) mlL_76 mvX4_rank ⟨⟨rfl, rfl⟩, ⟨Nat.le_of_ble_eq_true rfl, Nat.le_of_ble_eq_true rfl⟩, hR.1, hR.2⟩ (Nat.le_of_ble_eq_true rfl) rfl dL_law_753 (fun r2 M2 q => ?_)
  obtain ⟨hr, hM2, f2⟩ := q
  refine a_icmp_eq (tgt := 2116) X.1 dL_law_756 (by decide) (fun z => ?_) (fun z => absurd hr.symm z)
  exact K S' M2 (hC1.fr hG' f2) hM2 hG'
set_option maxHeartbeats 4000000 in
set_option maxRecDepth 100000 in
/-- between -/
theorem lc_13 {p : Program} {l : Launch} {e : Env} {s : State} {m : MethodId} {args : Array Value} {below : List Frame} {meth : Method} {c : Code} {G : Gl} {al : Nat → Nat} {mk cs ss : Nat} {Q : State → Prop} {M : Mem} {S : Gs} {b L i : Nat} {xs : Nat → Int32} (X : Lx p s m meth c G b L xs) (hC : CS mk S M) (hM : MS S M) (hG : GI S) (hi : i + 5 < L) (hR : cs ≤ room_1.cells ∧ ss ≤ room_1.slots) (K : ∀ S' M', CS mk S' M' → MS S' M' → GI S' → Wa p l e room_1 s m args below meth c 7 G al mk cs ss Q M' 2116 (lwl al b i) []) : Wa p l e room_1 s m args below meth c 7 G al mk cs ss Q M 761 (lwl al b i) [] := by
  obtain ⟨S', r, hG', h1, h2⟩ := op_between hC hG (xs (i + 1)) (xs (i + 2)) (xs (i + 3)) (if xs (i + 4) = 0 then 0 else 1)
  refine a_aload_n X.1 dL_law_761 rfl 1 rfl ?_
  refine a_arg X 1 ic_1 dL_law_762 dL_law_763 dL_law_765 dL_law_766 dL_law_767 (by omega) ?_
  refine a_arg X 2 ic_2 dL_law_768 dL_law_769 dL_law_771 dL_law_772 dL_law_773 (by omega) ?_
  refine a_arg X 3 ic_3 dL_law_774 dL_law_775 dL_law_777 dL_law_778 dL_law_779 (by omega) ?_
  refine a_arg X 4 ic_4 dL_law_780 dL_law_781 dL_law_783 dL_law_784 dL_law_785 (by omega) ?_
  refine a_ne0 X dL_law_786 dL_law_789 dL_law_790 dL_law_793 ?_
  refine a_cVi (As := [.int (xs (i + 1)), .int (xs (i + 2)), .int (xs (i + 3)), .int (if xs (i + 4) = 0 then 0 else 1)]) (st := []) X.1 fw3 iz_0 (cX3_between_ok l (h1 (fun r1 M1 => r1 = r ∧ CS mk S' M1 ∧ Fr 0 199 M M1) (fun M1 a b => ⟨rfl, a, b⟩))) mlL_77 mvX3_between ⟨⟨rfl, rfl⟩, ⟨Nat.le_of_ble_eq_true rfl, Nat.le_of_ble_eq_true rfl⟩, hR.1, hR.2⟩ (Nat.le_of_ble_eq_true rfl) rfl dL_law_794 (fun r1 M1 q => ?_)
  obtain ⟨hr, hC1, f1⟩ := q
  subst hr
  refine a_aload_n X.1 dL_law_797 rfl 2 rfl ?_
  refine a_arg X 1 ic_1 dL_law_798 dL_law_799 dL_law_801 dL_law_802 dL_law_803 (by omega) ?_
  refine a_arg X 2 ic_2 dL_law_804 dL_law_805 dL_law_807 dL_law_808 dL_law_809 (by omega) ?_
  refine a_arg X 3 ic_3 dL_law_810 dL_law_811 dL_law_813 dL_law_814 dL_law_815 (by omega) ?_
  refine a_arg X 4 ic_4 dL_law_816 dL_law_817 dL_law_819 dL_law_820 dL_law_821 (by omega) ?_
  refine a_ne0 X dL_law_822 dL_law_825 dL_law_826 dL_law_829 ?_
  refine a_cVi (As := [.int (xs (i + 1)), .int (xs (i + 2)), .int (xs (i + 3)), .int (if xs (i + 4) = 0 then 0 else 1)]) (st := [.int r1]) X.1 fw4 iz_200 (cX4_between_ok l (h2 M1 (hM.fr f1) (fun r2 M2 => r2 = r1 ∧ MS S' M2 ∧ Fr 200 299 M1 M2) (fun M2 a b => ⟨rfl, a, b⟩))) mlL_81 mvX4_between ⟨⟨rfl, rfl⟩, ⟨Nat.le_of_ble_eq_true rfl, Nat.le_of_ble_eq_true rfl⟩, hR.1, hR.2⟩ (Nat.le_of_ble_eq_true rfl) rfl dL_law_830 (fun r2 M2 q => ?_)
  obtain ⟨hr, hM2, f2⟩ := q
  refine a_icmp_eq (tgt := 2116) X.1 dL_law_833 (by decide) (fun z => ?_) (fun z => absurd hr.symm z)
  exact K S' M2 (hC1.fr hG' f2) hM2 hG'
set_option maxHeartbeats 4000000 in
set_option maxRecDepth 100000 in
/-- exact -/
theorem lc_14 {p : Program} {l : Launch} {e : Env} {s : State} {m : MethodId} {args : Array Value} {below : List Frame} {meth : Method} {c : Code} {G : Gl} {al : Nat → Nat} {mk cs ss : Nat} {Q : State → Prop} {M : Mem} {S : Gs} {b L i : Nat} {xs : Nat → Int32} (X : Lx p s m meth c G b L xs) (hC : CS mk S M) (hM : MS S M) (hG : GI S) (hi : i + 5 < L) (hR : cs ≤ room_1.cells ∧ ss ≤ room_1.slots) (K : ∀ S' M', CS mk S' M' → MS S' M' → GI S' → Wa p l e room_1 s m args below meth c 7 G al mk cs ss Q M' 2116 (lwl al b i) []) : Wa p l e room_1 s m args below meth c 7 G al mk cs ss Q M 838 (lwl al b i) [] := by
  obtain ⟨S', r, hG', h1, h2⟩ := op_exact hC hG (xs (i + 1))
  refine a_aload_n X.1 dL_law_838 rfl 1 rfl ?_
  refine a_arg X 1 ic_1 dL_law_839 dL_law_840 dL_law_842 dL_law_843 dL_law_844 (by omega) ?_
  refine a_cVi (As := [.int (xs (i + 1))]) (st := []) X.1 fw3 iz_0 (cX3_exact_ok l (h1 (fun r1 M1 => r1 = r ∧ CS mk S' M1 ∧ Fr 0 199 M M1) (fun M1 a b => ⟨rfl, a, b⟩))) mlL_82 mvX3_exact ⟨⟨rfl, rfl⟩, ⟨Nat.le_of_ble_eq_true rfl, Nat.le_of_ble_eq_true rfl⟩, hR.1, hR.2⟩ (Nat.le_of_ble_eq_true rfl) rfl dL_law_845 (fun r1 M1 q => ?_)
  obtain ⟨hr, hC1, f1⟩ := q
  subst hr
  refine a_aload_n X.1 dL_law_848 rfl 2 rfl ?_
  refine a_arg X 1 ic_1 dL_law_849 dL_law_850 dL_law_852 dL_law_853 dL_law_854 (by omega) ?_
  refine a_cVi (As := [.int (xs (i + 1))]) (st := [.int r1]) X.1 fw4 iz_200 (cX4_exact_ok l (h2 M1 (hM.fr f1) (fun r2 M2 => r2 = r1 ∧ MS S' M2 ∧ Fr 200 299 M1 M2) (fun M2 a b => ⟨rfl, a, b⟩))) mlL_85 mvX4_exact ⟨⟨rfl, rfl⟩, ⟨Nat.le_of_ble_eq_true rfl, Nat.le_of_ble_eq_true rfl⟩, hR.1, hR.2⟩ (Nat.le_of_ble_eq_true rfl) rfl dL_law_855 (fun r2 M2 q => ?_)
  obtain ⟨hr, hM2, f2⟩ := q
  refine a_icmp_eq (tgt := 2116) X.1 dL_law_858 (by decide) (fun z => ?_) (fun z => absurd hr.symm z)
  exact K S' M2 (hC1.fr hG' f2) hM2 hG'
set_option maxHeartbeats 4000000 in
set_option maxRecDepth 100000 in
/-- worst -/
theorem lc_15 {p : Program} {l : Launch} {e : Env} {s : State} {m : MethodId} {args : Array Value} {below : List Frame} {meth : Method} {c : Code} {G : Gl} {al : Nat → Nat} {mk cs ss : Nat} {Q : State → Prop} {M : Mem} {S : Gs} {b L i : Nat} {xs : Nat → Int32} (X : Lx p s m meth c G b L xs) (hC : CS mk S M) (hM : MS S M) (hG : GI S) (hi : i + 5 < L) (hR : cs ≤ room_1.cells ∧ ss ≤ room_1.slots) (K : ∀ S' M', CS mk S' M' → MS S' M' → GI S' → Wa p l e room_1 s m args below meth c 7 G al mk cs ss Q M' 2116 (lwl al b i) []) : Wa p l e room_1 s m args below meth c 7 G al mk cs ss Q M 863 (lwl al b i) [] := by
  obtain ⟨S', r, hG', h1, h2⟩ := op_worst hC hG (xs (i + 1))
  refine a_aload_n X.1 dL_law_863 rfl 1 rfl ?_
  refine a_arg X 1 ic_1 dL_law_864 dL_law_865 dL_law_867 dL_law_868 dL_law_869 (by omega) ?_
  refine a_cVi (As := [.int (xs (i + 1))]) (st := []) X.1 fw3 iz_0 (cX3_worst_ok l (h1 (fun r1 M1 => r1 = r ∧ CS mk S' M1 ∧ Fr 0 199 M M1) (fun M1 a b => ⟨rfl, a, b⟩))) mlL_86 mvX3_worst ⟨⟨rfl, rfl⟩, ⟨Nat.le_of_ble_eq_true rfl, Nat.le_of_ble_eq_true rfl⟩, hR.1, hR.2⟩ (Nat.le_of_ble_eq_true rfl) rfl dL_law_870 (fun r1 M1 q => ?_)
  obtain ⟨hr, hC1, f1⟩ := q
  subst hr
  refine a_aload_n X.1 dL_law_873 rfl 2 rfl ?_
  refine a_arg X 1 ic_1 dL_law_874 dL_law_875 dL_law_877 dL_law_878 dL_law_879 (by omega) ?_
  refine a_cVi (As := [.int (xs (i + 1))]) (st := [.int r1]) X.1 fw4 iz_200 (cX4_worst_ok l (h2 M1 (hM.fr f1) (fun r2 M2 => r2 = r1 ∧ MS S' M2 ∧ Fr 200 299 M1 M2) (fun M2 a b => ⟨rfl, a, b⟩))) mlL_89 mvX4_worst ⟨⟨rfl, rfl⟩, ⟨Nat.le_of_ble_eq_true rfl, Nat.le_of_ble_eq_true rfl⟩, hR.1, hR.2⟩ (Nat.le_of_ble_eq_true rfl) rfl dL_law_880 (fun r2 M2 q => ?_)
  obtain ⟨hr, hM2, f2⟩ := q
  refine a_icmp_eq (tgt := 2116) X.1 dL_law_883 (by decide) (fun z => ?_) (fun z => absurd hr.symm z)
  exact K S' M2 (hC1.fr hG' f2) hM2 hG'
set_option maxHeartbeats 4000000 in
set_option maxRecDepth 100000 in
/-- bounds -/
theorem lc_16 {p : Program} {l : Launch} {e : Env} {s : State} {m : MethodId} {args : Array Value} {below : List Frame} {meth : Method} {c : Code} {G : Gl} {al : Nat → Nat} {mk cs ss : Nat} {Q : State → Prop} {M : Mem} {S : Gs} {b L i : Nat} {xs : Nat → Int32} (X : Lx p s m meth c G b L xs) (hC : CS mk S M) (hM : MS S M) (hG : GI S) (hi : i + 5 < L) (hR : cs ≤ room_1.cells ∧ ss ≤ room_1.slots) (K : ∀ S' M', CS mk S' M' → MS S' M' → GI S' → Wa p l e room_1 s m args below meth c 7 G al mk cs ss Q M' 2116 (lwl al b i) []) : Wa p l e room_1 s m args below meth c 7 G al mk cs ss Q M 888 (lwl al b i) [] := by
  obtain ⟨S', r, hG', h1, h2⟩ := op_bounds hC hG (xs (i + 1)) (xs (i + 2)) (xs (i + 3))
  refine a_aload_n X.1 dL_law_888 rfl 1 rfl ?_
  refine a_arg X 1 ic_1 dL_law_889 dL_law_890 dL_law_892 dL_law_893 dL_law_894 (by omega) ?_
  refine a_arg X 2 ic_2 dL_law_895 dL_law_896 dL_law_898 dL_law_899 dL_law_900 (by omega) ?_
  refine a_arg X 3 ic_3 dL_law_901 dL_law_902 dL_law_904 dL_law_905 dL_law_906 (by omega) ?_
  refine a_cVi (As := [.int (xs (i + 1)), .int (xs (i + 2)), .int (xs (i + 3))]) (st := []) X.1 fw3 iz_0 (cX3_bounds_ok l (h1 (fun r1 M1 => r1 = r ∧ CS mk S' M1 ∧ Fr 0 199 M M1) (fun M1 a b => ⟨rfl, a, b⟩))) mlL_90 mvX3_bounds ⟨⟨rfl, rfl⟩, ⟨Nat.le_of_ble_eq_true rfl, Nat.le_of_ble_eq_true rfl⟩, hR.1, hR.2⟩ (Nat.le_of_ble_eq_true rfl) rfl dL_law_907 (fun r1 M1 q => ?_)
  obtain ⟨hr, hC1, f1⟩ := q
  subst hr
  refine a_aload_n X.1 dL_law_910 rfl 2 rfl ?_
  refine a_arg X 1 ic_1 dL_law_911 dL_law_912 dL_law_914 dL_law_915 dL_law_916 (by omega) ?_
  refine a_arg X 2 ic_2 dL_law_917 dL_law_918 dL_law_920 dL_law_921 dL_law_922 (by omega) ?_
  refine a_arg X 3 ic_3 dL_law_923 dL_law_924 dL_law_926 dL_law_927 dL_law_928 (by omega) ?_
  refine a_cVi (As := [.int (xs (i + 1)), .int (xs (i + 2)), .int (xs (i + 3))]) (st := [.int r1]) X.1 fw4 iz_200 (cX4_bounds_ok l (h2 M1 (hM.fr f1) (fun r2 M2 => r2 = r1 ∧ MS S' M2 ∧ Fr 200 299 M1 M2) (fun M2 a b => ⟨rfl, a, b⟩))) mlL_93 mvX4_bounds ⟨⟨rfl, rfl⟩, ⟨Nat.le_of_ble_eq_true rfl, Nat.le_of_ble_eq_true rfl⟩, hR.1, hR.2⟩ (Nat.le_of_ble_eq_true rfl) rfl dL_law_929 (fun r2 M2 q => ?_)
  obtain ⟨hr, hM2, f2⟩ := q
  refine a_icmp_eq (tgt := 2116) X.1 dL_law_932 (by decide) (fun z => ?_) (fun z => absurd hr.symm z)
  exact K S' M2 (hC1.fr hG' f2) hM2 hG'
set_option maxHeartbeats 4000000 in
set_option maxRecDepth 100000 in
/-- unsure -/
theorem lc_17 {p : Program} {l : Launch} {e : Env} {s : State} {m : MethodId} {args : Array Value} {below : List Frame} {meth : Method} {c : Code} {G : Gl} {al : Nat → Nat} {mk cs ss : Nat} {Q : State → Prop} {M : Mem} {S : Gs} {b L i : Nat} {xs : Nat → Int32} (X : Lx p s m meth c G b L xs) (hC : CS mk S M) (hM : MS S M) (hG : GI S) (hi : i + 5 < L) (hR : cs ≤ room_1.cells ∧ ss ≤ room_1.slots) (K : ∀ S' M', CS mk S' M' → MS S' M' → GI S' → Wa p l e room_1 s m args below meth c 7 G al mk cs ss Q M' 2116 (lwl al b i) []) : Wa p l e room_1 s m args below meth c 7 G al mk cs ss Q M 937 (lwl al b i) [] := by
  obtain ⟨S', r, hG', h1, h2⟩ := op_unsure hC hG (xs (i + 1)) (xs (i + 2))
  refine a_aload_n X.1 dL_law_937 rfl 1 rfl ?_
  refine a_arg X 1 ic_1 dL_law_938 dL_law_939 dL_law_941 dL_law_942 dL_law_943 (by omega) ?_
  refine a_arg X 2 ic_2 dL_law_944 dL_law_945 dL_law_947 dL_law_948 dL_law_949 (by omega) ?_
  refine a_cVi (As := [.int (xs (i + 1)), .int (xs (i + 2))]) (st := []) X.1 fw3 iz_0 (cX3_unsure_ok l (h1 (fun r1 M1 => r1 = r ∧ CS mk S' M1 ∧ Fr 0 199 M M1) (fun M1 a b => ⟨rfl, a, b⟩))) mlL_94 mvX3_unsure ⟨⟨rfl, rfl⟩, ⟨Nat.le_of_ble_eq_true rfl, Nat.le_of_ble_eq_true rfl⟩, hR.1, hR.2⟩ (Nat.le_of_ble_eq_true rfl) rfl dL_law_950 (fun r1 M1 q => ?_)
  obtain ⟨hr, hC1, f1⟩ := q
  subst hr
  refine a_aload_n X.1 dL_law_953 rfl 2 rfl ?_
  refine a_arg X 1 ic_1 dL_law_954 dL_law_955 dL_law_957 dL_law_958 dL_law_959 (by omega) ?_
  refine a_arg X 2 ic_2 dL_law_960 dL_law_961 dL_law_963 dL_law_964 dL_law_965 (by omega) ?_
  refine a_cVi (As := [.int (xs (i + 1)), .int (xs (i + 2))]) (st := [.int r1]) X.1 fw4 iz_200 (cX4_unsure_ok l (h2 M1 (hM.fr f1) (fun r2 M2 => r2 = r1 ∧ MS S' M2 ∧ Fr 200 299 M1 M2) (fun M2 a b => ⟨rfl, a, b⟩))) mlL_97 mvX4_unsure ⟨⟨rfl, rfl⟩, ⟨Nat.le_of_ble_eq_true rfl, Nat.le_of_ble_eq_true rfl⟩, hR.1, hR.2⟩ (Nat.le_of_ble_eq_true rfl) rfl dL_law_966 (fun r2 M2 q => ?_)
  obtain ⟨hr, hM2, f2⟩ := q
  refine a_icmp_eq (tgt := 2116) X.1 dL_law_969 (by decide) (fun z => ?_) (fun z => absurd hr.symm z)
  exact K S' M2 (hC1.fr hG' f2) hM2 hG'
set_option maxHeartbeats 4000000 in
set_option maxRecDepth 100000 in
/-- total -/
theorem lc_18 {p : Program} {l : Launch} {e : Env} {s : State} {m : MethodId} {args : Array Value} {below : List Frame} {meth : Method} {c : Code} {G : Gl} {al : Nat → Nat} {mk cs ss : Nat} {Q : State → Prop} {M : Mem} {S : Gs} {b L i : Nat} {xs : Nat → Int32} (X : Lx p s m meth c G b L xs) (hC : CS mk S M) (hM : MS S M) (hG : GI S) (hi : i + 5 < L) (hR : cs ≤ room_1.cells ∧ ss ≤ room_1.slots) (K : ∀ S' M', CS mk S' M' → MS S' M' → GI S' → Wa p l e room_1 s m args below meth c 7 G al mk cs ss Q M' 2116 (lwl al b i) []) : Wa p l e room_1 s m args below meth c 7 G al mk cs ss Q M 974 (lwl al b i) [] := by
  obtain ⟨S', r, hG', h1, h2⟩ := op_total hC hG (xs (i + 1)) (if xs (i + 2) = 0 then 0 else 1)
  refine a_aload_n X.1 dL_law_974 rfl 1 rfl ?_
  refine a_arg X 1 ic_1 dL_law_975 dL_law_976 dL_law_978 dL_law_979 dL_law_980 (by omega) ?_
  refine a_arg X 2 ic_2 dL_law_981 dL_law_982 dL_law_984 dL_law_985 dL_law_986 (by omega) ?_
  refine a_ne0 X dL_law_987 dL_law_990 dL_law_991 dL_law_994 ?_
  refine a_cVi (As := [.int (xs (i + 1)), .int (if xs (i + 2) = 0 then 0 else 1)]) (st := []) X.1 fw3 iz_0 (cX3_total_ok l (h1 (fun r1 M1 => r1 = r ∧ CS mk S' M1 ∧ Fr 0 199 M M1) (fun M1 a b => ⟨rfl, a, b⟩))) mlL_98 mvX3_total ⟨⟨rfl, rfl⟩, ⟨Nat.le_of_ble_eq_true rfl, Nat.le_of_ble_eq_true rfl⟩, hR.1, hR.2⟩ (Nat.le_of_ble_eq_true rfl) rfl dL_law_995 (fun r1 M1 q => ?_)
  obtain ⟨hr, hC1, f1⟩ := q
  subst hr
  refine a_aload_n X.1 dL_law_998 rfl 2 rfl ?_
  refine a_arg X 1 ic_1 dL_law_999 dL_law_1000 dL_law_1002 dL_law_1003 dL_law_1004 (by omega) ?_
  refine a_arg X 2 ic_2 dL_law_1005 dL_law_1006 dL_law_1008 dL_law_1009 dL_law_1010 (by omega) ?_
  refine a_ne0 X dL_law_1011 dL_law_1014 dL_law_1015 dL_law_1018 ?_
  refine a_cVi (As := [.int (xs (i + 1)), .int (if xs (i + 2) = 0 then 0 else 1)]) (st := [.int r1]) X.1 fw4 iz_200 (cX4_total_ok l (h2 M1 (hM.fr f1) (fun r2 M2 => r2 = r1 ∧ MS S' M2 ∧ Fr 200 299 M1 M2) (fun M2 a b => ⟨rfl, a, b⟩))) mlL_102 mvX4_total ⟨⟨rfl, rfl⟩, ⟨Nat.le_of_ble_eq_true rfl, Nat.le_of_ble_eq_true rfl⟩, hR.1, hR.2⟩ (Nat.le_of_ble_eq_true rfl) rfl dL_law_1019 (fun r2 M2 q => ?_)
  obtain ⟨hr, hM2, f2⟩ := q
  refine a_icmp_eq (tgt := 2116) X.1 dL_law_1022 (by decide) (fun z => ?_) (fun z => absurd hr.symm z)
  exact K S' M2 (hC1.fr hG' f2) hM2 hG'
set_option maxHeartbeats 4000000 in
set_option maxRecDepth 100000 in
/-- bands -/
theorem lc_19 {p : Program} {l : Launch} {e : Env} {s : State} {m : MethodId} {args : Array Value} {below : List Frame} {meth : Method} {c : Code} {G : Gl} {al : Nat → Nat} {mk cs ss : Nat} {Q : State → Prop} {M : Mem} {S : Gs} {b L i : Nat} {xs : Nat → Int32} (X : Lx p s m meth c G b L xs) (hC : CS mk S M) (hM : MS S M) (hG : GI S) (hi : i + 5 < L) (hR : cs ≤ room_1.cells ∧ ss ≤ room_1.slots) (K : ∀ S' M', CS mk S' M' → MS S' M' → GI S' → Wa p l e room_1 s m args below meth c 7 G al mk cs ss Q M' 2116 (lwl al b i) []) : Wa p l e room_1 s m args below meth c 7 G al mk cs ss Q M 1027 (lwl al b i) [] := by
  obtain ⟨S', r, hG', h1, h2⟩ := op_bands hC hG (xs (i + 1)) (xs (i + 2))
  refine a_aload_n X.1 dL_law_1027 rfl 1 rfl ?_
  refine a_arg X 1 ic_1 dL_law_1028 dL_law_1029 dL_law_1031 dL_law_1032 dL_law_1033 (by omega) ?_
  refine a_arg X 2 ic_2 dL_law_1034 dL_law_1035 dL_law_1037 dL_law_1038 dL_law_1039 (by omega) ?_
  refine a_cVi (As := [.int (xs (i + 1)), .int (xs (i + 2))]) (st := []) X.1 fw3 iz_0 (cX3_bands_ok l (h1 (fun r1 M1 => r1 = r ∧ CS mk S' M1 ∧ Fr 0 199 M M1) (fun M1 a b => ⟨rfl, a, b⟩))) mlL_103 mvX3_bands ⟨⟨rfl, rfl⟩, ⟨Nat.le_of_ble_eq_true rfl, Nat.le_of_ble_eq_true rfl⟩, hR.1, hR.2⟩ (Nat.le_of_ble_eq_true rfl) rfl dL_law_1040 (fun r1 M1 q => ?_)
  obtain ⟨hr, hC1, f1⟩ := q
  subst hr
  refine a_aload_n X.1 dL_law_1043 rfl 2 rfl ?_
  refine a_arg X 1 ic_1 dL_law_1044 dL_law_1045 dL_law_1047 dL_law_1048 dL_law_1049 (by omega) ?_
  refine a_arg X 2 ic_2 dL_law_1050 dL_law_1051 dL_law_1053 dL_law_1054 dL_law_1055 (by omega) ?_
  refine a_cVi (As := [.int (xs (i + 1)), .int (xs (i + 2))]) (st := [.int r1]) X.1 fw4 iz_200 (cX4_bands_ok l (h2 M1 (hM.fr f1) (fun r2 M2 => r2 = r1 ∧ MS S' M2 ∧ Fr 200 299 M1 M2) (fun M2 a b => ⟨rfl, a, b⟩))) mlL_106 mvX4_bands ⟨⟨rfl, rfl⟩, ⟨Nat.le_of_ble_eq_true rfl, Nat.le_of_ble_eq_true rfl⟩, hR.1, hR.2⟩ (Nat.le_of_ble_eq_true rfl) rfl dL_law_1056 (fun r2 M2 q => ?_)
  obtain ⟨hr, hM2, f2⟩ := q
  refine a_icmp_eq (tgt := 2116) X.1 dL_law_1059 (by decide) (fun z => ?_) (fun z => absurd hr.symm z)
  exact K S' M2 (hC1.fr hG' f2) hM2 hG'
set_option maxHeartbeats 4000000 in
set_option maxRecDepth 100000 in
/-- bar -/
theorem lc_20 {p : Program} {l : Launch} {e : Env} {s : State} {m : MethodId} {args : Array Value} {below : List Frame} {meth : Method} {c : Code} {G : Gl} {al : Nat → Nat} {mk cs ss : Nat} {Q : State → Prop} {M : Mem} {S : Gs} {b L i : Nat} {xs : Nat → Int32} (X : Lx p s m meth c G b L xs) (hC : CS mk S M) (hM : MS S M) (hG : GI S) (hi : i + 5 < L) (hR : cs ≤ room_1.cells ∧ ss ≤ room_1.slots) (K : ∀ S' M', CS mk S' M' → MS S' M' → GI S' → Wa p l e room_1 s m args below meth c 7 G al mk cs ss Q M' 2116 (lwl al b i) []) : Wa p l e room_1 s m args below meth c 7 G al mk cs ss Q M 1064 (lwl al b i) [] := by
  obtain ⟨S', r, hG', h1, h2⟩ := op_bar hC hG (xs (i + 1)) (xs (i + 2)) (xs (i + 3)) (if xs (i + 4) = 0 then 0 else 1)
  refine a_aload_n X.1 dL_law_1064 rfl 1 rfl ?_
  refine a_arg X 1 ic_1 dL_law_1065 dL_law_1066 dL_law_1068 dL_law_1069 dL_law_1070 (by omega) ?_
  refine a_arg X 2 ic_2 dL_law_1071 dL_law_1072 dL_law_1074 dL_law_1075 dL_law_1076 (by omega) ?_
  refine a_arg X 3 ic_3 dL_law_1077 dL_law_1078 dL_law_1080 dL_law_1081 dL_law_1082 (by omega) ?_
  refine a_arg X 4 ic_4 dL_law_1083 dL_law_1084 dL_law_1086 dL_law_1087 dL_law_1088 (by omega) ?_
  refine a_ne0 X dL_law_1089 dL_law_1092 dL_law_1093 dL_law_1096 ?_
  refine a_cVi (As := [.int (xs (i + 1)), .int (xs (i + 2)), .int (xs (i + 3)), .int (if xs (i + 4) = 0 then 0 else 1)]) (st := []) X.1 fw3 iz_0 (cX3_bar_ok l (h1 (fun r1 M1 => r1 = r ∧ CS mk S' M1 ∧ Fr 0 199 M M1) (fun M1 a b => ⟨rfl, a, b⟩))) mlL_107 mvX3_bar ⟨⟨rfl, rfl⟩, ⟨Nat.le_of_ble_eq_true rfl, Nat.le_of_ble_eq_true rfl⟩, hR.1, hR.2⟩ (Nat.le_of_ble_eq_true rfl) rfl dL_law_1097 (fun r1 M1 q => ?_)
  obtain ⟨hr, hC1, f1⟩ := q
  subst hr
  refine a_aload_n X.1 dL_law_1100 rfl 2 rfl ?_
  refine a_arg X 1 ic_1 dL_law_1101 dL_law_1102 dL_law_1104 dL_law_1105 dL_law_1106 (by omega) ?_
  refine a_arg X 2 ic_2 dL_law_1107 dL_law_1108 dL_law_1110 dL_law_1111 dL_law_1112 (by omega) ?_
  refine a_arg X 3 ic_3 dL_law_1113 dL_law_1114 dL_law_1116 dL_law_1117 dL_law_1118 (by omega) ?_
  refine a_arg X 4 ic_4 dL_law_1119 dL_law_1120 dL_law_1122 dL_law_1123 dL_law_1124 (by omega) ?_
  refine a_ne0 X dL_law_1125 dL_law_1128 dL_law_1129 dL_law_1132 ?_
  refine a_cVi (As := [.int (xs (i + 1)), .int (xs (i + 2)), .int (xs (i + 3)), .int (if xs (i + 4) = 0 then 0 else 1)]) (st := [.int r1]) X.1 fw4 iz_200 (cX4_bar_ok l (h2 M1 (hM.fr f1) (fun r2 M2 => r2 = r1 ∧ MS S' M2 ∧ Fr 200 299 M1 M2) (fun M2 a b => ⟨rfl, a, b⟩))) mlL_110 mvX4_bar ⟨⟨rfl, rfl⟩, ⟨Nat.le_of_ble_eq_true rfl, Nat.le_of_ble_eq_true rfl⟩, hR.1, hR.2⟩ (Nat.le_of_ble_eq_true rfl) rfl dL_law_1133 (fun r2 M2 q => ?_)
  obtain ⟨hr, hM2, f2⟩ := q
  refine a_icmp_eq (tgt := 2116) X.1 dL_law_1136 (by decide) (fun z => ?_) (fun z => absurd hr.symm z)
  exact K S' M2 (hC1.fr hG' f2) hM2 hG'
set_option maxHeartbeats 4000000 in
set_option maxRecDepth 100000 in
/-- uneven -/
theorem lc_21 {p : Program} {l : Launch} {e : Env} {s : State} {m : MethodId} {args : Array Value} {below : List Frame} {meth : Method} {c : Code} {G : Gl} {al : Nat → Nat} {mk cs ss : Nat} {Q : State → Prop} {M : Mem} {S : Gs} {b L i : Nat} {xs : Nat → Int32} (X : Lx p s m meth c G b L xs) (hC : CS mk S M) (hM : MS S M) (hG : GI S) (hi : i + 5 < L) (hR : cs ≤ room_1.cells ∧ ss ≤ room_1.slots) (K : ∀ S' M', CS mk S' M' → MS S' M' → GI S' → Wa p l e room_1 s m args below meth c 7 G al mk cs ss Q M' 2116 (lwl al b i) []) : Wa p l e room_1 s m args below meth c 7 G al mk cs ss Q M 1141 (lwl al b i) [] := by
  obtain ⟨S', r, hG', h1, h2⟩ := op_uneven hC hG (xs (i + 1)) (xs (i + 2))
  refine a_aload_n X.1 dL_law_1141 rfl 1 rfl ?_
  refine a_arg X 1 ic_1 dL_law_1142 dL_law_1143 dL_law_1145 dL_law_1146 dL_law_1147 (by omega) ?_
  refine a_arg X 2 ic_2 dL_law_1148 dL_law_1149 dL_law_1151 dL_law_1152 dL_law_1153 (by omega) ?_
  refine a_cVi (As := [.int (xs (i + 1)), .int (xs (i + 2))]) (st := []) X.1 fw3 iz_0 (cX3_uneven_ok l (h1 (fun r1 M1 => r1 = r ∧ CS mk S' M1 ∧ Fr 0 199 M M1) (fun M1 a b => ⟨rfl, a, b⟩))) mlL_111 mvX3_uneven ⟨⟨rfl, rfl⟩, ⟨Nat.le_of_ble_eq_true rfl, Nat.le_of_ble_eq_true rfl⟩, hR.1, hR.2⟩ (Nat.le_of_ble_eq_true rfl) rfl dL_law_1154 (fun r1 M1 q => ?_)
  obtain ⟨hr, hC1, f1⟩ := q
  subst hr
  refine a_aload_n X.1 dL_law_1157 rfl 2 rfl ?_
  refine a_arg X 1 ic_1 dL_law_1158 dL_law_1159 dL_law_1161 dL_law_1162 dL_law_1163 (by omega) ?_
  refine a_arg X 2 ic_2 dL_law_1164 dL_law_1165 dL_law_1167 dL_law_1168 dL_law_1169 (by omega) ?_
  refine a_cVi (As := [.int (xs (i + 1)), .int (xs (i + 2))]) (st := [.int r1]) X.1 fw4 iz_200 (cX4_uneven_ok l (h2 M1 (hM.fr f1) (fun r2 M2 => r2 = r1 ∧ MS S' M2 ∧ Fr 200 299 M1 M2) (fun M2 a b => ⟨rfl, a, b⟩))) mlL_114 mvX4_uneven ⟨⟨rfl, rfl⟩, ⟨Nat.le_of_ble_eq_true rfl, Nat.le_of_ble_eq_true rfl⟩, hR.1, hR.2⟩ (Nat.le_of_ble_eq_true rfl) rfl dL_law_1170 (fun r2 M2 q => ?_)
  obtain ⟨hr, hM2, f2⟩ := q
  refine a_icmp_eq (tgt := 2116) X.1 dL_law_1173 (by decide) (fun z => ?_) (fun z => absurd hr.symm z)
  exact K S' M2 (hC1.fr hG' f2) hM2 hG'
set_option maxHeartbeats 4000000 in
set_option maxRecDepth 100000 in
/-- meets -/
theorem lc_22 {p : Program} {l : Launch} {e : Env} {s : State} {m : MethodId} {args : Array Value} {below : List Frame} {meth : Method} {c : Code} {G : Gl} {al : Nat → Nat} {mk cs ss : Nat} {Q : State → Prop} {M : Mem} {S : Gs} {b L i : Nat} {xs : Nat → Int32} (X : Lx p s m meth c G b L xs) (hC : CS mk S M) (hM : MS S M) (hG : GI S) (hi : i + 5 < L) (hR : cs ≤ room_1.cells ∧ ss ≤ room_1.slots) (K : ∀ S' M', CS mk S' M' → MS S' M' → GI S' → Wa p l e room_1 s m args below meth c 7 G al mk cs ss Q M' 2116 (lwl al b i) []) : Wa p l e room_1 s m args below meth c 7 G al mk cs ss Q M 1178 (lwl al b i) [] := by
  obtain ⟨S', r, hG', h1, h2⟩ := op_meets hC hG (xs (i + 1)) (xs (i + 2)) (xs (i + 3)) (xs (i + 4))
  refine a_aload_n X.1 dL_law_1178 rfl 1 rfl ?_
  refine a_arg X 1 ic_1 dL_law_1179 dL_law_1180 dL_law_1182 dL_law_1183 dL_law_1184 (by omega) ?_
  refine a_arg X 2 ic_2 dL_law_1185 dL_law_1186 dL_law_1188 dL_law_1189 dL_law_1190 (by omega) ?_
  refine a_arg X 3 ic_3 dL_law_1191 dL_law_1192 dL_law_1194 dL_law_1195 dL_law_1196 (by omega) ?_
  refine a_arg X 4 ic_4 dL_law_1197 dL_law_1198 dL_law_1200 dL_law_1201 dL_law_1202 (by omega) ?_
  refine a_cVi (As := [.int (xs (i + 1)), .int (xs (i + 2)), .int (xs (i + 3)), .int (xs (i + 4))]) (st := []) X.1 fw3 iz_0 (cX3_meets_ok l (h1 (fun r1 M1 => r1 = r ∧ CS mk S' M1 ∧ Fr 0 199 M M1) (fun M1 a b => ⟨rfl, a, b⟩))) mlL_115 mvX3_meets ⟨⟨rfl, rfl⟩, ⟨Nat.le_of_ble_eq_true rfl, Nat.le_of_ble_eq_true rfl⟩, hR.1, hR.2⟩ (Nat.le_of_ble_eq_true rfl) rfl dL_law_1203 (fun r1 M1 q => ?_)
  obtain ⟨hr, hC1, f1⟩ := q
  subst hr
  refine a_aload_n X.1 dL_law_1206 rfl 2 rfl ?_
  refine a_arg X 1 ic_1 dL_law_1207 dL_law_1208 dL_law_1210 dL_law_1211 dL_law_1212 (by omega) ?_
  refine a_arg X 2 ic_2 dL_law_1213 dL_law_1214 dL_law_1216 dL_law_1217 dL_law_1218 (by omega) ?_
  refine a_arg X 3 ic_3 dL_law_1219 dL_law_1220 dL_law_1222 dL_law_1223 dL_law_1224 (by omega) ?_
  refine a_arg X 4 ic_4 dL_law_1225 dL_law_1226 dL_law_1228 dL_law_1229 dL_law_1230 (by omega) ?_
  refine a_cVi (As := [.int (xs (i + 1)), .int (xs (i + 2)), .int (xs (i + 3)), .int (xs (i + 4))]) (st := [.int r1]) X.1 fw4 iz_200 (cX4_meets_ok l (h2 M1 (hM.fr f1) (fun r2 M2 => r2 = r1 ∧ MS S' M2 ∧ Fr 200 299 M1 M2) (fun M2 a b => ⟨rfl, a, b⟩))) mlL_118 mvX4_meets ⟨⟨rfl, rfl⟩, ⟨Nat.le_of_ble_eq_true rfl, Nat.le_of_ble_eq_true rfl⟩, hR.1, hR.2⟩ (Nat.le_of_ble_eq_true rfl) rfl dL_law_1231 (fun r2 M2 q => ?_)
  obtain ⟨hr, hM2, f2⟩ := q
  refine a_icmp_eq (tgt := 2116) X.1 dL_law_1234 (by decide) (fun z => ?_) (fun z => absurd hr.symm z)
  exact K S' M2 (hC1.fr hG' f2) hM2 hG'
set_option maxHeartbeats 4000000 in
set_option maxRecDepth 100000 in
/-- sum -/
theorem lc_23 {p : Program} {l : Launch} {e : Env} {s : State} {m : MethodId} {args : Array Value} {below : List Frame} {meth : Method} {c : Code} {G : Gl} {al : Nat → Nat} {mk cs ss : Nat} {Q : State → Prop} {M : Mem} {S : Gs} {b L i : Nat} {xs : Nat → Int32} (X : Lx p s m meth c G b L xs) (hC : CS mk S M) (hM : MS S M) (hG : GI S) (hi : i + 5 < L) (hR : cs ≤ room_1.cells ∧ ss ≤ room_1.slots) (K : ∀ S' M', CS mk S' M' → MS S' M' → GI S' → Wa p l e room_1 s m args below meth c 7 G al mk cs ss Q M' 2116 (lwl al b i) []) : Wa p l e room_1 s m args below meth c 7 G al mk cs ss Q M 1239 (lwl al b i) [] := by
  obtain ⟨S', r, hG', h1, h2⟩ := op_sum hC hG (xs (i + 1))
  refine a_aload_n X.1 dL_law_1239 rfl 1 rfl ?_
  refine a_arg X 1 ic_1 dL_law_1240 dL_law_1241 dL_law_1243 dL_law_1244 dL_law_1245 (by omega) ?_
  refine a_cVi (As := [.int (xs (i + 1))]) (st := []) X.1 fw3 iz_0 (cX3_sum_ok l (h1 (fun r1 M1 => r1 = r ∧ CS mk S' M1 ∧ Fr 0 199 M M1) (fun M1 a b => ⟨rfl, a, b⟩))) mlL_119 mvX3_sum ⟨⟨rfl, rfl⟩, ⟨Nat.le_of_ble_eq_true rfl, Nat.le_of_ble_eq_true rfl⟩, hR.1, hR.2⟩ (Nat.le_of_ble_eq_true rfl) rfl dL_law_1246 (fun r1 M1 q => ?_)
  obtain ⟨hr, hC1, f1⟩ := q
  subst hr
  refine a_aload_n X.1 dL_law_1249 rfl 2 rfl ?_
  refine a_arg X 1 ic_1 dL_law_1250 dL_law_1251 dL_law_1253 dL_law_1254 dL_law_1255 (by omega) ?_
  refine a_cVi (As := [.int (xs (i + 1))]) (st := [.int r1]) X.1 fw4 iz_200 (cX4_sum_ok l (h2 M1 (hM.fr f1) (fun r2 M2 => r2 = r1 ∧ MS S' M2 ∧ Fr 200 299 M1 M2) (fun M2 a b => ⟨rfl, a, b⟩))) mlL_122 mvX4_sum ⟨⟨rfl, rfl⟩, ⟨Nat.le_of_ble_eq_true rfl, Nat.le_of_ble_eq_true rfl⟩, hR.1, hR.2⟩ (Nat.le_of_ble_eq_true rfl) rfl dL_law_1256 (fun r2 M2 q => ?_)
  obtain ⟨hr, hM2, f2⟩ := q
  refine a_icmp_eq (tgt := 2116) X.1 dL_law_1259 (by decide) (fun z => ?_) (fun z => absurd hr.symm z)
  exact K S' M2 (hC1.fr hG' f2) hM2 hG'
set_option maxHeartbeats 4000000 in
set_option maxRecDepth 100000 in
/-- sorted -/
theorem lc_24 {p : Program} {l : Launch} {e : Env} {s : State} {m : MethodId} {args : Array Value} {below : List Frame} {meth : Method} {c : Code} {G : Gl} {al : Nat → Nat} {mk cs ss : Nat} {Q : State → Prop} {M : Mem} {S : Gs} {b L i : Nat} {xs : Nat → Int32} (X : Lx p s m meth c G b L xs) (hC : CS mk S M) (hM : MS S M) (hG : GI S) (hi : i + 5 < L) (hR : cs ≤ room_1.cells ∧ ss ≤ room_1.slots) (K : ∀ S' M', CS mk S' M' → MS S' M' → GI S' → Wa p l e room_1 s m args below meth c 7 G al mk cs ss Q M' 2116 (lwl al b i) []) : Wa p l e room_1 s m args below meth c 7 G al mk cs ss Q M 1264 (lwl al b i) [] := by
  obtain ⟨S', r, hG', h1, h2⟩ := op_sorted hC hG (xs (i + 1)) (xs (i + 2))
  refine a_aload_n X.1 dL_law_1264 rfl 1 rfl ?_
  refine a_arg X 1 ic_1 dL_law_1265 dL_law_1266 dL_law_1268 dL_law_1269 dL_law_1270 (by omega) ?_
  refine a_arg X 2 ic_2 dL_law_1271 dL_law_1272 dL_law_1274 dL_law_1275 dL_law_1276 (by omega) ?_
  refine a_cVi (As := [.int (xs (i + 1)), .int (xs (i + 2))]) (st := []) X.1 fw3 iz_0 (cX3_sorted_ok l (h1 (fun r1 M1 => r1 = r ∧ CS mk S' M1 ∧ Fr 0 199 M M1) (fun M1 a b => ⟨rfl, a, b⟩))) mlL_123 mvX3_sorted ⟨⟨rfl, rfl⟩, ⟨Nat.le_of_ble_eq_true rfl, Nat.le_of_ble_eq_true rfl⟩, hR.1, hR.2⟩ (Nat.le_of_ble_eq_true rfl) rfl dL_law_1277 (fun r1 M1 q => ?_)
  obtain ⟨hr, hC1, f1⟩ := q
  subst hr
  refine a_aload_n X.1 dL_law_1280 rfl 2 rfl ?_
  refine a_arg X 1 ic_1 dL_law_1281 dL_law_1282 dL_law_1284 dL_law_1285 dL_law_1286 (by omega) ?_
  refine a_arg X 2 ic_2 dL_law_1287 dL_law_1288 dL_law_1290 dL_law_1291 dL_law_1292 (by omega) ?_
  refine a_cVi (As := [.int (xs (i + 1)), .int (xs (i + 2))]) (st := [.int r1]) X.1 fw4 iz_200 (cX4_sorted_ok l (h2 M1 (hM.fr f1) (fun r2 M2 => r2 = r1 ∧ MS S' M2 ∧ Fr 200 299 M1 M2) (fun M2 a b => ⟨rfl, a, b⟩))) mlL_126 mvX4_sorted ⟨⟨rfl, rfl⟩, ⟨Nat.le_of_ble_eq_true rfl, Nat.le_of_ble_eq_true rfl⟩, hR.1, hR.2⟩ (Nat.le_of_ble_eq_true rfl) rfl dL_law_1293 (fun r2 M2 q => ?_)
  obtain ⟨hr, hM2, f2⟩ := q
  refine a_icmp_eq (tgt := 2116) X.1 dL_law_1296 (by decide) (fun z => ?_) (fun z => absurd hr.symm z)
  exact K S' M2 (hC1.fr hG' f2) hM2 hG'
