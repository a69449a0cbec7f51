/-! ===== THE LAW: its cases 25 .. 48, printed ===== -/
set_option maxHeartbeats 4000000 in
set_option maxRecDepth 100000 in
/-- times -/
theorem lc_25 {p : Program} {l : Launch} {e : Env} {s : State} {m : MethodId} {args : Array Value} {below : List Frame} {meth : Method} {c : Code} {G : Gl} {al : Nat → Nat} {mk cs ss : Nat} {Q : State → Prop} {M : Mem} {S : Gs} {b L i : Nat} {xs : Nat → Int32} (X : Lx p s m meth c G b L xs) (hC : CS mk S M) (hM : MS S M) (hG : GI S) (hi : i + 5 < L) (hR : cs ≤ room_1.cells ∧ ss ≤ room_1.slots) (K : ∀ S' M', CS mk S' M' → MS S' M' → GI S' → Wa p l e room_1 s m args below meth c 7 G al mk cs ss Q M' 2116 (lwl al b i) []) : Wa p l e room_1 s m args below meth c 7 G al mk cs ss Q M 1301 (lwl al b i) [] := by
  obtain ⟨S', r, hG', h1, h2⟩ := op_times hC hG (xs (i + 1)) (xs (i + 2))
  refine a_aload_n X.1 dL_law_1301 rfl 1 rfl ?_
  refine a_arg X 1 ic_1 dL_law_1302 dL_law_1303 dL_law_1305 dL_law_1306 dL_law_1307 (by omega) ?_
  refine a_arg X 2 ic_2 dL_law_1308 dL_law_1309 dL_law_1311 dL_law_1312 dL_law_1313 (by omega) ?_
  refine a_cVi (As := [.int (xs (i + 1)), .int (xs (i + 2))]) (st := []) X.1 fw3 iz_0 (cX3_times_ok l (h1 (fun r1 M1 => r1 = r ∧ CS mk S' M1 ∧ Fr 0 199 M M1) (fun M1 a b => ⟨rfl, a, b⟩))) mlL_127 mvX3_times ⟨⟨rfl, rfl⟩, ⟨Nat.le_of_ble_eq_true rfl, Nat.le_of_ble_eq_true rfl⟩, hR.1, hR.2⟩ (Nat.le_of_ble_eq_true rfl) rfl dL_law_1314 (fun r1 M1 q => ?_)
  obtain ⟨hr, hC1, f1⟩ := q
  subst hr
  refine a_aload_n X.1 dL_law_1317 rfl 2 rfl ?_
  refine a_arg X 1 ic_1 dL_law_1318 dL_law_1319 dL_law_1321 dL_law_1322 dL_law_1323 (by omega) ?_
  refine a_arg X 2 ic_2 dL_law_1324 dL_law_1325 dL_law_1327 dL_law_1328 dL_law_1329 (by omega) ?_
  refine a_cVi (As := [.int (xs (i + 1)), .int (xs (i + 2))]) (st := [.int r1]) X.1 fw4 iz_200 (cX4_times_ok l (h2 M1 (hM.fr f1) (fun r2 M2 => r2 = r1 ∧ MS S' M2 ∧ Fr 200 299 M1 M2) (fun M2 a b => ⟨rfl, a, b⟩))) mlL_130 mvX4_times ⟨⟨rfl, rfl⟩, ⟨Nat.le_of_ble_eq_true rfl, Nat.le_of_ble_eq_true rfl⟩, hR.1, hR.2⟩ (Nat.le_of_ble_eq_true rfl) rfl dL_law_1330 (fun r2 M2 q => ?_)
  obtain ⟨hr, hM2, f2⟩ := q
  refine a_icmp_eq (tgt := 2116) X.1 dL_law_1333 (by decide) (fun z => ?_) (fun z => absurd hr.symm z)
  exact K S' M2 (hC1.fr hG' f2) hM2 hG'
set_option maxHeartbeats 4000000 in
set_option maxRecDepth 100000 in
/-- miss -/
theorem lc_26 {p : Program} {l : Launch} {e : Env} {s : State} {m : MethodId} {args : Array Value} {below : List Frame} {meth : Method} {c : Code} {G : Gl} {al : Nat → Nat} {mk cs ss : Nat} {Q : State → Prop} {M : Mem} {S : Gs} {b L i : Nat} {xs : Nat → Int32} (X : Lx p s m meth c G b L xs) (hC : CS mk S M) (hM : MS S M) (hG : GI S) (hi : i + 5 < L) (hR : cs ≤ room_1.cells ∧ ss ≤ room_1.slots) (K : ∀ S' M', CS mk S' M' → MS S' M' → GI S' → Wa p l e room_1 s m args below meth c 7 G al mk cs ss Q M' 2116 (lwl al b i) []) : Wa p l e room_1 s m args below meth c 7 G al mk cs ss Q M 1338 (lwl al b i) [] := by
  obtain ⟨S', r, hG', h1, h2⟩ := op_miss hC hG (xs (i + 1)) (xs (i + 2))
  refine a_aload_n X.1 dL_law_1338 rfl 1 rfl ?_
  refine a_arg X 1 ic_1 dL_law_1339 dL_law_1340 dL_law_1342 dL_law_1343 dL_law_1344 (by omega) ?_
  refine a_arg X 2 ic_2 dL_law_1345 dL_law_1346 dL_law_1348 dL_law_1349 dL_law_1350 (by omega) ?_
  refine a_cVi (As := [.int (xs (i + 1)), .int (xs (i + 2))]) (st := []) X.1 fw3 iz_0 (cX3_miss_ok l (h1 (fun r1 M1 => r1 = r ∧ CS mk S' M1 ∧ Fr 0 199 M M1) (fun M1 a b => ⟨rfl, a, b⟩))) mlL_131 mvX3_miss ⟨⟨rfl, rfl⟩, ⟨Nat.le_of_ble_eq_true rfl, Nat.le_of_ble_eq_true rfl⟩, hR.1, hR.2⟩ (Nat.le_of_ble_eq_true rfl) rfl dL_law_1351 (fun r1 M1 q => ?_)
  obtain ⟨hr, hC1, f1⟩ := q
  subst hr
  refine a_aload_n X.1 dL_law_1354 rfl 2 rfl ?_
  refine a_arg X 1 ic_1 dL_law_1355 dL_law_1356 dL_law_1358 dL_law_1359 dL_law_1360 (by omega) ?_
  refine a_arg X 2 ic_2 dL_law_1361 dL_law_1362 dL_law_1364 dL_law_1365 dL_law_1366 (by omega) ?_
  refine a_cVi (As := [.int (xs (i + 1)), .int (xs (i + 2))]) (st := [.int r1]) X.1 fw4 iz_200 (cX4_miss_ok l (h2 M1 (hM.fr f1) (fun r2 M2 => r2 = r1 ∧ MS S' M2 ∧ Fr 200 299 M1 M2) (fun M2 a b => ⟨rfl, a, b⟩))) mlL_134 mvX4_miss ⟨⟨rfl, rfl⟩, ⟨Nat.le_of_ble_eq_true rfl, Nat.le_of_ble_eq_true rfl⟩, hR.1, hR.2⟩ (Nat.le_of_ble_eq_true rfl) rfl dL_law_1367 (fun r2 M2 q => ?_)
  obtain ⟨hr, hM2, f2⟩ := q
  refine a_icmp_eq (tgt := 2116) X.1 dL_law_1370 (by decide) (fun z => ?_) (fun z => absurd hr.symm z)
  exact K S' M2 (hC1.fr hG' f2) hM2 hG'
set_option maxHeartbeats 4000000 in
set_option maxRecDepth 100000 in
/-- missed -/
theorem lc_27 {p : Program} {l : Launch} {e : Env} {s : State} {m : MethodId} {args : Array Value} {below : List Frame} {meth : Method} {c : Code} {G : Gl} {al : Nat → Nat} {mk cs ss : Nat} {Q : State → Prop} {M : Mem} {S : Gs} {b L i : Nat} {xs : Nat → Int32} (X : Lx p s m meth c G b L xs) (hC : CS mk S M) (hM : MS S M) (hG : GI S) (hi : i + 5 < L) (hR : cs ≤ room_1.cells ∧ ss ≤ room_1.slots) (K : ∀ S' M', CS mk S' M' → MS S' M' → GI S' → Wa p l e room_1 s m args below meth c 7 G al mk cs ss Q M' 2116 (lwl al b i) []) : Wa p l e room_1 s m args below meth c 7 G al mk cs ss Q M 1375 (lwl al b i) [] := by
  obtain ⟨S', r, hG', h1, h2⟩ := op_missed hC hG (xs (i + 1))
  refine a_aload_n X.1 dL_law_1375 rfl 1 rfl ?_
  refine a_arg X 1 ic_1 dL_law_1376 dL_law_1377 dL_law_1379 dL_law_1380 dL_law_1381 (by omega) ?_
  refine a_cVi (As := [.int (xs (i + 1))]) (st := []) X.1 fw3 iz_0 (cX3_missed_ok l (h1 (fun r1 M1 => r1 = r ∧ CS mk S' M1 ∧ Fr 0 199 M M1) (fun M1 a b => ⟨rfl, a, b⟩))) mlL_135 mvX3_missed ⟨⟨rfl, rfl⟩, ⟨Nat.le_of_ble_eq_true rfl, Nat.le_of_ble_eq_true rfl⟩, hR.1, hR.2⟩ (Nat.le_of_ble_eq_true rfl) rfl dL_law_1382 (fun r1 M1 q => ?_)
  obtain ⟨hr, hC1, f1⟩ := q
  subst hr
  refine a_aload_n X.1 dL_law_1385 rfl 2 rfl ?_
  refine a_arg X 1 ic_1 dL_law_1386 dL_law_1387 dL_law_1389 dL_law_1390 dL_law_1391 (by omega) ?_
  refine a_cVi (As := [.int (xs (i + 1))]) (st := [.int r1]) X.1 fw4 iz_200 (cX4_missed_ok l (h2 M1 (hM.fr f1) (fun r2 M2 => r2 = r1 ∧ MS S' M2 ∧ Fr 200 299 M1 M2) (fun M2 a b => ⟨rfl, a, b⟩))) mlL_138 mvX4_missed ⟨⟨rfl, rfl⟩, ⟨Nat.le_of_ble_eq_true rfl, Nat.le_of_ble_eq_true rfl⟩, hR.1, hR.2⟩ (Nat.le_of_ble_eq_true rfl) rfl dL_law_1392 (fun r2 M2 q => ?_)
  obtain ⟨hr, hM2, f2⟩ := q
  refine a_icmp_eq (tgt := 2116) X.1 dL_law_1395 (by decide) (fun z => ?_) (fun z => absurd hr.symm z)
  exact K S' M2 (hC1.fr hG' f2) hM2 hG'
set_option maxHeartbeats 4000000 in
set_option maxRecDepth 100000 in
/-- heavy -/
theorem lc_28 {p : Program} {l : Launch} {e : Env} {s : State} {m : MethodId} {args : Array Value} {below : List Frame} {meth : Method} {c : Code} {G : Gl} {al : Nat → Nat} {mk cs ss : Nat} {Q : State → Prop} {M : Mem} {S : Gs} {b L i : Nat} {xs : Nat → Int32} (X : Lx p s m meth c G b L xs) (hC : CS mk S M) (hM : MS S M) (hG : GI S) (hi : i + 5 < L) (hR : cs ≤ room_1.cells ∧ ss ≤ room_1.slots) (K : ∀ S' M', CS mk S' M' → MS S' M' → GI S' → Wa p l e room_1 s m args below meth c 7 G al mk cs ss Q M' 2116 (lwl al b i) []) : Wa p l e room_1 s m args below meth c 7 G al mk cs ss Q M 1400 (lwl al b i) [] := by
  obtain ⟨S', r, hG', h1, h2⟩ := op_heavy hC hG (xs (i + 1)) (xs (i + 2)) (xs (i + 3))
  refine a_aload_n X.1 dL_law_1400 rfl 1 rfl ?_
  refine a_arg X 1 ic_1 dL_law_1401 dL_law_1402 dL_law_1404 dL_law_1405 dL_law_1406 (by omega) ?_
  refine a_arg X 2 ic_2 dL_law_1407 dL_law_1408 dL_law_1410 dL_law_1411 dL_law_1412 (by omega) ?_
  refine a_arg X 3 ic_3 dL_law_1413 dL_law_1414 dL_law_1416 dL_law_1417 dL_law_1418 (by omega) ?_
  refine a_cVi (As := [.int (xs (i + 1)), .int (xs (i + 2)), .int (xs (i + 3))]) (st := []) X.1 fw3 iz_0 (cX3_heavy_ok l (h1 (fun r1 M1 => r1 = r ∧ CS mk S' M1 ∧ Fr 0 199 M M1) (fun M1 a b => ⟨rfl, a, b⟩))) mlL_139 mvX3_heavy ⟨⟨rfl, rfl⟩, ⟨Nat.le_of_ble_eq_true rfl, Nat.le_of_ble_eq_true rfl⟩, hR.1, hR.2⟩ (Nat.le_of_ble_eq_true rfl) rfl dL_law_1419 (fun r1 M1 q => ?_)
  obtain ⟨hr, hC1, f1⟩ := q
  subst hr
  refine a_aload_n X.1 dL_law_1422 rfl 2 rfl ?_
  refine a_arg X 1 ic_1 dL_law_1423 dL_law_1424 dL_law_1426 dL_law_1427 dL_law_1428 (by omega) ?_
  refine a_arg X 2 ic_2 dL_law_1429 dL_law_1430 dL_law_1432 dL_law_1433 dL_law_1434 (by omega) ?_
  refine a_arg X 3 ic_3 dL_law_1435 dL_law_1436 dL_law_1438 dL_law_1439 dL_law_1440 (by omega) ?_
  refine a_cVi (As := [.int (xs (i + 1)), .int (xs (i + 2)), .int (xs (i + 3))]) (st := [.int r1]) X.1 fw4 iz_200 (cX4_heavy_ok l (h2 M1 (hM.fr f1) (fun r2 M2 => r2 = r1 ∧ MS S' M2 ∧ Fr 200 299 M1 M2) (fun M2 a b => ⟨rfl, a, b⟩))) mlL_142 mvX4_heavy ⟨⟨rfl, rfl⟩, ⟨Nat.le_of_ble_eq_true rfl, Nat.le_of_ble_eq_true rfl⟩, hR.1, hR.2⟩ (Nat.le_of_ble_eq_true rfl) rfl dL_law_1441 (fun r2 M2 q => ?_)
  obtain ⟨hr, hM2, f2⟩ := q
  refine a_icmp_eq (tgt := 2116) X.1 dL_law_1444 (by decide) (fun z => ?_) (fun z => absurd hr.symm z)
  exact K S' M2 (hC1.fr hG' f2) hM2 hG'
set_option maxHeartbeats 4000000 in
set_option maxRecDepth 100000 in
/-- apart -/
theorem lc_29 {p : Program} {l : Launch} {e : Env} {s : State} {m : MethodId} {args : Array Value} {below : List Frame} {meth : Method} {c : Code} {G : Gl} {al : Nat → Nat} {mk cs ss : Nat} {Q : State → Prop} {M : Mem} {S : Gs} {b L i : Nat} {xs : Nat → Int32} (X : Lx p s m meth c G b L xs) (hC : CS mk S M) (hM : MS S M) (hG : GI S) (hi : i + 5 < L) (hR : cs ≤ room_1.cells ∧ ss ≤ room_1.slots) (K : ∀ S' M', CS mk S' M' → MS S' M' → GI S' → Wa p l e room_1 s m args below meth c 7 G al mk cs ss Q M' 2116 (lwl al b i) []) : Wa p l e room_1 s m args below meth c 7 G al mk cs ss Q M 1449 (lwl al b i) [] := by
  obtain ⟨S', r, hG', h1, h2⟩ := op_apart hC hG (xs (i + 1)) (xs (i + 2))
  refine a_aload_n X.1 dL_law_1449 rfl 1 rfl ?_
  refine a_arg X 1 ic_1 dL_law_1450 dL_law_1451 dL_law_1453 dL_law_1454 dL_law_1455 (by omega) ?_
  refine a_arg X 2 ic_2 dL_law_1456 dL_law_1457 dL_law_1459 dL_law_1460 dL_law_1461 (by omega) ?_
  refine a_cVi (As := [.int (xs (i + 1)), .int (xs (i + 2))]) (st := []) X.1 fw3 iz_0 (cX3_apart_ok l (h1 (fun r1 M1 => r1 = r ∧ CS mk S' M1 ∧ Fr 0 199 M M1) (fun M1 a b => ⟨rfl, a, b⟩))) mlL_143 mvX3_apart ⟨⟨rfl, rfl⟩, ⟨Nat.le_of_ble_eq_true rfl, Nat.le_of_ble_eq_true rfl⟩, hR.1, hR.2⟩ (Nat.le_of_ble_eq_true rfl) rfl dL_law_1462 (fun r1 M1 q => ?_)
  obtain ⟨hr, hC1, f1⟩ := q
  subst hr
  refine a_aload_n X.1 dL_law_1465 rfl 2 rfl ?_
  refine a_arg X 1 ic_1 dL_law_1466 dL_law_1467 dL_law_1469 dL_law_1470 dL_law_1471 (by omega) ?_
  refine a_arg X 2 ic_2 dL_law_1472 dL_law_1473 dL_law_1475 dL_law_1476 dL_law_1477 (by omega) ?_
  refine a_cVi (As := [.int (xs (i + 1)), .int (xs (i + 2))]) (st := [.int r1]) X.1 fw4 iz_200 (cX4_apart_ok l (h2 M1 (hM.fr f1) (fun r2 M2 => r2 = r1 ∧ MS S' M2 ∧ Fr 200 299 M1 M2) (fun M2 a b => ⟨rfl, a, b⟩))) mlL_146 mvX4_apart ⟨⟨rfl, rfl⟩, ⟨Nat.le_of_ble_eq_true rfl, Nat.le_of_ble_eq_true rfl⟩, hR.1, hR.2⟩ (Nat.le_of_ble_eq_true rfl) rfl dL_law_1478 (fun r2 M2 q => ?_)
  obtain ⟨hr, hM2, f2⟩ := q
  refine a_icmp_eq (tgt := 2116) X.1 dL_law_1481 (by decide) (fun z => ?_) (fun z => absurd hr.symm z)
  exact K S' M2 (hC1.fr hG' f2) hM2 hG'
set_option maxHeartbeats 4000000 in
set_option maxRecDepth 100000 in
/-- would -/
theorem lc_30 {p : Program} {l : Launch} {e : Env} {s : State} {m : MethodId} {args : Array Value} {below : List Frame} {meth : Method} {c : Code} {G : Gl} {al : Nat → Nat} {mk cs ss : Nat} {Q : State → Prop} {M : Mem} {S : Gs} {b L i : Nat} {xs : Nat → Int32} (X : Lx p s m meth c G b L xs) (hC : CS mk S M) (hM : MS S M) (hG : GI S) (hi : i + 5 < L) (hR : cs ≤ room_1.cells ∧ ss ≤ room_1.slots) (K : ∀ S' M', CS mk S' M' → MS S' M' → GI S' → Wa p l e room_1 s m args below meth c 7 G al mk cs ss Q M' 2116 (lwl al b i) []) : Wa p l e room_1 s m args below meth c 7 G al mk cs ss Q M 1486 (lwl al b i) [] := by
  obtain ⟨S', r, hG', h1, h2⟩ := op_would hC hG (xs (i + 1)) (xs (i + 2))
  refine a_aload_n X.1 dL_law_1486 rfl 1 rfl ?_
  refine a_arg X 1 ic_1 dL_law_1487 dL_law_1488 dL_law_1490 dL_law_1491 dL_law_1492 (by omega) ?_
  refine a_arg X 2 ic_2 dL_law_1493 dL_law_1494 dL_law_1496 dL_law_1497 dL_law_1498 (by omega) ?_
  refine a_cVi (As := [.int (xs (i + 1)), .int (xs (i + 2))]) (st := []) X.1 fw3 iz_0 (cX3_would_ok l (h1 (fun r1 M1 => r1 = r ∧ CS mk S' M1 ∧ Fr 0 199 M M1) (fun M1 a b => ⟨rfl, a, b⟩))) mlL_147 mvX3_would ⟨⟨rfl, rfl⟩, ⟨Nat.le_of_ble_eq_true rfl, Nat.le_of_ble_eq_true rfl⟩, hR.1, hR.2⟩ (Nat.le_of_ble_eq_true rfl) rfl dL_law_1499 (fun r1 M1 q => ?_)
  obtain ⟨hr, hC1, f1⟩ := q
  subst hr
  refine a_aload_n X.1 dL_law_1502 rfl 2 rfl ?_
  refine a_arg X 1 ic_1 dL_law_1503 dL_law_1504 dL_law_1506 dL_law_1507 dL_law_1508 (by omega) ?_
  refine a_arg X 2 ic_2 dL_law_1509 dL_law_1510 dL_law_1512 dL_law_1513 dL_law_1514 (by omega) ?_
  refine a_cVi (As := [.int (xs (i + 1)), .int (xs (i + 2))]) (st := [.int r1]) X.1 fw4 iz_200 (cX4_would_ok l (h2 M1 (hM.fr f1) (fun r2 M2 => r2 = r1 ∧ MS S' M2 ∧ Fr 200 299 M1 M2) (fun M2 a b => ⟨rfl, a, b⟩))) mlL_150 mvX4_would ⟨⟨rfl, rfl⟩, ⟨Nat.le_of_ble_eq_true rfl, Nat.le_of_ble_eq_true rfl⟩, hR.1, hR.2⟩ (Nat.le_of_ble_eq_true rfl) rfl dL_law_1515 (fun r2 M2 q => ?_)
  obtain ⟨hr, hM2, f2⟩ := q
  refine a_icmp_eq (tgt := 2116) X.1 dL_law_1518 (by decide) (fun z => ?_) (fun z => absurd hr.symm z)
  exact K S' M2 (hC1.fr hG' f2) hM2 hG'
set_option maxHeartbeats 4000000 in
set_option maxRecDepth 100000 in
/-- wins -/
theorem lc_31 {p : Program} {l : Launch} {e : Env} {s : State} {m : MethodId} {args : Array Value} {below : List Frame} {meth : Method} {c : Code} {G : Gl} {al : Nat → Nat} {mk cs ss : Nat} {Q : State → Prop} {M : Mem} {S : Gs} {b L i : Nat} {xs : Nat → Int32} (X : Lx p s m meth c G b L xs) (hC : CS mk S M) (hM : MS S M) (hG : GI S) (hi : i + 5 < L) (hR : cs ≤ room_1.cells ∧ ss ≤ room_1.slots) (K : ∀ S' M', CS mk S' M' → MS S' M' → GI S' → Wa p l e room_1 s m args below meth c 7 G al mk cs ss Q M' 2116 (lwl al b i) []) : Wa p l e room_1 s m args below meth c 7 G al mk cs ss Q M 1523 (lwl al b i) [] := by
  obtain ⟨S', r, hG', h1, h2⟩ := op_wins hC hG (xs (i + 1)) (xs (i + 2)) (if xs (i + 3) = 0 then 0 else 1)
  refine a_aload_n X.1 dL_law_1523 rfl 1 rfl ?_
  refine a_arg X 1 ic_1 dL_law_1524 dL_law_1525 dL_law_1527 dL_law_1528 dL_law_1529 (by omega) ?_
  refine a_arg X 2 ic_2 dL_law_1530 dL_law_1531 dL_law_1533 dL_law_1534 dL_law_1535 (by omega) ?_
  refine a_arg X 3 ic_3 dL_law_1536 dL_law_1537 dL_law_1539 dL_law_1540 dL_law_1541 (by omega) ?_
  refine a_ne0 X dL_law_1542 dL_law_1545 dL_law_1546 dL_law_1549 ?_
  refine a_cVi (As := [.int (xs (i + 1)), .int (xs (i + 2)), .int (if xs (i + 3) = 0 then 0 else 1)]) (st := []) X.1 fw3 iz_0 (cX3_wins_ok l (h1 (fun r1 M1 => r1 = r ∧ CS mk S' M1 ∧ Fr 0 199 M M1) (fun M1 a b => ⟨rfl, a, b⟩))) mlL_151 mvX3_wins ⟨⟨rfl, rfl⟩, ⟨Nat.le_of_ble_eq_true rfl, Nat.le_of_ble_eq_true rfl⟩, hR.1, hR.2⟩ (Nat.le_of_ble_eq_true rfl) rfl dL_law_1550 (fun r1 M1 q => ?_)
  obtain ⟨hr, hC1, f1⟩ := q
  subst hr
  refine a_aload_n X.1 dL_law_1553 rfl 2 rfl ?_
  refine a_arg X 1 ic_1 dL_law_1554 dL_law_1555 dL_law_1557 dL_law_1558 dL_law_1559 (by omega) ?_
  refine a_arg X 2 ic_2 dL_law_1560 dL_law_1561 dL_law_1563 dL_law_1564 dL_law_1565 (by omega) ?_
  refine a_arg X 3 ic_3 dL_law_1566 dL_law_1567 dL_law_1569 dL_law_1570 dL_law_1571 (by omega) ?_
  refine a_ne0 X dL_law_1572 dL_law_1575 dL_law_1576 dL_law_1579 ?_
  refine a_cVi (As := [.int (xs (i + 1)), .int (xs (i + 2)), .int (if xs (i + 3) = 0 then 0 else 1)]) (st := [.int r1]) X.1 fw4 iz_200 (cX4_wins_ok l (h2 M1 (hM.fr f1) (fun r2 M2 => r2 = r1 ∧ MS S' M2 ∧ Fr 200 299 M1 M2) (fun M2 a b => ⟨rfl, a, b⟩))) mlL_154 mvX4_wins ⟨⟨rfl, rfl⟩, ⟨Nat.le_of_ble_eq_true rfl, Nat.le_of_ble_eq_true rfl⟩, hR.1, hR.2⟩ (Nat.le_of_ble_eq_true rfl) rfl dL_law_1580 (fun r2 M2 q => ?_)
  obtain ⟨hr, hM2, f2⟩ := q
  refine a_icmp_eq (tgt := 2116) X.1 dL_law_1583 (by decide) (fun z => ?_) (fun z => absurd hr.symm z)
  exact K S' M2 (hC1.fr hG' f2) hM2 hG'
set_option maxHeartbeats 4000000 in
set_option maxRecDepth 100000 in
/-- whole -/
theorem lc_32 {p : Program} {l : Launch} {e : Env} {s : State} {m : MethodId} {args : Array Value} {below : List Frame} {meth : Method} {c : Code} {G : Gl} {al : Nat → Nat} {mk cs ss : Nat} {Q : State → Prop} {M : Mem} {S : Gs} {b L i : Nat} {xs : Nat → Int32} (X : Lx p s m meth c G b L xs) (hC : CS mk S M) (hM : MS S M) (hG : GI S) (hi : i + 5 < L) (hR : cs ≤ room_1.cells ∧ ss ≤ room_1.slots) (K : ∀ S' M', CS mk S' M' → MS S' M' → GI S' → Wa p l e room_1 s m args below meth c 7 G al mk cs ss Q M' 2116 (lwl al b i) []) : Wa p l e room_1 s m args below meth c 7 G al mk cs ss Q M 1588 (lwl al b i) [] := by
  obtain ⟨S', r, hG', h1, h2⟩ := op_whole hC hG (xs (i + 1))
  refine a_aload_n X.1 dL_law_1588 rfl 1 rfl ?_
  refine a_arg X 1 ic_1 dL_law_1589 dL_law_1590 dL_law_1592 dL_law_1593 dL_law_1594 (by omega) ?_
  refine a_cVi (As := [.int (xs (i + 1))]) (st := []) X.1 fw3 iz_0 (cX3_whole_ok l (h1 (fun r1 M1 => r1 = r ∧ CS mk S' M1 ∧ Fr 0 199 M M1) (fun M1 a b => ⟨rfl, a, b⟩))) mlL_155 mvX3_whole ⟨⟨rfl, rfl⟩, ⟨Nat.le_of_ble_eq_true rfl, Nat.le_of_ble_eq_true rfl⟩, hR.1, hR.2⟩ (Nat.le_of_ble_eq_true rfl) rfl dL_law_1595 (fun r1 M1 q => ?_)
  obtain ⟨hr, hC1, f1⟩ := q
  subst hr
  refine a_aload_n X.1 dL_law_1598 rfl 2 rfl ?_
  refine a_arg X 1 ic_1 dL_law_1599 dL_law_1600 dL_law_1602 dL_law_1603 dL_law_1604 (by omega) ?_
  refine a_cVi (As := [.int (xs (i + 1))]) (st := [.int r1]) X.1 fw4 iz_200 (cX4_whole_ok l (h2 M1 (hM.fr f1) (fun r2 M2 => r2 = r1 ∧ MS S' M2 ∧ Fr 200 299 M1 M2) (fun M2 a b => ⟨rfl, a, b⟩))) mlL_158 mvX4_whole ⟨⟨rfl, rfl⟩, ⟨Nat.le_of_ble_eq_true rfl, Nat.le_of_ble_eq_true rfl⟩, hR.1, hR.2⟩ (Nat.le_of_ble_eq_true rfl) rfl dL_law_1605 (fun r2 M2 q => ?_)
  obtain ⟨hr, hM2, f2⟩ := q
  refine a_icmp_eq (tgt := 2116) X.1 dL_law_1608 (by decide) (fun z => ?_) (fun z => absurd hr.symm z)
  exact K S' M2 (hC1.fr hG' f2) hM2 hG'
set_option maxHeartbeats 4000000 in
set_option maxRecDepth 100000 in
/-- overall -/
theorem lc_33 {p : Program} {l : Launch} {e : Env} {s : State} {m : MethodId} {args : Array Value} {below : List Frame} {meth : Method} {c : Code} {G : Gl} {al : Nat → Nat} {mk cs ss : Nat} {Q : State → Prop} {M : Mem} {S : Gs} {b L i : Nat} {xs : Nat → Int32} (X : Lx p s m meth c G b L xs) (hC : CS mk S M) (hM : MS S M) (hG : GI S) (hi : i + 5 < L) (hR : cs ≤ room_1.cells ∧ ss ≤ room_1.slots) (K : ∀ S' M', CS mk S' M' → MS S' M' → GI S' → Wa p l e room_1 s m args below meth c 7 G al mk cs ss Q M' 2116 (lwl al b i) []) : Wa p l e room_1 s m args below meth c 7 G al mk cs ss Q M 1613 (lwl al b i) [] := by
  obtain ⟨S', r, hG', h1, h2⟩ := op_overall hC hG (xs (i + 1)) (xs (i + 2))
  refine a_aload_n X.1 dL_law_1613 rfl 1 rfl ?_
  refine a_arg X 1 ic_1 dL_law_1614 dL_law_1615 dL_law_1617 dL_law_1618 dL_law_1619 (by omega) ?_
  refine a_arg X 2 ic_2 dL_law_1620 dL_law_1621 dL_law_1623 dL_law_1624 dL_law_1625 (by omega) ?_
  refine a_cVi (As := [.int (xs (i + 1)), .int (xs (i + 2))]) (st := []) X.1 fw3 iz_0 (cX3_overall_ok l (h1 (fun r1 M1 => r1 = r ∧ CS mk S' M1 ∧ Fr 0 199 M M1) (fun M1 a b => ⟨rfl, a, b⟩))) mlL_159 mvX3_overall ⟨⟨rfl, rfl⟩, ⟨Nat.le_of_ble_eq_true rfl, Nat.le_of_ble_eq_true rfl⟩, hR.1, hR.2⟩ (Nat.le_of_ble_eq_true rfl) rfl dL_law_1626 (fun r1 M1 q => ?_)
  obtain ⟨hr, hC1, f1⟩ := q
  subst hr
  refine a_aload_n X.1 dL_law_1629 rfl 2 rfl ?_
  refine a_arg X 1 ic_1 dL_law_1630 dL_law_1631 dL_law_1633 dL_law_1634 dL_law_1635 (by omega) ?_
  refine a_arg X 2 ic_2 dL_law_1636 dL_law_1637 dL_law_1639 dL_law_1640 dL_law_1641 (by omega) ?_
  refine a_cVi (As := [.int (xs (i + 1)), .int (xs (i + 2))]) (st := [.int r1]) X.1 fw4 iz_200 (cX4_overall_ok l (h2 M1 (hM.fr f1) (fun r2 M2 => r2 = r1 ∧ MS S' M2 ∧ Fr 200 299 M1 M2) (fun M2 a b => ⟨rfl, a, b⟩))) mlL_162 mvX4_overall ⟨⟨rfl, rfl⟩, ⟨Nat.le_of_ble_eq_true rfl, Nat.le_of_ble_eq_true rfl⟩, hR.1, hR.2⟩ (Nat.le_of_ble_eq_true rfl) rfl dL_law_1642 (fun r2 M2 q => ?_)
  obtain ⟨hr, hM2, f2⟩ := q
  refine a_icmp_eq (tgt := 2116) X.1 dL_law_1645 (by decide) (fun z => ?_) (fun z => absurd hr.symm z)
  exact K S' M2 (hC1.fr hG' f2) hM2 hG'
set_option maxHeartbeats 4000000 in
set_option maxRecDepth 100000 in
/-- rounds -/
theorem lc_34 {p : Program} {l : Launch} {e : Env} {s : State} {m : MethodId} {args : Array Value} {below : List Frame} {meth : Method} {c : Code} {G : Gl} {al : Nat → Nat} {mk cs ss : Nat} {Q : State → Prop} {M : Mem} {S : Gs} {b L i : Nat} {xs : Nat → Int32} (X : Lx p s m meth c G b L xs) (hC : CS mk S M) (hM : MS S M) (hG : GI S) (hi : i + 5 < L) (hR : cs ≤ room_1.cells ∧ ss ≤ room_1.slots) (K : ∀ S' M', CS mk S' M' → MS S' M' → GI S' → Wa p l e room_1 s m args below meth c 7 G al mk cs ss Q M' 2116 (lwl al b i) []) : Wa p l e room_1 s m args below meth c 7 G al mk cs ss Q M 1650 (lwl al b i) [] := by
  obtain ⟨S', r, hG', h1, h2⟩ := op_rounds hC hG (xs (i + 1))
  refine a_aload_n X.1 dL_law_1650 rfl 1 rfl ?_
  refine a_arg X 1 ic_1 dL_law_1651 dL_law_1652 dL_law_1654 dL_law_1655 dL_law_1656 (by omega) ?_
  refine a_cVi (As := [.int (xs (i + 1))]) (st := []) X.1 fw3 iz_0 (cX3_rounds_ok l (h1 (fun r1 M1 => r1 = r ∧ CS mk S' M1 ∧ Fr 0 199 M M1) (fun M1 a b => ⟨rfl, a, b⟩))) mlL_163 mvX3_rounds ⟨⟨rfl, rfl⟩, ⟨Nat.le_of_ble_eq_true rfl, Nat.le_of_ble_eq_true rfl⟩, hR.1, hR.2⟩ (Nat.le_of_ble_eq_true rfl) rfl dL_law_1657 (fun r1 M1 q => ?_)
  obtain ⟨hr, hC1, f1⟩ := q
  subst hr
  refine a_aload_n X.1 dL_law_1660 rfl 2 rfl ?_
  refine a_arg X 1 ic_1 dL_law_1661 dL_law_1662 dL_law_1664 dL_law_1665 dL_law_1666 (by omega) ?_
  refine a_cVi (As := [.int (xs (i + 1))]) (st := [.int r1]) X.1 fw4 iz_200 (cX4_rounds_ok l (h2 M1 (hM.fr f1) (fun r2 M2 => r2 = r1 ∧ MS S' M2 ∧ Fr 200 299 M1 M2) (fun M2 a b => ⟨rfl, a, b⟩))) mlL_166 mvX4_rounds ⟨⟨rfl, rfl⟩, ⟨Nat.le_of_ble_eq_true rfl, Nat.le_of_ble_eq_true rfl⟩, hR.1, hR.2⟩ (Nat.le_of_ble_eq_true rfl) rfl dL_law_1667 (fun r2 M2 q => ?_)
  obtain ⟨hr, hM2, f2⟩ := q
  refine a_icmp_eq (tgt := 2116) X.1 dL_law_1670 (by decide) (fun z => ?_) (fun z => absurd hr.symm z)
  exact K S' M2 (hC1.fr hG' f2) hM2 hG'
set_option maxHeartbeats 4000000 in
set_option maxRecDepth 100000 in
/-- coarse -/
theorem lc_35 {p : Program} {l : Launch} {e : Env} {s : State} {m : MethodId} {args : Array Value} {below : List Frame} {meth : Method} {c : Code} {G : Gl} {al : Nat → Nat} {mk cs ss : Nat} {Q : State → Prop} {M : Mem} {S : Gs} {b L i : Nat} {xs : Nat → Int32} (X : Lx p s m meth c G b L xs) (hC : CS mk S M) (hM : MS S M) (hG : GI S) (hi : i + 5 < L) (hR : cs ≤ room_1.cells ∧ ss ≤ room_1.slots) (K : ∀ S' M', CS mk S' M' → MS S' M' → GI S' → Wa p l e room_1 s m args below meth c 7 G al mk cs ss Q M' 2116 (lwl al b i) []) : Wa p l e room_1 s m args below meth c 7 G al mk cs ss Q M 1675 (lwl al b i) [] := by
  obtain ⟨S', r, hG', h1, h2⟩ := op_coarse hC hG (xs (i + 1)) (xs (i + 2))
  refine a_aload_n X.1 dL_law_1675 rfl 1 rfl ?_
  refine a_arg X 1 ic_1 dL_law_1676 dL_law_1677 dL_law_1679 dL_law_1680 dL_law_1681 (by omega) ?_
  refine a_arg X 2 ic_2 dL_law_1682 dL_law_1683 dL_law_1685 dL_law_1686 dL_law_1687 (by omega) ?_
  refine a_cVi (As := [.int (xs (i + 1)), .int (xs (i + 2))]) (st := []) X.1 fw3 iz_0 (cX3_coarse_ok l (h1 (fun r1 M1 => r1 = r ∧ CS mk S' M1 ∧ Fr 0 199 M M1) (fun M1 a b => ⟨rfl, a, b⟩))) mlL_167 mvX3_coarse ⟨⟨rfl, rfl⟩, ⟨Nat.le_of_ble_eq_true rfl, Nat.le_of_ble_eq_true rfl⟩, hR.1, hR.2⟩ (Nat.le_of_ble_eq_true rfl) rfl dL_law_1688 (fun r1 M1 q => ?_)
  obtain ⟨hr, hC1, f1⟩ := q
  subst hr
  refine a_aload_n X.1 dL_law_1691 rfl 2 rfl ?_
  refine a_arg X 1 ic_1 dL_law_1692 dL_law_1693 dL_law_1695 dL_law_1696 dL_law_1697 (by omega) ?_
  refine a_arg X 2 ic_2 dL_law_1698 dL_law_1699 dL_law_1701 dL_law_1702 dL_law_1703 (by omega) ?_
  refine a_cVi (As := [.int (xs (i + 1)), .int (xs (i + 2))]) (st := [.int r1]) X.1 fw4 iz_200 (cX4_coarse_ok l (h2 M1 (hM.fr f1) (fun r2 M2 => r2 = r1 ∧ MS S' M2 ∧ Fr 200 299 M1 M2) (fun M2 a b => ⟨rfl, a, b⟩))) mlL_170 mvX4_coarse ⟨⟨rfl, rfl⟩, ⟨Nat.le_of_ble_eq_true rfl, Nat.le_of_ble_eq_true rfl⟩, hR.1, hR.2⟩ (Nat.le_of_ble_eq_true rfl) rfl dL_law_1704 (fun r2 M2 q => ?_)
  obtain ⟨hr, hM2, f2⟩ := q
  refine a_icmp_eq (tgt := 2116) X.1 dL_law_1707 (by decide) (fun z => ?_) (fun z => absurd hr.symm z)
  exact K S' M2 (hC1.fr hG' f2) hM2 hG'
set_option maxHeartbeats 4000000 in
set_option maxRecDepth 100000 in
/-- spread -/
theorem lc_36 {p : Program} {l : Launch} {e : Env} {s : State} {m : MethodId} {args : Array Value} {below : List Frame} {meth : Method} {c : Code} {G : Gl} {al : Nat → Nat} {mk cs ss : Nat} {Q : State → Prop} {M : Mem} {S : Gs} {b L i : Nat} {xs : Nat → Int32} (X : Lx p s m meth c G b L xs) (hC : CS mk S M) (hM : MS S M) (hG : GI S) (hi : i + 5 < L) (hR : cs ≤ room_1.cells ∧ ss ≤ room_1.slots) (K : ∀ S' M', CS mk S' M' → MS S' M' → GI S' → Wa p l e room_1 s m args below meth c 7 G al mk cs ss Q M' 2116 (lwl al b i) []) : Wa p l e room_1 s m args below meth c 7 G al mk cs ss Q M 1712 (lwl al b i) [] := by
  obtain ⟨S', r, hG', h1, h2⟩ := op_spread hC hG (xs (i + 1)) (xs (i + 2))
  refine a_aload_n X.1 dL_law_1712 rfl 1 rfl ?_
  refine a_arg X 1 ic_1 dL_law_1713 dL_law_1714 dL_law_1716 dL_law_1717 dL_law_1718 (by omega) ?_
  refine a_arg X 2 ic_2 dL_law_1719 dL_law_1720 dL_law_1722 dL_law_1723 dL_law_1724 (by omega) ?_
  refine a_cVi (As := [.int (xs (i + 1)), .int (xs (i + 2))]) (st := []) X.1 fw3 iz_0 (cX3_spread_ok l (h1 (fun r1 M1 => r1 = r ∧ CS mk S' M1 ∧ Fr 0 199 M M1) (fun M1 a b => ⟨rfl, a, b⟩))) mlL_171 mvX3_spread ⟨⟨rfl, rfl⟩, ⟨Nat.le_of_ble_eq_true rfl, Nat.le_of_ble_eq_true rfl⟩, hR.1, hR.2⟩ (Nat.le_of_ble_eq_true rfl) rfl dL_law_1725 (fun r1 M1 q => ?_)
  obtain ⟨hr, hC1, f1⟩ := q
  subst hr
  refine a_aload_n X.1 dL_law_1728 rfl 2 rfl ?_
  refine a_arg X 1 ic_1 dL_law_1729 dL_law_1730 dL_law_1732 dL_law_1733 dL_law_1734 (by omega) ?_
  refine a_arg X 2 ic_2 dL_law_1735 dL_law_1736 dL_law_1738 dL_law_1739 dL_law_1740 (by omega) ?_
  refine a_cVi (As := [.int (xs (i + 1)), .int (xs (i + 2))]) (st := [.int r1]) X.1 fw4 iz_200 (cX4_spread_ok l (h2 M1 (hM.fr f1) (fun r2 M2 => r2 = r1 ∧ MS S' M2 ∧ Fr 200 299 M1 M2) (fun M2 a b => ⟨rfl, a, b⟩))) mlL_174 mvX4_spread ⟨⟨rfl, rfl⟩, ⟨Nat.le_of_ble_eq_true rfl, Nat.le_of_ble_eq_true rfl⟩, hR.1, hR.2⟩ (Nat.le_of_ble_eq_true rfl) rfl dL_law_1741 (fun r2 M2 q => ?_)
  obtain ⟨hr, hM2, f2⟩ := q
  refine a_icmp_eq (tgt := 2116) X.1 dL_law_1744 (by decide) (fun z => ?_) (fun z => absurd hr.symm z)
  exact K S' M2 (hC1.fr hG' f2) hM2 hG'
set_option maxHeartbeats 4000000 in
set_option maxRecDepth 100000 in
/-- finest -/
theorem lc_37 {p : Program} {l : Launch} {e : Env} {s : State} {m : MethodId} {args : Array Value} {below : List Frame} {meth : Method} {c : Code} {G : Gl} {al : Nat → Nat} {mk cs ss : Nat} {Q : State → Prop} {M : Mem} {S : Gs} {b L i : Nat} {xs : Nat → Int32} (X : Lx p s m meth c G b L xs) (hC : CS mk S M) (hM : MS S M) (hG : GI S) (hi : i + 5 < L) (hR : cs ≤ room_1.cells ∧ ss ≤ room_1.slots) (K : ∀ S' M', CS mk S' M' → MS S' M' → GI S' → Wa p l e room_1 s m args below meth c 7 G al mk cs ss Q M' 2116 (lwl al b i) []) : Wa p l e room_1 s m args below meth c 7 G al mk cs ss Q M 1749 (lwl al b i) [] := by
  obtain ⟨S', r, hG', h1, h2⟩ := op_finest hC hG (xs (i + 1))
  refine a_aload_n X.1 dL_law_1749 rfl 1 rfl ?_
  refine a_arg X 1 ic_1 dL_law_1750 dL_law_1751 dL_law_1753 dL_law_1754 dL_law_1755 (by omega) ?_
  refine a_cVi (As := [.int (xs (i + 1))]) (st := []) X.1 fw3 iz_0 (cX3_finest_ok l (h1 (fun r1 M1 => r1 = r ∧ CS mk S' M1 ∧ Fr 0 199 M M1) (fun M1 a b => ⟨rfl, a, b⟩))) mlL_175 mvX3_finest ⟨⟨rfl, rfl⟩, ⟨Nat.le_of_ble_eq_true rfl, Nat.le_of_ble_eq_true rfl⟩, hR.1, hR.2⟩ (Nat.le_of_ble_eq_true rfl) rfl dL_law_1756 (fun r1 M1 q => ?_)
  obtain ⟨hr, hC1, f1⟩ := q
  subst hr
  refine a_aload_n X.1 dL_law_1759 rfl 2 rfl ?_
  refine a_arg X 1 ic_1 dL_law_1760 dL_law_1761 dL_law_1763 dL_law_1764 dL_law_1765 (by omega) ?_
  refine a_cVi (As := [.int (xs (i + 1))]) (st := [.int r1]) X.1 fw4 iz_200 (cX4_finest_ok l (h2 M1 (hM.fr f1) (fun r2 M2 => r2 = r1 ∧ MS S' M2 ∧ Fr 200 299 M1 M2) (fun M2 a b => ⟨rfl, a, b⟩))) mlL_178 mvX4_finest ⟨⟨rfl, rfl⟩, ⟨Nat.le_of_ble_eq_true rfl, Nat.le_of_ble_eq_true rfl⟩, hR.1, hR.2⟩ (Nat.le_of_ble_eq_true rfl) rfl dL_law_1766 (fun r2 M2 q => ?_)
  obtain ⟨hr, hM2, f2⟩ := q
  refine a_icmp_eq (tgt := 2116) X.1 dL_law_1769 (by decide) (fun z => ?_) (fun z => absurd hr.symm z)
  exact K S' M2 (hC1.fr hG' f2) hM2 hG'
set_option maxHeartbeats 4000000 in
set_option maxRecDepth 100000 in
/-- push -/
theorem lc_38 {p : Program} {l : Launch} {e : Env} {s : State} {m : MethodId} {args : Array Value} {below : List Frame} {meth : Method} {c : Code} {G : Gl} {al : Nat → Nat} {mk cs ss : Nat} {Q : State → Prop} {M : Mem} {S : Gs} {b L i : Nat} {xs : Nat → Int32} (X : Lx p s m meth c G b L xs) (hC : CS mk S M) (hM : MS S M) (hG : GI S) (hi : i + 5 < L) (hR : cs ≤ room_1.cells ∧ ss ≤ room_1.slots) (K : ∀ S' M', CS mk S' M' → MS S' M' → GI S' → Wa p l e room_1 s m args below meth c 7 G al mk cs ss Q M' 2116 (lwl al b i) []) : Wa p l e room_1 s m args below meth c 7 G al mk cs ss Q M 1774 (lwl al b i) [] := by
  obtain ⟨S', r, hG', h1, h2⟩ := op_push hC hG (xs (i + 1)) (xs (i + 2))
  refine a_aload_n X.1 dL_law_1774 rfl 1 rfl ?_
  refine a_arg X 1 ic_1 dL_law_1775 dL_law_1776 dL_law_1778 dL_law_1779 dL_law_1780 (by omega) ?_
  refine a_arg X 2 ic_2 dL_law_1781 dL_law_1782 dL_law_1784 dL_law_1785 dL_law_1786 (by omega) ?_
  refine a_cVi (As := [.int (xs (i + 1)), .int (xs (i + 2))]) (st := []) X.1 fw3 iz_0 (cX3_push_ok l (h1 (fun r1 M1 => r1 = r ∧ CS mk S' M1 ∧ Fr 0 199 M M1) (fun M1 a b => ⟨rfl, a, b⟩))) mlL_179 mvX3_push ⟨⟨rfl, rfl⟩, ⟨Nat.le_of_ble_eq_true rfl, Nat.le_of_ble_eq_true rfl⟩, hR.1, hR.2⟩ (Nat.le_of_ble_eq_true rfl) rfl dL_law_1787 (fun r1 M1 q => ?_)
  obtain ⟨hr, hC1, f1⟩ := q
  subst hr
  refine a_aload_n X.1 dL_law_1790 rfl 2 rfl ?_
  refine a_arg X 1 ic_1 dL_law_1791 dL_law_1792 dL_law_1794 dL_law_1795 dL_law_1796 (by omega) ?_
  refine a_arg X 2 ic_2 dL_law_1797 dL_law_1798 dL_law_1800 dL_law_1801 dL_law_1802 (by omega) ?_
  refine a_cVi (As := [.int (xs (i + 1)), .int (xs (i + 2))]) (st := [.int r1]) X.1 fw4 iz_200 (cX4_push_ok l (h2 M1 (hM.fr f1) (fun r2 M2 => r2 = r1 ∧ MS S' M2 ∧ Fr 200 299 M1 M2) (fun M2 a b => ⟨rfl, a, b⟩))) mlL_182 mvX4_push ⟨⟨rfl, rfl⟩, ⟨Nat.le_of_ble_eq_true rfl, Nat.le_of_ble_eq_true rfl⟩, hR.1, hR.2⟩ (Nat.le_of_ble_eq_true rfl) rfl dL_law_1803 (fun r2 M2 q => ?_)
  obtain ⟨hr, hM2, f2⟩ := q
  refine a_icmp_eq (tgt := 2116) X.1 dL_law_1806 (by decide) (fun z => ?_) (fun z => absurd hr.symm z)
  exact K S' M2 (hC1.fr hG' f2) hM2 hG'
set_option maxHeartbeats 4000000 in
set_option maxRecDepth 100000 in
/-- draw -/
theorem lc_39 {p : Program} {l : Launch} {e : Env} {s : State} {m : MethodId} {args : Array Value} {below : List Frame} {meth : Method} {c : Code} {G : Gl} {al : Nat → Nat} {mk cs ss : Nat} {Q : State → Prop} {M : Mem} {S : Gs} {b L i : Nat} {xs : Nat → Int32} (X : Lx p s m meth c G b L xs) (hC : CS mk S M) (hM : MS S M) (hG : GI S) (hi : i + 5 < L) (hR : cs ≤ room_1.cells ∧ ss ≤ room_1.slots) (K : ∀ S' M', CS mk S' M' → MS S' M' → GI S' → Wa p l e room_1 s m args below meth c 7 G al mk cs ss Q M' 2116 (lwl al b i) []) : Wa p l e room_1 s m args below meth c 7 G al mk cs ss Q M 1811 (lwl al b i) [] := by
  obtain ⟨S', r, hG', h1, h2⟩ := op_draw hC hG (xs (i + 1)) (xs (i + 2)) (xs (i + 3))
  refine a_aload_n X.1 dL_law_1811 rfl 1 rfl ?_
  refine a_arg X 1 ic_1 dL_law_1812 dL_law_1813 dL_law_1815 dL_law_1816 dL_law_1817 (by omega) ?_
  refine a_arg X 2 ic_2 dL_law_1818 dL_law_1819 dL_law_1821 dL_law_1822 dL_law_1823 (by omega) ?_
  refine a_arg X 3 ic_3 dL_law_1824 dL_law_1825 dL_law_1827 dL_law_1828 dL_law_1829 (by omega) ?_
  refine a_cVi (As := [.int (xs (i + 1)), .int (xs (i + 2)), .int (xs (i + 3))]) (st := []) X.1 fw3 iz_0 (cX3_draw_ok l (h1 (fun r1 M1 => r1 = r ∧ CS mk S' M1 ∧ Fr 0 199 M M1) (fun M1 a b => ⟨rfl, a, b⟩))) mlL_183 mvX3_draw ⟨⟨rfl, rfl⟩, ⟨Nat.le_of_ble_eq_true rfl, Nat.le_of_ble_eq_true rfl⟩, hR.1, hR.2⟩ (Nat.le_of_ble_eq_true rfl) rfl dL_law_1830 (fun r1 M1 q => ?_)
  obtain ⟨hr, hC1, f1⟩ := q
  subst hr
  refine a_aload_n X.1 dL_law_1833 rfl 2 rfl ?_
  refine a_arg X 1 ic_1 dL_law_1834 dL_law_1835 dL_law_1837 dL_law_1838 dL_law_1839 (by omega) ?_
  refine a_arg X 2 ic_2 dL_law_1840 dL_law_1841 dL_law_1843 dL_law_1844 dL_law_1845 (by omega) ?_
  refine a_arg X 3 ic_3 dL_law_1846 dL_law_1847 dL_law_1849 dL_law_1850 dL_law_1851 (by omega) ?_
  refine a_cVi (As := [.int (xs (i + 1)), .int (xs (i + 2)), .int (xs (i + 3))]) (st := [.int r1]) X.1 fw4 iz_200 (cX4_draw_ok l (h2 M1 (hM.fr f1) (fun r2 M2 => r2 = r1 ∧ MS S' M2 ∧ Fr 200 299 M1 M2) (fun M2 a b => ⟨rfl, a, b⟩))) mlL_186 mvX4_draw ⟨⟨rfl, rfl⟩, ⟨Nat.le_of_ble_eq_true rfl, Nat.le_of_ble_eq_true rfl⟩, hR.1, hR.2⟩ (Nat.le_of_ble_eq_true rfl) rfl dL_law_1852 (fun r2 M2 q => ?_)
  obtain ⟨hr, hM2, f2⟩ := q
  refine a_icmp_eq (tgt := 2116) X.1 dL_law_1855 (by decide) (fun z => ?_) (fun z => absurd hr.symm z)
  exact K S' M2 (hC1.fr hG' f2) hM2 hG'
set_option maxHeartbeats 4000000 in
set_option maxRecDepth 100000 in
/-- seed -/
theorem lc_40 {p : Program} {l : Launch} {e : Env} {s : State} {m : MethodId} {args : Array Value} {below : List Frame} {meth : Method} {c : Code} {G : Gl} {al : Nat → Nat} {mk cs ss : Nat} {Q : State → Prop} {M : Mem} {S : Gs} {b L i : Nat} {xs : Nat → Int32} (X : Lx p s m meth c G b L xs) (hC : CS mk S M) (hM : MS S M) (hG : GI S) (hi : i + 5 < L) (hR : cs ≤ room_1.cells ∧ ss ≤ room_1.slots) (K : ∀ S' M', CS mk S' M' → MS S' M' → GI S' → Wa p l e room_1 s m args below meth c 7 G al mk cs ss Q M' 2116 (lwl al b i) []) : Wa p l e room_1 s m args below meth c 7 G al mk cs ss Q M 1860 (lwl al b i) [] := by
  obtain ⟨S', r, hG', h1, h2⟩ := op_seed hC hG (xs (i + 1))
  refine a_aload_n X.1 dL_law_1860 rfl 1 rfl ?_
  refine a_arg X 1 ic_1 dL_law_1861 dL_law_1862 dL_law_1864 dL_law_1865 dL_law_1866 (by omega) ?_
  refine a_cVi (As := [.int (xs (i + 1))]) (st := []) X.1 fw3 iz_0 (cX3_seed_ok l (h1 (fun r1 M1 => r1 = r ∧ CS mk S' M1 ∧ Fr 0 199 M M1) (fun M1 a b => ⟨rfl, a, b⟩))) mlL_187 mvX3_seed ⟨⟨rfl, rfl⟩, ⟨Nat.le_of_ble_eq_true rfl, Nat.le_of_ble_eq_true rfl⟩, hR.1, hR.2⟩ (Nat.le_of_ble_eq_true rfl) rfl dL_law_1867 (fun r1 M1 q => ?_)
  obtain ⟨hr, hC1, f1⟩ := q
  subst hr
  refine a_aload_n X.1 dL_law_1870 rfl 2 rfl ?_
  refine a_arg X 1 ic_1 dL_law_1871 dL_law_1872 dL_law_1874 dL_law_1875 dL_law_1876 (by omega) ?_
  refine a_cVi (As := [.int (xs (i + 1))]) (st := [.int r1]) X.1 fw4 iz_200 (cX4_seed_ok l (h2 M1 (hM.fr f1) (fun r2 M2 => r2 = r1 ∧ MS S' M2 ∧ Fr 200 299 M1 M2) (fun M2 a b => ⟨rfl, a, b⟩))) mlL_191 mvX4_seed ⟨⟨rfl, rfl⟩, ⟨Nat.le_of_ble_eq_true rfl, Nat.le_of_ble_eq_true rfl⟩, hR.1, hR.2⟩ (Nat.le_of_ble_eq_true rfl) rfl dL_law_1877 (fun r2 M2 q => ?_)
  obtain ⟨hr, hM2, f2⟩ := q
  refine a_icmp_eq (tgt := 2116) X.1 dL_law_1880 (by decide) (fun z => ?_) (fun z => absurd hr.symm z)
  exact K S' M2 (hC1.fr hG' f2) hM2 hG'
set_option maxHeartbeats 4000000 in
set_option maxRecDepth 100000 in
/-- compress -/
theorem lc_41 {p : Program} {l : Launch} {e : Env} {s : State} {m : MethodId} {args : Array Value} {below : List Frame} {meth : Method} {c : Code} {G : Gl} {al : Nat → Nat} {mk cs ss : Nat} {Q : State → Prop} {M : Mem} {S : Gs} {b L i : Nat} {xs : Nat → Int32} (X : Lx p s m meth c G b L xs) (hC : CS mk S M) (hM : MS S M) (hG : GI S) (hi : i + 5 < L) (hR : cs ≤ room_1.cells ∧ ss ≤ room_1.slots) (K : ∀ S' M', CS mk S' M' → MS S' M' → GI S' → Wa p l e room_1 s m args below meth c 7 G al mk cs ss Q M' 2116 (lwl al b i) []) : Wa p l e room_1 s m args below meth c 7 G al mk cs ss Q M 1885 (lwl al b i) [] := by
  obtain ⟨S', r, hG', h1, h2⟩ := op_compress hC hG (xs (i + 1))
  refine a_aload_n X.1 dL_law_1885 rfl 1 rfl ?_
  refine a_arg X 1 ic_1 dL_law_1886 dL_law_1887 dL_law_1889 dL_law_1890 dL_law_1891 (by omega) ?_
  refine a_cVi (As := [.int (xs (i + 1))]) (st := []) X.1 fw3 iz_0 (cX3_compress_ok l (h1 (fun r1 M1 => r1 = r ∧ CS mk S' M1 ∧ Fr 0 199 M M1) (fun M1 a b => ⟨rfl, a, b⟩))) mlL_192 mvX3_compress ⟨⟨rfl, rfl⟩, ⟨Nat.le_of_ble_eq_true rfl, Nat.le_of_ble_eq_true rfl⟩, hR.1, hR.2⟩ (Nat.le_of_ble_eq_true rfl) rfl dL_law_1892 (fun r1 M1 q => ?_)
  obtain ⟨hr, hC1, f1⟩ := q
  subst hr
  refine a_aload_n X.1 dL_law_1895 rfl 2 rfl ?_
  refine a_arg X 1 ic_1 dL_law_1896 dL_law_1897 dL_law_1899 dL_law_1900 dL_law_1901 (by omega) ?_
  refine a_cVi (As := [.int (xs (i + 1))]) (st := [.int r1]) X.1 fw4 iz_200 (cX4_compress_ok l (h2 M1 (hM.fr f1) (fun r2 M2 => r2 = r1 ∧ MS S' M2 ∧ Fr 200 299 M1 M2) (fun M2 a b => ⟨rfl, a, b⟩))) mlL_195 mvX4_compress ⟨⟨rfl, rfl⟩, ⟨Nat.le_of_ble_eq_true rfl, Nat.le_of_ble_eq_true rfl⟩, hR.1, hR.2⟩ (Nat.le_of_ble_eq_true rfl) rfl dL_law_1902 (fun r2 M2 q => ?_)
  obtain ⟨hr, hM2, f2⟩ := q
  refine a_icmp_eq (tgt := 2116) X.1 dL_law_1905 (by decide) (fun z => ?_) (fun z => absurd hr.symm z)
  exact K S' M2 (hC1.fr hG' f2) hM2 hG'
set_option maxHeartbeats 4000000 in
set_option maxRecDepth 100000 in
/-- merge -/
theorem lc_42 {p : Program} {l : Launch} {e : Env} {s : State} {m : MethodId} {args : Array Value} {below : List Frame} {meth : Method} {c : Code} {G : Gl} {al : Nat → Nat} {mk cs ss : Nat} {Q : State → Prop} {M : Mem} {S : Gs} {b L i : Nat} {xs : Nat → Int32} (X : Lx p s m meth c G b L xs) (hC : CS mk S M) (hM : MS S M) (hG : GI S) (hi : i + 5 < L) (hR : cs ≤ room_1.cells ∧ ss ≤ room_1.slots) (K : ∀ S' M', CS mk S' M' → MS S' M' → GI S' → Wa p l e room_1 s m args below meth c 7 G al mk cs ss Q M' 2116 (lwl al b i) []) : Wa p l e room_1 s m args below meth c 7 G al mk cs ss Q M 1910 (lwl al b i) [] := by
  obtain ⟨S', r, hG', h1, h2⟩ := op_merge hC hG (xs (i + 1)) (xs (i + 2))
  refine a_aload_n X.1 dL_law_1910 rfl 1 rfl ?_
  refine a_arg X 1 ic_1 dL_law_1911 dL_law_1912 dL_law_1914 dL_law_1915 dL_law_1916 (by omega) ?_
  refine a_arg X 2 ic_2 dL_law_1917 dL_law_1918 dL_law_1920 dL_law_1921 dL_law_1922 (by omega) ?_
  refine a_cVi (As := [.int (xs (i + 1)), .int (xs (i + 2))]) (st := []) X.1 fw3 iz_0 (cX3_merge_ok l (h1 (fun r1 M1 => r1 = r ∧ CS mk S' M1 ∧ Fr 0 199 M M1) (fun M1 a b => ⟨rfl, a, b⟩))) mlL_196 mvX3_merge ⟨⟨rfl, rfl⟩, ⟨Nat.le_of_ble_eq_true rfl, Nat.le_of_ble_eq_true rfl⟩, hR.1, hR.2⟩ (Nat.le_of_ble_eq_true rfl) rfl dL_law_1923 (fun r1 M1 q => ?_)
  obtain ⟨hr, hC1, f1⟩ := q
  subst hr
  refine a_aload_n X.1 dL_law_1926 rfl 2 rfl ?_
  refine a_arg X 1 ic_1 dL_law_1927 dL_law_1928 dL_law_1930 dL_law_1931 dL_law_1932 (by omega) ?_
  refine a_arg X 2 ic_2 dL_law_1933 dL_law_1934 dL_law_1936 dL_law_1937 dL_law_1938 (by omega) ?_
  refine a_cVi (As := [.int (xs (i + 1)), .int (xs (i + 2))]) (st := [.int r1]) X.1 fw4 iz_200 (cX4_merge_ok l (h2 M1 (hM.fr f1) (fun r2 M2 => r2 = r1 ∧ MS S' M2 ∧ Fr 200 299 M1 M2) (fun M2 a b => ⟨rfl, a, b⟩))) mlL_199 mvX4_merge ⟨⟨rfl, rfl⟩, ⟨Nat.le_of_ble_eq_true rfl, Nat.le_of_ble_eq_true rfl⟩, hR.1, hR.2⟩ (Nat.le_of_ble_eq_true rfl) rfl dL_law_1939 (fun r2 M2 q => ?_)
  obtain ⟨hr, hM2, f2⟩ := q
  refine a_icmp_eq (tgt := 2116) X.1 dL_law_1942 (by decide) (fun z => ?_) (fun z => absurd hr.symm z)
  exact K S' M2 (hC1.fr hG' f2) hM2 hG'
set_option maxHeartbeats 4000000 in
set_option maxRecDepth 100000 in
/-- clear -/
theorem lc_43 {p : Program} {l : Launch} {e : Env} {s : State} {m : MethodId} {args : Array Value} {below : List Frame} {meth : Method} {c : Code} {G : Gl} {al : Nat → Nat} {mk cs ss : Nat} {Q : State → Prop} {M : Mem} {S : Gs} {b L i : Nat} {xs : Nat → Int32} (X : Lx p s m meth c G b L xs) (hC : CS mk S M) (hM : MS S M) (hG : GI S) (hi : i + 5 < L) (hR : cs ≤ room_1.cells ∧ ss ≤ room_1.slots) (K : ∀ S' M', CS mk S' M' → MS S' M' → GI S' → Wa p l e room_1 s m args below meth c 7 G al mk cs ss Q M' 2116 (lwl al b i) []) : Wa p l e room_1 s m args below meth c 7 G al mk cs ss Q M 1947 (lwl al b i) [] := by
  obtain ⟨S', r, hG', h1, h2⟩ := op_clear hC hG (xs (i + 1))
  refine a_aload_n X.1 dL_law_1947 rfl 1 rfl ?_
  refine a_arg X 1 ic_1 dL_law_1948 dL_law_1949 dL_law_1951 dL_law_1952 dL_law_1953 (by omega) ?_
  refine a_cVi (As := [.int (xs (i + 1))]) (st := []) X.1 fw3 iz_0 (cX3_clear_ok l (h1 (fun r1 M1 => r1 = r ∧ CS mk S' M1 ∧ Fr 0 199 M M1) (fun M1 a b => ⟨rfl, a, b⟩))) mlL_200 mvX3_clear ⟨⟨rfl, rfl⟩, ⟨Nat.le_of_ble_eq_true rfl, Nat.le_of_ble_eq_true rfl⟩, hR.1, hR.2⟩ (Nat.le_of_ble_eq_true rfl) rfl dL_law_1954 (fun r1 M1 q => ?_)
  obtain ⟨hr, hC1, f1⟩ := q
  subst hr
  refine a_aload_n X.1 dL_law_1957 rfl 2 rfl ?_
  refine a_arg X 1 ic_1 dL_law_1958 dL_law_1959 dL_law_1961 dL_law_1962 dL_law_1963 (by omega) ?_
  refine a_cVi (As := [.int (xs (i + 1))]) (st := [.int r1]) X.1 fw4 iz_200 (cX4_clear_ok l (h2 M1 (hM.fr f1) (fun r2 M2 => r2 = r1 ∧ MS S' M2 ∧ Fr 200 299 M1 M2) (fun M2 a b => ⟨rfl, a, b⟩))) mlL_203 mvX4_clear ⟨⟨rfl, rfl⟩, ⟨Nat.le_of_ble_eq_true rfl, Nat.le_of_ble_eq_true rfl⟩, hR.1, hR.2⟩ (Nat.le_of_ble_eq_true rfl) rfl dL_law_1964 (fun r2 M2 q => ?_)
  obtain ⟨hr, hM2, f2⟩ := q
  refine a_icmp_eq (tgt := 2116) X.1 dL_law_1967 (by decide) (fun z => ?_) (fun z => absurd hr.symm z)
  exact K S' M2 (hC1.fr hG' f2) hM2 hG'
set_option maxHeartbeats 4000000 in
set_option maxRecDepth 100000 in
/-- every -/
theorem lc_44 {p : Program} {l : Launch} {e : Env} {s : State} {m : MethodId} {args : Array Value} {below : List Frame} {meth : Method} {c : Code} {G : Gl} {al : Nat → Nat} {mk cs ss : Nat} {Q : State → Prop} {M : Mem} {S : Gs} {b L i : Nat} {xs : Nat → Int32} (X : Lx p s m meth c G b L xs) (hC : CS mk S M) (hM : MS S M) (hG : GI S) (hi : i + 5 < L) (hR : cs ≤ room_1.cells ∧ ss ≤ room_1.slots) (K : ∀ S' M', CS mk S' M' → MS S' M' → GI S' → Wa p l e room_1 s m args below meth c 7 G al mk cs ss Q M' 2116 (lwl al b i) []) : Wa p l e room_1 s m args below meth c 7 G al mk cs ss Q M 1972 (lwl al b i) [] := by
  obtain ⟨S', r, hG', h1, h2⟩ := op_every hC hG (xs (i + 1)) (xs (i + 2))
  refine a_aload_n X.1 dL_law_1972 rfl 1 rfl ?_
  refine a_arg X 1 ic_1 dL_law_1973 dL_law_1974 dL_law_1976 dL_law_1977 dL_law_1978 (by omega) ?_
  refine a_arg X 2 ic_2 dL_law_1979 dL_law_1980 dL_law_1982 dL_law_1983 dL_law_1984 (by omega) ?_
  refine a_cVi (As := [.int (xs (i + 1)), .int (xs (i + 2))]) (st := []) X.1 fw3 iz_0 (cX3_every_ok l (h1 (fun r1 M1 => r1 = r ∧ CS mk S' M1 ∧ Fr 0 199 M M1) (fun M1 a b => ⟨rfl, a, b⟩))) mlL_204 mvX3_every ⟨⟨rfl, rfl⟩, ⟨Nat.le_of_ble_eq_true rfl, Nat.le_of_ble_eq_true rfl⟩, hR.1, hR.2⟩ (Nat.le_of_ble_eq_true rfl) rfl dL_law_1985 (fun r1 M1 q => ?_)
  obtain ⟨hr, hC1, f1⟩ := q
  subst hr
  refine a_aload_n X.1 dL_law_1988 rfl 2 rfl ?_
  refine a_arg X 1 ic_1 dL_law_1989 dL_law_1990 dL_law_1992 dL_law_1993 dL_law_1994 (by omega) ?_
  refine a_arg X 2 ic_2 dL_law_1995 dL_law_1996 dL_law_1998 dL_law_1999 dL_law_2000 (by omega) ?_
  refine a_cVi (As := [.int (xs (i + 1)), .int (xs (i + 2))]) (st := [.int r1]) X.1 fw4 iz_200 (cX4_every_ok l (h2 M1 (hM.fr f1) (fun r2 M2 => r2 = r1 ∧ MS S' M2 ∧ Fr 200 299 M1 M2) (fun M2 a b => ⟨rfl, a, b⟩))) mlL_207 mvX4_every ⟨⟨rfl, rfl⟩, ⟨Nat.le_of_ble_eq_true rfl, Nat.le_of_ble_eq_true rfl⟩, hR.1, hR.2⟩ (Nat.le_of_ble_eq_true rfl) rfl dL_law_2001 (fun r2 M2 q => ?_)
  obtain ⟨hr, hM2, f2⟩ := q
  refine a_icmp_eq (tgt := 2116) X.1 dL_law_2004 (by decide) (fun z => ?_) (fun z => absurd hr.symm z)
  exact K S' M2 (hC1.fr hG' f2) hM2 hG'
set_option maxHeartbeats 4000000 in
set_option maxRecDepth 100000 in
/-- error -/
theorem lc_45 {p : Program} {l : Launch} {e : Env} {s : State} {m : MethodId} {args : Array Value} {below : List Frame} {meth : Method} {c : Code} {G : Gl} {al : Nat → Nat} {mk cs ss : Nat} {Q : State → Prop} {M : Mem} {S : Gs} {b L i : Nat} {xs : Nat → Int32} (X : Lx p s m meth c G b L xs) (hC : CS mk S M) (hM : MS S M) (hG : GI S) (hi : i + 5 < L) (hR : cs ≤ room_1.cells ∧ ss ≤ room_1.slots) (K : ∀ S' M', CS mk S' M' → MS S' M' → GI S' → Wa p l e room_1 s m args below meth c 7 G al mk cs ss Q M' 2116 (lwl al b i) []) : Wa p l e room_1 s m args below meth c 7 G al mk cs ss Q M 2009 (lwl al b i) [] := by
  obtain ⟨S', r, hG', h1, h2⟩ := op_error hC hG (xs (i + 1))
  refine a_aload_n X.1 dL_law_2009 rfl 1 rfl ?_
  refine a_arg X 1 ic_1 dL_law_2010 dL_law_2011 dL_law_2013 dL_law_2014 dL_law_2015 (by omega) ?_
  refine a_cVi (As := [.int (xs (i + 1))]) (st := []) X.1 fw3 iz_0 (cX3_error_ok l (h1 (fun r1 M1 => r1 = r ∧ CS mk S' M1 ∧ Fr 0 199 M M1) (fun M1 a b => ⟨rfl, a, b⟩))) mlL_208 mvX3_error ⟨⟨rfl, rfl⟩, ⟨Nat.le_of_ble_eq_true rfl, Nat.le_of_ble_eq_true rfl⟩, hR.1, hR.2⟩ (Nat.le_of_ble_eq_true rfl) rfl dL_law_2016 (fun r1 M1 q => ?_)
  obtain ⟨hr, hC1, f1⟩ := q
  subst hr
  refine a_aload_n X.1 dL_law_2019 rfl 2 rfl ?_
  refine a_arg X 1 ic_1 dL_law_2020 dL_law_2021 dL_law_2023 dL_law_2024 dL_law_2025 (by omega) ?_
  refine a_cVi (As := [.int (xs (i + 1))]) (st := [.int r1]) X.1 fw4 iz_200 (cX4_error_ok l (h2 M1 (hM.fr f1) (fun r2 M2 => r2 = r1 ∧ MS S' M2 ∧ Fr 200 299 M1 M2) (fun M2 a b => ⟨rfl, a, b⟩))) mlL_211 mvX4_error ⟨⟨rfl, rfl⟩, ⟨Nat.le_of_ble_eq_true rfl, Nat.le_of_ble_eq_true rfl⟩, hR.1, hR.2⟩ (Nat.le_of_ble_eq_true rfl) rfl dL_law_2026 (fun r2 M2 q => ?_)
  obtain ⟨hr, hM2, f2⟩ := q
  refine a_icmp_eq (tgt := 2116) X.1 dL_law_2029 (by decide) (fun z => ?_) (fun z => absurd hr.symm z)
  exact K S' M2 (hC1.fr hG' f2) hM2 hG'
set_option maxHeartbeats 4000000 in
set_option maxRecDepth 100000 in
/-- size -/
theorem lc_47 {p : Program} {l : Launch} {e : Env} {s : State} {m : MethodId} {args : Array Value} {below : List Frame} {meth : Method} {c : Code} {G : Gl} {al : Nat → Nat} {mk cs ss : Nat} {Q : State → Prop} {M : Mem} {S : Gs} {b L i : Nat} {xs : Nat → Int32} (X : Lx p s m meth c G b L xs) (hC : CS mk S M) (hM : MS S M) (hG : GI S) (hi : i + 5 < L) (hR : cs ≤ room_1.cells ∧ ss ≤ room_1.slots) (K : ∀ S' M', CS mk S' M' → MS S' M' → GI S' → Wa p l e room_1 s m args below meth c 7 G al mk cs ss Q M' 2116 (lwl al b i) []) : Wa p l e room_1 s m args below meth c 7 G al mk cs ss Q M 2090 (lwl al b i) [] := by
  obtain ⟨S', r, hG', h1, h2⟩ := op_size hC hG
  refine a_aload_n X.1 dL_law_2090 rfl 1 rfl ?_
  refine a_cVi (As := []) (st := []) X.1 fw3 iz_0 (cX3_size_ok l (h1 (fun r1 M1 => r1 = r ∧ CS mk S' M1 ∧ Fr 0 199 M M1) (fun M1 a b => ⟨rfl, a, b⟩))) mlL_221 mvX3_size ⟨⟨rfl, rfl⟩, ⟨Nat.le_of_ble_eq_true rfl, Nat.le_of_ble_eq_true rfl⟩, hR.1, hR.2⟩ (Nat.le_of_ble_eq_true rfl) rfl dL_law_2091 (fun r1 M1 q => ?_)
  obtain ⟨hr, hC1, f1⟩ := q
  subst hr
  refine a_aload_n X.1 dL_law_2094 rfl 2 rfl ?_
  refine a_cVi (As := []) (st := [.int r1]) X.1 fw4 iz_200 (cX4_size_ok l (h2 M1 (hM.fr f1) (fun r2 M2 => r2 = r1 ∧ MS S' M2 ∧ Fr 200 299 M1 M2) (fun M2 a b => ⟨rfl, a, b⟩))) mlL_224 mvX4_size ⟨⟨rfl, rfl⟩, ⟨Nat.le_of_ble_eq_true rfl, Nat.le_of_ble_eq_true rfl⟩, hR.1, hR.2⟩ (Nat.le_of_ble_eq_true rfl) rfl dL_law_2095 (fun r2 M2 q => ?_)
  obtain ⟨hr, hM2, f2⟩ := q
  refine a_icmp_eq (tgt := 2116) X.1 dL_law_2098 (by decide) (fun z => ?_) (fun z => absurd hr.symm z)
  exact K S' M2 (hC1.fr hG' f2) hM2 hG'
set_option maxHeartbeats 4000000 in
set_option maxRecDepth 100000 in
/-- trouble -/
theorem lc_48 {p : Program} {l : Launch} {e : Env} {s : State} {m : MethodId} {args : Array Value} {below : List Frame} {meth : Method} {c : Code} {G : Gl} {al : Nat → Nat} {mk cs ss : Nat} {Q : State → Prop} {M : Mem} {S : Gs} {b L i : Nat} {xs : Nat → Int32} (X : Lx p s m meth c G b L xs) (hC : CS mk S M) (hM : MS S M) (hG : GI S) (hi : i + 5 < L) (hR : cs ≤ room_1.cells ∧ ss ≤ room_1.slots) (K : ∀ S' M', CS mk S' M' → MS S' M' → GI S' → Wa p l e room_1 s m args below meth c 7 G al mk cs ss Q M' 2116 (lwl al b i) []) : Wa p l e room_1 s m args below meth c 7 G al mk cs ss Q M 2103 (lwl al b i) [] := by
  obtain ⟨S', r, hG', h1, h2⟩ := op_trouble hC hG
  refine a_aload_n X.1 dL_law_2103 rfl 1 rfl ?_
  refine a_cVi (As := []) (st := []) X.1 fw3 iz_0 (cX3_trouble_ok l (h1 (fun r1 M1 => r1 = r ∧ CS mk S' M1 ∧ Fr 0 199 M M1) (fun M1 a b => ⟨rfl, a, b⟩))) mlL_225 mvX3_trouble ⟨⟨rfl, rfl⟩, ⟨Nat.le_of_ble_eq_true rfl, Nat.le_of_ble_eq_true rfl⟩, hR.1, hR.2⟩ (Nat.le_of_ble_eq_true rfl) rfl dL_law_2104 (fun r1 M1 q => ?_)
  obtain ⟨hr, hC1, f1⟩ := q
  subst hr
  refine a_aload_n X.1 dL_law_2107 rfl 2 rfl ?_
  refine a_cVi (As := []) (st := [.int r1]) X.1 fw4 iz_200 (cX4_trouble_ok l (h2 M1 (hM.fr f1) (fun r2 M2 => r2 = r1 ∧ MS S' M2 ∧ Fr 200 299 M1 M2) (fun M2 a b => ⟨rfl, a, b⟩))) mlL_228 mvX4_trouble ⟨⟨rfl, rfl⟩, ⟨Nat.le_of_ble_eq_true rfl, Nat.le_of_ble_eq_true rfl⟩, hR.1, hR.2⟩ (Nat.le_of_ble_eq_true rfl) rfl dL_law_2108 (fun r2 M2 q => ?_)
  obtain ⟨hr, hM2, f2⟩ := q
  refine a_icmp_eq (tgt := 2116) X.1 dL_law_2111 (by decide) (fun z => ?_) (fun z => absurd hr.symm z)
  exact K S' M2 (hC1.fr hG' f2) hM2 hG'
