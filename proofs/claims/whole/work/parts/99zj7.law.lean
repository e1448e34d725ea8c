/-! ===== the law: cases 42 to 48 (written by gen5.py) ===== -/
theorem dlw_1371 : decode code 1371 = .ok (.aload_n 1, 1) := by decide +kernel
theorem dlw_1372 : decode code 1372 = .ok (.aload_n 0, 1) := by decide +kernel
theorem dlw_1373 : decode code 1373 = .ok (.iload_n 3, 1) := by decide +kernel
theorem dlw_1374 : decode code 1374 = .ok (.iconst 1, 1) := by decide +kernel
theorem dlw_1375 : decode code 1375 = .ok (.iadd, 1) := by decide +kernel
theorem dlw_1376 : decode code 1376 = .ok (.iaload, 1) := by decide +kernel
theorem dlw_1377 : decode code 1377 = .ok (.invokevirtual 196, 3) := by decide +kernel
theorem dlw_1380 : decode code 1380 = .ok (.aload_n 2, 1) := by decide +kernel
theorem dlw_1381 : decode code 1381 = .ok (.aload_n 0, 1) := by decide +kernel
theorem dlw_1382 : decode code 1382 = .ok (.iload_n 3, 1) := by decide +kernel
theorem dlw_1383 : decode code 1383 = .ok (.iconst 1, 1) := by decide +kernel
theorem dlw_1384 : decode code 1384 = .ok (.iadd, 1) := by decide +kernel
theorem dlw_1385 : decode code 1385 = .ok (.iaload, 1) := by decide +kernel
theorem dlw_1386 : decode code 1386 = .ok (.invokevirtual 199, 3) := by decide +kernel
theorem dlw_1389 : decode code 1389 = .ok (.if_icmp .eq 199, 3) := by decide +kernel
theorem lc_42 {l : Launch} {g : GG} {p : Program} {e : Env} {s : State} {m : MethodId} {b : Nat} {below : List Frame} {meth : Method} {c : Code} {Lc : Nat} {xs : Nat → Int32} {σ : SG} {k : Nat} (cx : LC g p s m b meth c Lc xs) (hk : k + 6 ≤ Lc) (hI : IVT σ) (nx : ∀ σ2, IVT σ2 → LX l g p e s m b below meth c 1588 [vA (-33), vA 0, vA 161, vI k] [] σ2) : LX l g p e s m b below meth c 1371 [vA (-33), vA 0, vA 161, vI k] [] σ := by
  refine LX_aload_n cx dlw_1371 rfl (by omega) ?_
  refine LX_arg cx (n := 1) rfl (by omega) dlw_1372 dlw_1373 dlw_1374 dlw_1375 dlw_1376 ?_
  refine LX_callVI cx (d := 30) (N := M_X_grow) (As := [vI ((xs (k + 1)).toInt)]) rfl cv_X_grow rfl (tk6 48 rfl rfl) rfl (Nat.le_of_ble_eq_true rfl) (by decide) dlw_1377 ob_0 ((c_grow (d := 0) hI).mono (fun r1 σ1 h1 => ?_))
  refine LX_aload_n cx dlw_1380 rfl (by omega) ?_
  refine LX_arg cx (n := 1) rfl (by omega) dlw_1381 dlw_1382 dlw_1383 dlw_1384 dlw_1385 ?_
  refine LX_callVI cx (d := 30) (N := M_R_grow) (As := [vI ((xs (k + 1)).toInt)]) rfl cv_R_grow rfl (tk10 68 rfl rfl) rfl (Nat.le_of_ble_eq_true rfl) (by decide) dlw_1386 ob_161 (h1.mono (fun r2 σ2 h2 => ?_))
  exact LX_icmp_eq cx (tgt := 1588) dlw_1389 (by omega) h2.1 (nx σ2 h2.2)
theorem dlw_1394 : decode code 1394 = .ok (.aload_n 1, 1) := by decide +kernel
theorem dlw_1395 : decode code 1395 = .ok (.aload_n 0, 1) := by decide +kernel
theorem dlw_1396 : decode code 1396 = .ok (.iload_n 3, 1) := by decide +kernel
theorem dlw_1397 : decode code 1397 = .ok (.iconst 1, 1) := by decide +kernel
theorem dlw_1398 : decode code 1398 = .ok (.iadd, 1) := by decide +kernel
theorem dlw_1399 : decode code 1399 = .ok (.iaload, 1) := by decide +kernel
theorem dlw_1400 : decode code 1400 = .ok (.invokevirtual 200, 3) := by decide +kernel
theorem dlw_1403 : decode code 1403 = .ok (.aload_n 2, 1) := by decide +kernel
theorem dlw_1404 : decode code 1404 = .ok (.aload_n 0, 1) := by decide +kernel
theorem dlw_1405 : decode code 1405 = .ok (.iload_n 3, 1) := by decide +kernel
theorem dlw_1406 : decode code 1406 = .ok (.iconst 1, 1) := by decide +kernel
theorem dlw_1407 : decode code 1407 = .ok (.iadd, 1) := by decide +kernel
theorem dlw_1408 : decode code 1408 = .ok (.iaload, 1) := by decide +kernel
theorem dlw_1409 : decode code 1409 = .ok (.invokevirtual 203, 3) := by decide +kernel
theorem dlw_1412 : decode code 1412 = .ok (.if_icmp .eq 176, 3) := by decide +kernel
theorem lc_43 {l : Launch} {g : GG} {p : Program} {e : Env} {s : State} {m : MethodId} {b : Nat} {below : List Frame} {meth : Method} {c : Code} {Lc : Nat} {xs : Nat → Int32} {σ : SG} {k : Nat} (cx : LC g p s m b meth c Lc xs) (hk : k + 6 ≤ Lc) (hI : IVT σ) (nx : ∀ σ2, IVT σ2 → LX l g p e s m b below meth c 1588 [vA (-33), vA 0, vA 161, vI k] [] σ2) : LX l g p e s m b below meth c 1394 [vA (-33), vA 0, vA 161, vI k] [] σ := by
  refine LX_aload_n cx dlw_1394 rfl (by omega) ?_
  refine LX_arg cx (n := 1) rfl (by omega) dlw_1395 dlw_1396 dlw_1397 dlw_1398 dlw_1399 ?_
  refine LX_callVI cx (d := 30) (N := M_X_sum) (As := [vI ((xs (k + 1)).toInt)]) rfl cv_X_sum rfl (tk6 61 rfl rfl) rfl (Nat.le_of_ble_eq_true rfl) (by decide) dlw_1400 ob_0 ((c_sum (d := 0) hI).mono (fun r1 σ1 h1 => ?_))
  refine LX_aload_n cx dlw_1403 rfl (by omega) ?_
  refine LX_arg cx (n := 1) rfl (by omega) dlw_1404 dlw_1405 dlw_1406 dlw_1407 dlw_1408 ?_
  refine LX_callVI cx (d := 30) (N := M_R_sum) (As := [vI ((xs (k + 1)).toInt)]) rfl cv_R_sum rfl (tk10 72 rfl rfl) rfl (Nat.le_of_ble_eq_true rfl) (by decide) dlw_1409 ob_161 (h1.mono (fun r2 σ2 h2 => ?_))
  exact LX_icmp_eq cx (tgt := 1588) dlw_1412 (by omega) h2.1 (nx σ2 h2.2)
theorem dlw_1417 : decode code 1417 = .ok (.aload_n 1, 1) := by decide +kernel
theorem dlw_1418 : decode code 1418 = .ok (.aload_n 0, 1) := by decide +kernel
theorem dlw_1419 : decode code 1419 = .ok (.iload_n 3, 1) := by decide +kernel
theorem dlw_1420 : decode code 1420 = .ok (.iconst 1, 1) := by decide +kernel
theorem dlw_1421 : decode code 1421 = .ok (.iadd, 1) := by decide +kernel
theorem dlw_1422 : decode code 1422 = .ok (.iaload, 1) := by decide +kernel
theorem dlw_1423 : decode code 1423 = .ok (.aload_n 0, 1) := by decide +kernel
theorem dlw_1424 : decode code 1424 = .ok (.iload_n 3, 1) := by decide +kernel
theorem dlw_1425 : decode code 1425 = .ok (.iconst 2, 1) := by decide +kernel
theorem dlw_1426 : decode code 1426 = .ok (.iadd, 1) := by decide +kernel
theorem dlw_1427 : decode code 1427 = .ok (.iaload, 1) := by decide +kernel
theorem dlw_1428 : decode code 1428 = .ok (.invokevirtual 204, 3) := by decide +kernel
theorem dlw_1431 : decode code 1431 = .ok (.aload_n 2, 1) := by decide +kernel
theorem dlw_1432 : decode code 1432 = .ok (.aload_n 0, 1) := by decide +kernel
theorem dlw_1433 : decode code 1433 = .ok (.iload_n 3, 1) := by decide +kernel
theorem dlw_1434 : decode code 1434 = .ok (.iconst 1, 1) := by decide +kernel
theorem dlw_1435 : decode code 1435 = .ok (.iadd, 1) := by decide +kernel
theorem dlw_1436 : decode code 1436 = .ok (.iaload, 1) := by decide +kernel
theorem dlw_1437 : decode code 1437 = .ok (.aload_n 0, 1) := by decide +kernel
theorem dlw_1438 : decode code 1438 = .ok (.iload_n 3, 1) := by decide +kernel
theorem dlw_1439 : decode code 1439 = .ok (.iconst 2, 1) := by decide +kernel
theorem dlw_1440 : decode code 1440 = .ok (.iadd, 1) := by decide +kernel
theorem dlw_1441 : decode code 1441 = .ok (.iaload, 1) := by decide +kernel
theorem dlw_1442 : decode code 1442 = .ok (.invokevirtual 207, 3) := by decide +kernel
theorem dlw_1445 : decode code 1445 = .ok (.if_icmp .eq 143, 3) := by decide +kernel
theorem lc_44 {l : Launch} {g : GG} {p : Program} {e : Env} {s : State} {m : MethodId} {b : Nat} {below : List Frame} {meth : Method} {c : Code} {Lc : Nat} {xs : Nat → Int32} {σ : SG} {k : Nat} (cx : LC g p s m b meth c Lc xs) (hk : k + 6 ≤ Lc) (hI : IVT σ) (nx : ∀ σ2, IVT σ2 → LX l g p e s m b below meth c 1588 [vA (-33), vA 0, vA 161, vI k] [] σ2) : LX l g p e s m b below meth c 1417 [vA (-33), vA 0, vA 161, vI k] [] σ := by
  refine LX_aload_n cx dlw_1417 rfl (by omega) ?_
  refine LX_arg cx (n := 1) rfl (by omega) dlw_1418 dlw_1419 dlw_1420 dlw_1421 dlw_1422 ?_
  refine LX_arg cx (n := 2) rfl (by omega) dlw_1423 dlw_1424 dlw_1425 dlw_1426 dlw_1427 ?_
  refine LX_callVI cx (d := 30) (N := M_X_rest) (As := [vI ((xs (k + 1)).toInt), vI ((xs (k + 2)).toInt)]) rfl cv_X_rest rfl (tk6 70 rfl rfl) rfl (Nat.le_of_ble_eq_true rfl) (by decide) dlw_1428 ob_0 ((c_rest (d := 0) hI).mono (fun r1 σ1 h1 => ?_))
  refine LX_aload_n cx dlw_1431 rfl (by omega) ?_
  refine LX_arg cx (n := 1) rfl (by omega) dlw_1432 dlw_1433 dlw_1434 dlw_1435 dlw_1436 ?_
  refine LX_arg cx (n := 2) rfl (by omega) dlw_1437 dlw_1438 dlw_1439 dlw_1440 dlw_1441 ?_
  refine LX_callVI cx (d := 30) (N := M_R_rest) (As := [vI ((xs (k + 1)).toInt), vI ((xs (k + 2)).toInt)]) rfl cv_R_rest rfl (tk10 80 rfl rfl) rfl (Nat.le_of_ble_eq_true rfl) (by decide) dlw_1442 ob_161 (h1.mono (fun r2 σ2 h2 => ?_))
  exact LX_icmp_eq cx (tgt := 1588) dlw_1445 (by omega) h2.1 (nx σ2 h2.2)
theorem dlw_1450 : decode code 1450 = .ok (.aload_n 1, 1) := by decide +kernel
theorem dlw_1451 : decode code 1451 = .ok (.aload_n 0, 1) := by decide +kernel
theorem dlw_1452 : decode code 1452 = .ok (.iload_n 3, 1) := by decide +kernel
theorem dlw_1453 : decode code 1453 = .ok (.iconst 1, 1) := by decide +kernel
theorem dlw_1454 : decode code 1454 = .ok (.iadd, 1) := by decide +kernel
theorem dlw_1455 : decode code 1455 = .ok (.iaload, 1) := by decide +kernel
theorem dlw_1456 : decode code 1456 = .ok (.aload_n 0, 1) := by decide +kernel
theorem dlw_1457 : decode code 1457 = .ok (.iload_n 3, 1) := by decide +kernel
theorem dlw_1458 : decode code 1458 = .ok (.iconst 2, 1) := by decide +kernel
theorem dlw_1459 : decode code 1459 = .ok (.iadd, 1) := by decide +kernel
theorem dlw_1460 : decode code 1460 = .ok (.iaload, 1) := by decide +kernel
theorem dlw_1461 : decode code 1461 = .ok (.invokevirtual 208, 3) := by decide +kernel
theorem dlw_1464 : decode code 1464 = .ok (.aload_n 2, 1) := by decide +kernel
theorem dlw_1465 : decode code 1465 = .ok (.aload_n 0, 1) := by decide +kernel
theorem dlw_1466 : decode code 1466 = .ok (.iload_n 3, 1) := by decide +kernel
theorem dlw_1467 : decode code 1467 = .ok (.iconst 1, 1) := by decide +kernel
theorem dlw_1468 : decode code 1468 = .ok (.iadd, 1) := by decide +kernel
theorem dlw_1469 : decode code 1469 = .ok (.iaload, 1) := by decide +kernel
theorem dlw_1470 : decode code 1470 = .ok (.aload_n 0, 1) := by decide +kernel
theorem dlw_1471 : decode code 1471 = .ok (.iload_n 3, 1) := by decide +kernel
theorem dlw_1472 : decode code 1472 = .ok (.iconst 2, 1) := by decide +kernel
theorem dlw_1473 : decode code 1473 = .ok (.iadd, 1) := by decide +kernel
theorem dlw_1474 : decode code 1474 = .ok (.iaload, 1) := by decide +kernel
theorem dlw_1475 : decode code 1475 = .ok (.invokevirtual 211, 3) := by decide +kernel
theorem dlw_1478 : decode code 1478 = .ok (.if_icmp .eq 110, 3) := by decide +kernel
theorem lc_45 {l : Launch} {g : GG} {p : Program} {e : Env} {s : State} {m : MethodId} {b : Nat} {below : List Frame} {meth : Method} {c : Code} {Lc : Nat} {xs : Nat → Int32} {σ : SG} {k : Nat} (cx : LC g p s m b meth c Lc xs) (hk : k + 6 ≤ Lc) (hI : IVT σ) (nx : ∀ σ2, IVT σ2 → LX l g p e s m b below meth c 1588 [vA (-33), vA 0, vA 161, vI k] [] σ2) : LX l g p e s m b below meth c 1450 [vA (-33), vA 0, vA 161, vI k] [] σ := by
  refine LX_aload_n cx dlw_1450 rfl (by omega) ?_
  refine LX_arg cx (n := 1) rfl (by omega) dlw_1451 dlw_1452 dlw_1453 dlw_1454 dlw_1455 ?_
  refine LX_arg cx (n := 2) rfl (by omega) dlw_1456 dlw_1457 dlw_1458 dlw_1459 dlw_1460 ?_
  refine LX_callVI cx (d := 30) (N := M_X_takeOut) (As := [vI ((xs (k + 1)).toInt), vI ((xs (k + 2)).toInt)]) rfl cv_X_takeOut rfl (tk6 92 rfl rfl) rfl (Nat.le_of_ble_eq_true rfl) (by decide) dlw_1461 ob_0 ((c_takeOut (d := 0) hI).mono (fun r1 σ1 h1 => ?_))
  refine LX_aload_n cx dlw_1464 rfl (by omega) ?_
  refine LX_arg cx (n := 1) rfl (by omega) dlw_1465 dlw_1466 dlw_1467 dlw_1468 dlw_1469 ?_
  refine LX_arg cx (n := 2) rfl (by omega) dlw_1470 dlw_1471 dlw_1472 dlw_1473 dlw_1474 ?_
  refine LX_callVI cx (d := 30) (N := M_R_takeOut) (As := [vI ((xs (k + 1)).toInt), vI ((xs (k + 2)).toInt)]) rfl cv_R_takeOut rfl (tk10 88 rfl rfl) rfl (Nat.le_of_ble_eq_true rfl) (by decide) dlw_1475 ob_161 (h1.mono (fun r2 σ2 h2 => ?_))
  exact LX_icmp_eq cx (tgt := 1588) dlw_1478 (by omega) h2.1 (nx σ2 h2.2)
theorem dlw_1483 : decode code 1483 = .ok (.aload_n 1, 1) := by decide +kernel
theorem dlw_1484 : decode code 1484 = .ok (.aload_n 0, 1) := by decide +kernel
theorem dlw_1485 : decode code 1485 = .ok (.iload_n 3, 1) := by decide +kernel
theorem dlw_1486 : decode code 1486 = .ok (.iconst 1, 1) := by decide +kernel
theorem dlw_1487 : decode code 1487 = .ok (.iadd, 1) := by decide +kernel
theorem dlw_1488 : decode code 1488 = .ok (.iaload, 1) := by decide +kernel
theorem dlw_1489 : decode code 1489 = .ok (.aload_n 0, 1) := by decide +kernel
theorem dlw_1490 : decode code 1490 = .ok (.iload_n 3, 1) := by decide +kernel
theorem dlw_1491 : decode code 1491 = .ok (.iconst 2, 1) := by decide +kernel
theorem dlw_1492 : decode code 1492 = .ok (.iadd, 1) := by decide +kernel
theorem dlw_1493 : decode code 1493 = .ok (.iaload, 1) := by decide +kernel
theorem dlw_1494 : decode code 1494 = .ok (.aload_n 0, 1) := by decide +kernel
theorem dlw_1495 : decode code 1495 = .ok (.iload_n 3, 1) := by decide +kernel
theorem dlw_1496 : decode code 1496 = .ok (.iconst 3, 1) := by decide +kernel
theorem dlw_1497 : decode code 1497 = .ok (.iadd, 1) := by decide +kernel
theorem dlw_1498 : decode code 1498 = .ok (.iaload, 1) := by decide +kernel
theorem dlw_1499 : decode code 1499 = .ok (.invokevirtual 212, 3) := by decide +kernel
theorem dlw_1502 : decode code 1502 = .ok (.aload_n 2, 1) := by decide +kernel
theorem dlw_1503 : decode code 1503 = .ok (.aload_n 0, 1) := by decide +kernel
theorem dlw_1504 : decode code 1504 = .ok (.iload_n 3, 1) := by decide +kernel
theorem dlw_1505 : decode code 1505 = .ok (.iconst 1, 1) := by decide +kernel
theorem dlw_1506 : decode code 1506 = .ok (.iadd, 1) := by decide +kernel
theorem dlw_1507 : decode code 1507 = .ok (.iaload, 1) := by decide +kernel
theorem dlw_1508 : decode code 1508 = .ok (.aload_n 0, 1) := by decide +kernel
theorem dlw_1509 : decode code 1509 = .ok (.iload_n 3, 1) := by decide +kernel
theorem dlw_1510 : decode code 1510 = .ok (.iconst 2, 1) := by decide +kernel
theorem dlw_1511 : decode code 1511 = .ok (.iadd, 1) := by decide +kernel
theorem dlw_1512 : decode code 1512 = .ok (.iaload, 1) := by decide +kernel
theorem dlw_1513 : decode code 1513 = .ok (.aload_n 0, 1) := by decide +kernel
theorem dlw_1514 : decode code 1514 = .ok (.iload_n 3, 1) := by decide +kernel
theorem dlw_1515 : decode code 1515 = .ok (.iconst 3, 1) := by decide +kernel
theorem dlw_1516 : decode code 1516 = .ok (.iadd, 1) := by decide +kernel
theorem dlw_1517 : decode code 1517 = .ok (.iaload, 1) := by decide +kernel
theorem dlw_1518 : decode code 1518 = .ok (.invokevirtual 215, 3) := by decide +kernel
theorem dlw_1521 : decode code 1521 = .ok (.if_icmp .eq 67, 3) := by decide +kernel
theorem lc_46 {l : Launch} {g : GG} {p : Program} {e : Env} {s : State} {m : MethodId} {b : Nat} {below : List Frame} {meth : Method} {c : Code} {Lc : Nat} {xs : Nat → Int32} {σ : SG} {k : Nat} (cx : LC g p s m b meth c Lc xs) (hk : k + 6 ≤ Lc) (hI : IVT σ) (nx : ∀ σ2, IVT σ2 → LX l g p e s m b below meth c 1588 [vA (-33), vA 0, vA 161, vI k] [] σ2) : LX l g p e s m b below meth c 1483 [vA (-33), vA 0, vA 161, vI k] [] σ := by
  refine LX_aload_n cx dlw_1483 rfl (by omega) ?_
  refine LX_arg cx (n := 1) rfl (by omega) dlw_1484 dlw_1485 dlw_1486 dlw_1487 dlw_1488 ?_
  refine LX_arg cx (n := 2) rfl (by omega) dlw_1489 dlw_1490 dlw_1491 dlw_1492 dlw_1493 ?_
  refine LX_arg cx (n := 3) rfl (by omega) dlw_1494 dlw_1495 dlw_1496 dlw_1497 dlw_1498 ?_
  refine LX_callVI cx (d := 30) (N := M_X_tables) (As := [vI ((xs (k + 1)).toInt), vI ((xs (k + 2)).toInt), vI ((xs (k + 3)).toInt)]) rfl cv_X_tables rfl (tk6 100 rfl rfl) rfl (Nat.le_of_ble_eq_true rfl) (by decide) dlw_1499 ob_0 ((c_tables (d := 0) hI).mono (fun r1 σ1 h1 => ?_))
  refine LX_aload_n cx dlw_1502 rfl (by omega) ?_
  refine LX_arg cx (n := 1) rfl (by omega) dlw_1503 dlw_1504 dlw_1505 dlw_1506 dlw_1507 ?_
  refine LX_arg cx (n := 2) rfl (by omega) dlw_1508 dlw_1509 dlw_1510 dlw_1511 dlw_1512 ?_
  refine LX_arg cx (n := 3) rfl (by omega) dlw_1513 dlw_1514 dlw_1515 dlw_1516 dlw_1517 ?_
  refine LX_callVI cx (d := 30) (N := M_R_tables) (As := [vI ((xs (k + 1)).toInt), vI ((xs (k + 2)).toInt), vI ((xs (k + 3)).toInt)]) rfl cv_R_tables rfl (tk10 92 rfl rfl) rfl (Nat.le_of_ble_eq_true rfl) (by decide) dlw_1518 ob_161 (h1.mono (fun r2 σ2 h2 => ?_))
  exact LX_icmp_eq cx (tgt := 1588) dlw_1521 (by omega) h2.1 (nx σ2 h2.2)
theorem dlw_1526 : decode code 1526 = .ok (.aload_n 1, 1) := by decide +kernel
theorem dlw_1527 : decode code 1527 = .ok (.invokevirtual 216, 3) := by decide +kernel
theorem dlw_1530 : decode code 1530 = .ok (.aload_n 2, 1) := by decide +kernel
theorem dlw_1531 : decode code 1531 = .ok (.invokevirtual 219, 3) := by decide +kernel
theorem dlw_1534 : decode code 1534 = .ok (.if_icmp .eq 54, 3) := by decide +kernel
theorem lc_47 {l : Launch} {g : GG} {p : Program} {e : Env} {s : State} {m : MethodId} {b : Nat} {below : List Frame} {meth : Method} {c : Code} {Lc : Nat} {xs : Nat → Int32} {σ : SG} {k : Nat} (cx : LC g p s m b meth c Lc xs) (hk : k + 6 ≤ Lc) (hI : IVT σ) (nx : ∀ σ2, IVT σ2 → LX l g p e s m b below meth c 1588 [vA (-33), vA 0, vA 161, vI k] [] σ2) : LX l g p e s m b below meth c 1526 [vA (-33), vA 0, vA 161, vI k] [] σ := by
  refine LX_aload_n cx dlw_1526 rfl (by omega) ?_
  refine LX_callVI cx (d := 30) (N := M_X_run) (As := []) rfl cv_X_run rfl (tk6 119 rfl rfl) rfl (Nat.le_of_ble_eq_true rfl) (by decide) dlw_1527 ob_0 ((c_run (d := 0) hI).mono (fun r1 σ1 h1 => ?_))
  refine LX_aload_n cx dlw_1530 rfl (by omega) ?_
  refine LX_callVI cx (d := 30) (N := M_R_run) (As := []) rfl cv_R_run rfl (tk10 152 rfl rfl) rfl (Nat.le_of_ble_eq_true rfl) (by decide) dlw_1531 ob_161 (h1.mono (fun r2 σ2 h2 => ?_))
  exact LX_icmp_eq cx (tgt := 1588) dlw_1534 (by omega) h2.1 (nx σ2 h2.2)
theorem dlw_1539 : decode code 1539 = .ok (.aload_n 1, 1) := by decide +kernel
theorem dlw_1540 : decode code 1540 = .ok (.aload_n 0, 1) := by decide +kernel
theorem dlw_1541 : decode code 1541 = .ok (.iload_n 3, 1) := by decide +kernel
theorem dlw_1542 : decode code 1542 = .ok (.iconst 1, 1) := by decide +kernel
theorem dlw_1543 : decode code 1543 = .ok (.iadd, 1) := by decide +kernel
theorem dlw_1544 : decode code 1544 = .ok (.iaload, 1) := by decide +kernel
theorem dlw_1545 : decode code 1545 = .ok (.invokevirtual 220, 3) := by decide +kernel
theorem dlw_1548 : decode code 1548 = .ok (.aload_n 2, 1) := by decide +kernel
theorem dlw_1549 : decode code 1549 = .ok (.aload_n 0, 1) := by decide +kernel
theorem dlw_1550 : decode code 1550 = .ok (.iload_n 3, 1) := by decide +kernel
theorem dlw_1551 : decode code 1551 = .ok (.iconst 1, 1) := by decide +kernel
theorem dlw_1552 : decode code 1552 = .ok (.iadd, 1) := by decide +kernel
theorem dlw_1553 : decode code 1553 = .ok (.iaload, 1) := by decide +kernel
theorem dlw_1554 : decode code 1554 = .ok (.invokevirtual 223, 3) := by decide +kernel
theorem dlw_1557 : decode code 1557 = .ok (.if_icmp .eq 31, 3) := by decide +kernel
theorem lc_48 {l : Launch} {g : GG} {p : Program} {e : Env} {s : State} {m : MethodId} {b : Nat} {below : List Frame} {meth : Method} {c : Code} {Lc : Nat} {xs : Nat → Int32} {σ : SG} {k : Nat} (cx : LC g p s m b meth c Lc xs) (hk : k + 6 ≤ Lc) (hI : IVT σ) (nx : ∀ σ2, IVT σ2 → LX l g p e s m b below meth c 1588 [vA (-33), vA 0, vA 161, vI k] [] σ2) : LX l g p e s m b below meth c 1539 [vA (-33), vA 0, vA 161, vI k] [] σ := by
  refine LX_aload_n cx dlw_1539 rfl (by omega) ?_
  refine LX_arg cx (n := 1) rfl (by omega) dlw_1540 dlw_1541 dlw_1542 dlw_1543 dlw_1544 ?_
  refine LX_callVI cx (d := 30) (N := M_X_ran) (As := [vI ((xs (k + 1)).toInt)]) rfl cv_X_ran rfl (tk6 174 rfl rfl) rfl (Nat.le_of_ble_eq_true rfl) (by decide) dlw_1545 ob_0 ((c_ran (d := 0) hI).mono (fun r1 σ1 h1 => ?_))
  refine LX_aload_n cx dlw_1548 rfl (by omega) ?_
  refine LX_arg cx (n := 1) rfl (by omega) dlw_1549 dlw_1550 dlw_1551 dlw_1552 dlw_1553 ?_
  refine LX_callVI cx (d := 30) (N := M_R_ran) (As := [vI ((xs (k + 1)).toInt)]) rfl cv_R_ran rfl (tk10 180 rfl rfl) rfl (Nat.le_of_ble_eq_true rfl) (by decide) dlw_1554 ob_161 (h1.mono (fun r2 σ2 h2 => ?_))
  exact LX_icmp_eq cx (tgt := 1588) dlw_1557 (by omega) h2.1 (nx σ2 h2.2)
