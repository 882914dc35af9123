set_option maxRecDepth 100000 in
set_option maxHeartbeats 4000000 in
theorem kL_law_J1331 {rc0 rs0 : Nat} {K : Int32 → AH → Prop} {c28 : Nat → Nat → Nat → Nat → Nat → Int32 → AH → Prop} (hc28 : ∀ x0 x1 x2 x3 x4 x5 h, c28 x0 x1 x2 x3 x4 x5 h → X mL_law 20 (KI K) T0 rc0 rs0 28 [(0, .ref x0), (1, .ref x1), (2, .ref x2), (3, .ref x3), (4, .ref x4), (5, .int x5)] [] h) (x0 : Nat) (x1 : Nat) (x2 : Nat) (x3 : Nat) (x4 : Nat) (x5 : Int32) (h : AH) (w : wL_law_J1331 K c28 x0 x1 x2 x3 x4 x5 h) : X mL_law 20 (KI K) T0 (rc0 + 4) (rs0 + 24) 1331 [(0, .ref x0), (1, .ref x1), (2, .ref x2), (3, .ref x3), (4, .ref x4), (5, .int x5)] [] h := by
  unfold wL_law_J1331 at w
  refine X_aload_n (j := 1) (show decode cL_law 1331 = .ok (.aload_n 1, 1) by decide +kernel) rfl rfl ?_
  refine X_aload_n (j := 0) (show decode cL_law 1332 = .ok (.aload_n 0, 1) by decide +kernel) rfl rfl ?_
  refine X_iload (j := 5) (show decode cL_law 1333 = .ok (.iload 5, 2) by decide +kernel) rfl ?_
  refine X_iconst (v := (nI 1)) (show decode cL_law 1335 = .ok (.iconst 1, 1) by decide +kernel) (by decide) ?_
  refine X_iadd (show decode cL_law 1336 = .ok (.iadd, 1) by decide +kernel) ?_
  obtain ⟨s322, w⟩ := w
  obtain ⟨s323, w⟩ := w
  refine X_iald (show decode cL_law 1337 = .ok (.iaload, 1) by decide +kernel) (isA_eq s322) s323 ?_
  refine X_aload_n (j := 0) (show decode cL_law 1338 = .ok (.aload_n 0, 1) by decide +kernel) rfl rfl ?_
  refine X_iload (j := 5) (show decode cL_law 1339 = .ok (.iload 5, 2) by decide +kernel) rfl ?_
  refine X_iconst (v := (nI 2)) (show decode cL_law 1341 = .ok (.iconst 2, 1) by decide +kernel) (by decide) ?_
  refine X_iadd (show decode cL_law 1342 = .ok (.iadd, 1) by decide +kernel) ?_
  obtain ⟨s324, w⟩ := w
  refine X_iald (show decode cL_law 1343 = .ok (.iaload, 1) by decide +kernel) (isA_eq s322) s324 ?_
  refine X_aload_n (j := 0) (show decode cL_law 1344 = .ok (.aload_n 0, 1) by decide +kernel) rfl rfl ?_
  refine X_iload (j := 5) (show decode cL_law 1345 = .ok (.iload 5, 2) by decide +kernel) rfl ?_
  refine X_iconst (v := (nI 3)) (show decode cL_law 1347 = .ok (.iconst 3, 1) by decide +kernel) (by decide) ?_
  refine X_iadd (show decode cL_law 1348 = .ok (.iadd, 1) by decide +kernel) ?_
  obtain ⟨s325, w⟩ := w
  refine X_iald (show decode cL_law 1349 = .ok (.iaload, 1) by decide +kernel) (isA_eq s322) s325 ?_
  refine X_aload_n (j := 3) (show decode cL_law 1350 = .ok (.aload_n 3, 1) by decide +kernel) rfl rfl ?_
  refine X_sH (rc' := rc0) (rs' := rs0) (as := [.ref _, .int _, .int _, .int _, .ref _]) msh_L_225 (show decode cL_law 1351 = .ok (.invokestatic 225, 3) by decide +kernel) (by decide) (by omega) (by omega) rfl rfl (Nat.le_of_ble_eq_true rfl) (kL_routeBlock w) (fun r327 h326 w => ?_)
  refine X_istore (ls' := [(0, .ref _), (1, .ref _), (2, .ref _), (3, .ref _), (4, .ref _), (5, .int _), (6, .int _)]) (show decode cL_law 1354 = .ok (.istore 6, 2) by decide +kernel) (by decide) rfl ?_
  refine X_aload_n (j := 2) (show decode cL_law 1356 = .ok (.aload_n 2, 1) by decide +kernel) rfl rfl ?_
  refine X_aload_n (j := 0) (show decode cL_law 1357 = .ok (.aload_n 0, 1) by decide +kernel) rfl rfl ?_
  refine X_iload (j := 5) (show decode cL_law 1358 = .ok (.iload 5, 2) by decide +kernel) rfl ?_
  refine X_iconst (v := (nI 1)) (show decode cL_law 1360 = .ok (.iconst 1, 1) by decide +kernel) (by decide) ?_
  refine X_iadd (show decode cL_law 1361 = .ok (.iadd, 1) by decide +kernel) ?_
  obtain ⟨s328, w⟩ := w
  obtain ⟨s329, w⟩ := w
  refine X_iald (show decode cL_law 1362 = .ok (.iaload, 1) by decide +kernel) (isA_eq s328) s329 ?_
  refine X_aload_n (j := 0) (show decode cL_law 1363 = .ok (.aload_n 0, 1) by decide +kernel) rfl rfl ?_
  refine X_iload (j := 5) (show decode cL_law 1364 = .ok (.iload 5, 2) by decide +kernel) rfl ?_
  refine X_iconst (v := (nI 2)) (show decode cL_law 1366 = .ok (.iconst 2, 1) by decide +kernel) (by decide) ?_
  refine X_iadd (show decode cL_law 1367 = .ok (.iadd, 1) by decide +kernel) ?_
  obtain ⟨s330, w⟩ := w
  refine X_iald (show decode cL_law 1368 = .ok (.iaload, 1) by decide +kernel) (isA_eq s328) s330 ?_
  refine X_aload_n (j := 0) (show decode cL_law 1369 = .ok (.aload_n 0, 1) by decide +kernel) rfl rfl ?_
  refine X_iload (j := 5) (show decode cL_law 1370 = .ok (.iload 5, 2) by decide +kernel) rfl ?_
  refine X_iconst (v := (nI 3)) (show decode cL_law 1372 = .ok (.iconst 3, 1) by decide +kernel) (by decide) ?_
  refine X_iadd (show decode cL_law 1373 = .ok (.iadd, 1) by decide +kernel) ?_
  obtain ⟨s331, w⟩ := w
  refine X_iald (show decode cL_law 1374 = .ok (.iaload, 1) by decide +kernel) (isA_eq s328) s331 ?_
  obtain ⟨s342, w⟩ := w
  refine X_vI (rc' := rc0) (rs' := rs0) (as := [.int _, .int _, .int _]) mv_L_227 (show decode cL_law 1375 = .ok (.invokevirtual 227, 3) by decide +kernel) (by decide) (by omega) (by omega) rfl rfl (Nat.le_of_ble_eq_true rfl) (rcvD s342 (by decide) rfl) (kX10_routeBlock w) (fun E h hk => hk.elim) (fun r333 h332 w => ?_)
  refine X_istore (ls' := [(0, .ref _), (1, .ref _), (2, .ref _), (3, .ref _), (4, .ref _), (5, .int _), (6, .int _), (7, .int _)]) (show decode cL_law 1378 = .ok (.istore 7, 2) by decide +kernel) (by decide) rfl ?_
  refine X_aload_n (j := 2) (show decode cL_law 1380 = .ok (.aload_n 2, 1) by decide +kernel) rfl rfl ?_
  obtain ⟨s341, w⟩ := w
  refine X_vI (rc' := rc0) (rs' := rs0) (as := []) mv_L_168 (show decode cL_law 1381 = .ok (.invokevirtual 168, 3) by decide +kernel) (by decide) (by omega) (by omega) rfl rfl (Nat.le_of_ble_eq_true rfl) (rcvD s341 (by decide) rfl) (kX10_thrown w) (fun E h hk => hk.elim) (fun r335 h334 w => ?_)
  refine X_iload (j := 6) (show decode cL_law 1384 = .ok (.iload 6, 2) by decide +kernel) rfl ?_
  refine X_icmp_eq (tgt := 1391) (show decode cL_law 1386 = .ok (.if_icmp .eq 5, 3) by decide +kernel) (by decide) ⟨fun c336 => ?_, fun c336 => ?_⟩
  · have w := w.1 c336
    refine X_iload (j := 6) (show decode cL_law 1391 = .ok (.iload 6, 2) by decide +kernel) rfl ?_
    refine X_if_ne (tgt := 1408) (show decode cL_law 1393 = .ok (.ifCond .ne 15, 3) by decide +kernel) (by decide) ⟨fun c337 => ?_, fun c337 => ?_⟩
    · have w := w.1 c337
      refine X_goto (tgt := 2925) (show decode cL_law 1408 = .ok (.goto 1517, 3) by decide +kernel) (by decide) ?_
      refine X_iinc (j := 5) (v := _ + (nI 4)) (ls' := [(0, .ref _), (1, .ref _), (2, .ref _), (3, .ref _), (4, .ref _), (5, .int _), (6, .int _), (7, .int _)]) (show decode cL_law 2925 = .ok (.iinc 5 4, 3) by decide +kernel) rfl rfl (Nat.le_of_ble_eq_true rfl) rfl ?_
      refine X_goto (tgt := 28) (show decode cL_law 2928 = .ok (.goto (-2900), 3) by decide +kernel) (by decide) ?_
      refine X_pick (ls' := [(0, .ref _), (1, .ref _), (2, .ref _), (3, .ref _), (4, .ref _), (5, .int _)]) [0, 1, 2, 3, 4, 5] rfl ?_
      exact hc28 _ _ _ _ _ _ _ w
    · have w := w.2 c337
      refine X_aload_n (j := 3) (show decode cL_law 1396 = .ok (.aload_n 3, 1) by decide +kernel) rfl rfl ?_
      refine X_iconst (v := (nI 0)) (show decode cL_law 1397 = .ok (.iconst 0, 1) by decide +kernel) (by decide) ?_
      obtain ⟨s338, w⟩ := w
      obtain ⟨s339, w⟩ := w
      refine X_lald (show decode cL_law 1398 = .ok (.laload, 1) by decide +kernel) (isA_eq s338) s339 ?_
      refine X_iload (j := 7) (show decode cL_law 1399 = .ok (.iload 7, 2) by decide +kernel) rfl ?_
      refine X_i2l (show decode cL_law 1401 = .ok (.i2l, 1) by decide +kernel) ?_
      refine X_lcmp (show decode cL_law 1402 = .ok (.lcmp, 1) by decide +kernel) ?_
      refine X_if_eq (tgt := 1408) (show decode cL_law 1403 = .ok (.ifCond .eq 5, 3) by decide +kernel) (by decide) ⟨fun c340 => ?_, fun c340 => ?_⟩
      · have w := w.1 c340
        refine X_goto (tgt := 2925) (show decode cL_law 1408 = .ok (.goto 1517, 3) by decide +kernel) (by decide) ?_
        refine X_iinc (j := 5) (v := _ + (nI 4)) (ls' := [(0, .ref _), (1, .ref _), (2, .ref _), (3, .ref _), (4, .ref _), (5, .int _), (6, .int _), (7, .int _)]) (show decode cL_law 2925 = .ok (.iinc 5 4, 3) by decide +kernel) rfl rfl (Nat.le_of_ble_eq_true rfl) rfl ?_
        refine X_goto (tgt := 28) (show decode cL_law 2928 = .ok (.goto (-2900), 3) by decide +kernel) (by decide) ?_
        refine X_pick (ls' := [(0, .ref _), (1, .ref _), (2, .ref _), (3, .ref _), (4, .ref _), (5, .int _)]) [0, 1, 2, 3, 4, 5] rfl ?_
        exact hc28 _ _ _ _ _ _ _ w
      · have w := w.2 c340
        refine X_iconst (v := (nI 0)) (show decode cL_law 1406 = .ok (.iconst 0, 1) by decide +kernel) (by decide) ?_
        exact X_iret ⟨(show decode cL_law 1407 = .ok (.ireturn, 1) by decide +kernel), .boolean, rfl, (by decide)⟩ ⟨_, rfl, w⟩
  · have w := w.2 c336
    refine X_iconst (v := (nI 0)) (show decode cL_law 1389 = .ok (.iconst 0, 1) by decide +kernel) (by decide) ?_
    exact X_iret ⟨(show decode cL_law 1390 = .ok (.ireturn, 1) by decide +kernel), .boolean, rfl, (by decide)⟩ ⟨_, rfl, w⟩
set_option maxRecDepth 100000 in
set_option maxHeartbeats 4000000 in
theorem kL_law_J1411 {rc0 rs0 : Nat} {K : Int32 → AH → Prop} {c28 : Nat → Nat → Nat → Nat → Nat → Int32 → AH → Prop} (hc28 : ∀ x0 x1 x2 x3 x4 x5 h, c28 x0 x1 x2 x3 x4 x5 h → X mL_law 20 (KI K) T0 rc0 rs0 28 [(0, .ref x0), (1, .ref x1), (2, .ref x2), (3, .ref x3), (4, .ref x4), (5, .int x5)] [] h) (x0 : Nat) (x1 : Nat) (x2 : Nat) (x3 : Nat) (x4 : Nat) (x5 : Int32) (h : AH) (w : wL_law_J1411 K c28 x0 x1 x2 x3 x4 x5 h) : X mL_law 20 (KI K) T0 (rc0 + 2) (rs0 + 12) 1411 [(0, .ref x0), (1, .ref x1), (2, .ref x2), (3, .ref x3), (4, .ref x4), (5, .int x5)] [] h := by
  unfold wL_law_J1411 at w
  refine X_aload_n (j := 1) (show decode cL_law 1411 = .ok (.aload_n 1, 1) by decide +kernel) rfl rfl ?_
  refine X_aload_n (j := 0) (show decode cL_law 1412 = .ok (.aload_n 0, 1) by decide +kernel) rfl rfl ?_
  refine X_iload (j := 5) (show decode cL_law 1413 = .ok (.iload 5, 2) by decide +kernel) rfl ?_
  refine X_iconst (v := (nI 1)) (show decode cL_law 1415 = .ok (.iconst 1, 1) by decide +kernel) (by decide) ?_
  refine X_iadd (show decode cL_law 1416 = .ok (.iadd, 1) by decide +kernel) ?_
  obtain ⟨s343, w⟩ := w
  obtain ⟨s344, w⟩ := w
  refine X_iald (show decode cL_law 1417 = .ok (.iaload, 1) by decide +kernel) (isA_eq s343) s344 ?_
  refine X_aload_n (j := 0) (show decode cL_law 1418 = .ok (.aload_n 0, 1) by decide +kernel) rfl rfl ?_
  refine X_iload (j := 5) (show decode cL_law 1419 = .ok (.iload 5, 2) by decide +kernel) rfl ?_
  refine X_iconst (v := (nI 2)) (show decode cL_law 1421 = .ok (.iconst 2, 1) by decide +kernel) (by decide) ?_
  refine X_iadd (show decode cL_law 1422 = .ok (.iadd, 1) by decide +kernel) ?_
  obtain ⟨s345, w⟩ := w
  refine X_iald (show decode cL_law 1423 = .ok (.iaload, 1) by decide +kernel) (isA_eq s343) s345 ?_
  refine X_aload_n (j := 3) (show decode cL_law 1424 = .ok (.aload_n 3, 1) by decide +kernel) rfl rfl ?_
  refine X_sH (rc' := rc0) (rs' := rs0) (as := [.ref _, .int _, .int _, .ref _]) msh_L_228 (show decode cL_law 1425 = .ok (.invokestatic 228, 3) by decide +kernel) (by decide) (by omega) (by omega) rfl rfl (Nat.le_of_ble_eq_true rfl) (kL_paths w) (fun r347 h346 w => ?_)
  refine X_istore (ls' := [(0, .ref _), (1, .ref _), (2, .ref _), (3, .ref _), (4, .ref _), (5, .int _), (6, .int _)]) (show decode cL_law 1428 = .ok (.istore 6, 2) by decide +kernel) (by decide) rfl ?_
  refine X_aload_n (j := 2) (show decode cL_law 1430 = .ok (.aload_n 2, 1) by decide +kernel) rfl rfl ?_
  refine X_aload_n (j := 0) (show decode cL_law 1431 = .ok (.aload_n 0, 1) by decide +kernel) rfl rfl ?_
  refine X_iload (j := 5) (show decode cL_law 1432 = .ok (.iload 5, 2) by decide +kernel) rfl ?_
  refine X_iconst (v := (nI 1)) (show decode cL_law 1434 = .ok (.iconst 1, 1) by decide +kernel) (by decide) ?_
  refine X_iadd (show decode cL_law 1435 = .ok (.iadd, 1) by decide +kernel) ?_
  obtain ⟨s348, w⟩ := w
  obtain ⟨s349, w⟩ := w
  refine X_iald (show decode cL_law 1436 = .ok (.iaload, 1) by decide +kernel) (isA_eq s348) s349 ?_
  refine X_aload_n (j := 0) (show decode cL_law 1437 = .ok (.aload_n 0, 1) by decide +kernel) rfl rfl ?_
  refine X_iload (j := 5) (show decode cL_law 1438 = .ok (.iload 5, 2) by decide +kernel) rfl ?_
  refine X_iconst (v := (nI 2)) (show decode cL_law 1440 = .ok (.iconst 2, 1) by decide +kernel) (by decide) ?_
  refine X_iadd (show decode cL_law 1441 = .ok (.iadd, 1) by decide +kernel) ?_
  obtain ⟨s350, w⟩ := w
  refine X_iald (show decode cL_law 1442 = .ok (.iaload, 1) by decide +kernel) (isA_eq s348) s350 ?_
  obtain ⟨s361, w⟩ := w
  refine X_vI (rc' := rc0) (rs' := rs0) (as := [.int _, .int _]) mv_L_230 (show decode cL_law 1443 = .ok (.invokevirtual 230, 3) by decide +kernel) (by decide) (by omega) (by omega) rfl rfl (Nat.le_of_ble_eq_true rfl) (rcvD s361 (by decide) rfl) (kX10_paths w) (fun E h hk => hk.elim) (fun r352 h351 w => ?_)
  refine X_istore (ls' := [(0, .ref _), (1, .ref _), (2, .ref _), (3, .ref _), (4, .ref _), (5, .int _), (6, .int _), (7, .int _)]) (show decode cL_law 1446 = .ok (.istore 7, 2) by decide +kernel) (by decide) rfl ?_
  refine X_aload_n (j := 2) (show decode cL_law 1448 = .ok (.aload_n 2, 1) by decide +kernel) rfl rfl ?_
  obtain ⟨s360, w⟩ := w
  refine X_vI (rc' := rc0) (rs' := rs0) (as := []) mv_L_168 (show decode cL_law 1449 = .ok (.invokevirtual 168, 3) by decide +kernel) (by decide) (by omega) (by omega) rfl rfl (Nat.le_of_ble_eq_true rfl) (rcvD s360 (by decide) rfl) (kX10_thrown w) (fun E h hk => hk.elim) (fun r354 h353 w => ?_)
  refine X_iload (j := 6) (show decode cL_law 1452 = .ok (.iload 6, 2) by decide +kernel) rfl ?_
  refine X_icmp_eq (tgt := 1459) (show decode cL_law 1454 = .ok (.if_icmp .eq 5, 3) by decide +kernel) (by decide) ⟨fun c355 => ?_, fun c355 => ?_⟩
  · have w := w.1 c355
    refine X_iload (j := 6) (show decode cL_law 1459 = .ok (.iload 6, 2) by decide +kernel) rfl ?_
    refine X_if_ne (tgt := 1476) (show decode cL_law 1461 = .ok (.ifCond .ne 15, 3) by decide +kernel) (by decide) ⟨fun c356 => ?_, fun c356 => ?_⟩
    · have w := w.1 c356
      refine X_goto (tgt := 2925) (show decode cL_law 1476 = .ok (.goto 1449, 3) by decide +kernel) (by decide) ?_
      refine X_iinc (j := 5) (v := _ + (nI 4)) (ls' := [(0, .ref _), (1, .ref _), (2, .ref _), (3, .ref _), (4, .ref _), (5, .int _), (6, .int _), (7, .int _)]) (show decode cL_law 2925 = .ok (.iinc 5 4, 3) by decide +kernel) rfl rfl (Nat.le_of_ble_eq_true rfl) rfl ?_
      refine X_goto (tgt := 28) (show decode cL_law 2928 = .ok (.goto (-2900), 3) by decide +kernel) (by decide) ?_
      refine X_pick (ls' := [(0, .ref _), (1, .ref _), (2, .ref _), (3, .ref _), (4, .ref _), (5, .int _)]) [0, 1, 2, 3, 4, 5] rfl ?_
      exact hc28 _ _ _ _ _ _ _ w
    · have w := w.2 c356
      refine X_aload_n (j := 3) (show decode cL_law 1464 = .ok (.aload_n 3, 1) by decide +kernel) rfl rfl ?_
      refine X_iconst (v := (nI 0)) (show decode cL_law 1465 = .ok (.iconst 0, 1) by decide +kernel) (by decide) ?_
      obtain ⟨s357, w⟩ := w
      obtain ⟨s358, w⟩ := w
      refine X_lald (show decode cL_law 1466 = .ok (.laload, 1) by decide +kernel) (isA_eq s357) s358 ?_
      refine X_iload (j := 7) (show decode cL_law 1467 = .ok (.iload 7, 2) by decide +kernel) rfl ?_
      refine X_i2l (show decode cL_law 1469 = .ok (.i2l, 1) by decide +kernel) ?_
      refine X_lcmp (show decode cL_law 1470 = .ok (.lcmp, 1) by decide +kernel) ?_
      refine X_if_eq (tgt := 1476) (show decode cL_law 1471 = .ok (.ifCond .eq 5, 3) by decide +kernel) (by decide) ⟨fun c359 => ?_, fun c359 => ?_⟩
      · have w := w.1 c359
        refine X_goto (tgt := 2925) (show decode cL_law 1476 = .ok (.goto 1449, 3) by decide +kernel) (by decide) ?_
        refine X_iinc (j := 5) (v := _ + (nI 4)) (ls' := [(0, .ref _), (1, .ref _), (2, .ref _), (3, .ref _), (4, .ref _), (5, .int _), (6, .int _), (7, .int _)]) (show decode cL_law 2925 = .ok (.iinc 5 4, 3) by decide +kernel) rfl rfl (Nat.le_of_ble_eq_true rfl) rfl ?_
        refine X_goto (tgt := 28) (show decode cL_law 2928 = .ok (.goto (-2900), 3) by decide +kernel) (by decide) ?_
        refine X_pick (ls' := [(0, .ref _), (1, .ref _), (2, .ref _), (3, .ref _), (4, .ref _), (5, .int _)]) [0, 1, 2, 3, 4, 5] rfl ?_
        exact hc28 _ _ _ _ _ _ _ w
      · have w := w.2 c359
        refine X_iconst (v := (nI 0)) (show decode cL_law 1474 = .ok (.iconst 0, 1) by decide +kernel) (by decide) ?_
        exact X_iret ⟨(show decode cL_law 1475 = .ok (.ireturn, 1) by decide +kernel), .boolean, rfl, (by decide)⟩ ⟨_, rfl, w⟩
  · have w := w.2 c355
    refine X_iconst (v := (nI 0)) (show decode cL_law 1457 = .ok (.iconst 0, 1) by decide +kernel) (by decide) ?_
    exact X_iret ⟨(show decode cL_law 1458 = .ok (.ireturn, 1) by decide +kernel), .boolean, rfl, (by decide)⟩ ⟨_, rfl, w⟩
set_option maxRecDepth 100000 in
set_option maxHeartbeats 4000000 in
theorem kL_law_J1479 {rc0 rs0 : Nat} {K : Int32 → AH → Prop} {c28 : Nat → Nat → Nat → Nat → Nat → Int32 → AH → Prop} (hc28 : ∀ x0 x1 x2 x3 x4 x5 h, c28 x0 x1 x2 x3 x4 x5 h → X mL_law 20 (KI K) T0 rc0 rs0 28 [(0, .ref x0), (1, .ref x1), (2, .ref x2), (3, .ref x3), (4, .ref x4), (5, .int x5)] [] h) (x0 : Nat) (x1 : Nat) (x2 : Nat) (x3 : Nat) (x4 : Nat) (x5 : Int32) (h : AH) (w : wL_law_J1479 K c28 x0 x1 x2 x3 x4 x5 h) : X mL_law 20 (KI K) T0 rc0 rs0 1479 [(0, .ref x0), (1, .ref x1), (2, .ref x2), (3, .ref x3), (4, .ref x4), (5, .int x5)] [] h := by
  unfold wL_law_J1479 at w
  refine X_aload_n (j := 1) (show decode cL_law 1479 = .ok (.aload_n 1, 1) by decide +kernel) rfl rfl ?_
  obtain ⟨s368, w⟩ := w
  refine X_vI (rc' := rc0) (rs' := rs0) (as := []) mv_L_231 (show decode cL_law 1480 = .ok (.invokevirtual 231, 3) by decide +kernel) (by decide) (by omega) (by omega) rfl rfl (Nat.le_of_ble_eq_true rfl) (rcvD s368 (by decide) rfl) (kX9_trains w) (fun E h hk => hk.elim) (fun r363 h362 w => ?_)
  refine X_aload_n (j := 2) (show decode cL_law 1483 = .ok (.aload_n 2, 1) by decide +kernel) rfl rfl ?_
  obtain ⟨s367, w⟩ := w
  refine X_vI (rc' := rc0) (rs' := rs0) (as := []) mv_L_234 (show decode cL_law 1484 = .ok (.invokevirtual 234, 3) by decide +kernel) (by decide) (by omega) (by omega) rfl rfl (Nat.le_of_ble_eq_true rfl) (rcvD s367 (by decide) rfl) (kX10_trains w) (fun E h hk => hk.elim) (fun r365 h364 w => ?_)
  refine X_icmp_eq (tgt := 2925) (show decode cL_law 1487 = .ok (.if_icmp .eq 1438, 3) by decide +kernel) (by decide) ⟨fun c366 => ?_, fun c366 => ?_⟩
  · have w := w.1 c366
    refine X_iinc (j := 5) (v := _ + (nI 4)) (ls' := [(0, .ref _), (1, .ref _), (2, .ref _), (3, .ref _), (4, .ref _), (5, .int _)]) (show decode cL_law 2925 = .ok (.iinc 5 4, 3) by decide +kernel) rfl rfl (Nat.le_of_ble_eq_true rfl) rfl ?_
    refine X_goto (tgt := 28) (show decode cL_law 2928 = .ok (.goto (-2900), 3) by decide +kernel) (by decide) ?_
    exact hc28 _ _ _ _ _ _ _ w
  · have w := w.2 c366
    refine X_iconst (v := (nI 0)) (show decode cL_law 1490 = .ok (.iconst 0, 1) by decide +kernel) (by decide) ?_
    exact X_iret ⟨(show decode cL_law 1491 = .ok (.ireturn, 1) by decide +kernel), .boolean, rfl, (by decide)⟩ ⟨_, rfl, w⟩
set_option maxRecDepth 100000 in
set_option maxHeartbeats 4000000 in
theorem kL_law_J1492 {rc0 rs0 : Nat} {K : Int32 → AH → Prop} {c28 : Nat → Nat → Nat → Nat → Nat → Int32 → AH → Prop} (hc28 : ∀ x0 x1 x2 x3 x4 x5 h, c28 x0 x1 x2 x3 x4 x5 h → X mL_law 20 (KI K) T0 rc0 rs0 28 [(0, .ref x0), (1, .ref x1), (2, .ref x2), (3, .ref x3), (4, .ref x4), (5, .int x5)] [] h) (x0 : Nat) (x1 : Nat) (x2 : Nat) (x3 : Nat) (x4 : Nat) (x5 : Int32) (h : AH) (w : wL_law_J1492 K c28 x0 x1 x2 x3 x4 x5 h) : X mL_law 20 (KI K) T0 rc0 rs0 1492 [(0, .ref x0), (1, .ref x1), (2, .ref x2), (3, .ref x3), (4, .ref x4), (5, .int x5)] [] h := by
  unfold wL_law_J1492 at w
  refine X_aload_n (j := 1) (show decode cL_law 1492 = .ok (.aload_n 1, 1) by decide +kernel) rfl rfl ?_
  refine X_aload_n (j := 0) (show decode cL_law 1493 = .ok (.aload_n 0, 1) by decide +kernel) rfl rfl ?_
  refine X_iload (j := 5) (show decode cL_law 1494 = .ok (.iload 5, 2) by decide +kernel) rfl ?_
  refine X_iconst (v := (nI 1)) (show decode cL_law 1496 = .ok (.iconst 1, 1) by decide +kernel) (by decide) ?_
  refine X_iadd (show decode cL_law 1497 = .ok (.iadd, 1) by decide +kernel) ?_
  obtain ⟨s369, w⟩ := w
  obtain ⟨s370, w⟩ := w
  refine X_iald (show decode cL_law 1498 = .ok (.iaload, 1) by decide +kernel) (isA_eq s369) s370 ?_
  obtain ⟨s379, w⟩ := w
  refine X_vI (rc' := rc0) (rs' := rs0) (as := [.int _]) mv_L_235 (show decode cL_law 1499 = .ok (.invokevirtual 235, 3) by decide +kernel) (by decide) (by omega) (by omega) rfl rfl (Nat.le_of_ble_eq_true rfl) (rcvD s379 (by decide) rfl) (kX9_isPresent w) (fun E h hk => hk.elim) (fun r372 h371 w => ?_)
  refine X_aload_n (j := 2) (show decode cL_law 1502 = .ok (.aload_n 2, 1) by decide +kernel) rfl rfl ?_
  refine X_aload_n (j := 0) (show decode cL_law 1503 = .ok (.aload_n 0, 1) by decide +kernel) rfl rfl ?_
  refine X_iload (j := 5) (show decode cL_law 1504 = .ok (.iload 5, 2) by decide +kernel) rfl ?_
  refine X_iconst (v := (nI 1)) (show decode cL_law 1506 = .ok (.iconst 1, 1) by decide +kernel) (by decide) ?_
  refine X_iadd (show decode cL_law 1507 = .ok (.iadd, 1) by decide +kernel) ?_
  obtain ⟨s373, w⟩ := w
  obtain ⟨s374, w⟩ := w
  refine X_iald (show decode cL_law 1508 = .ok (.iaload, 1) by decide +kernel) (isA_eq s373) s374 ?_
  obtain ⟨s378, w⟩ := w
  refine X_vI (rc' := rc0) (rs' := rs0) (as := [.int _]) mv_L_238 (show decode cL_law 1509 = .ok (.invokevirtual 238, 3) by decide +kernel) (by decide) (by omega) (by omega) rfl rfl (Nat.le_of_ble_eq_true rfl) (rcvD s378 (by decide) rfl) (kX10_isPresent w) (fun E h hk => hk.elim) (fun r376 h375 w => ?_)
  refine X_icmp_eq (tgt := 2925) (show decode cL_law 1512 = .ok (.if_icmp .eq 1413, 3) by decide +kernel) (by decide) ⟨fun c377 => ?_, fun c377 => ?_⟩
  · have w := w.1 c377
    refine X_iinc (j := 5) (v := _ + (nI 4)) (ls' := [(0, .ref _), (1, .ref _), (2, .ref _), (3, .ref _), (4, .ref _), (5, .int _)]) (show decode cL_law 2925 = .ok (.iinc 5 4, 3) by decide +kernel) rfl rfl (Nat.le_of_ble_eq_true rfl) rfl ?_
    refine X_goto (tgt := 28) (show decode cL_law 2928 = .ok (.goto (-2900), 3) by decide +kernel) (by decide) ?_
    exact hc28 _ _ _ _ _ _ _ w
  · have w := w.2 c377
    refine X_iconst (v := (nI 0)) (show decode cL_law 1515 = .ok (.iconst 0, 1) by decide +kernel) (by decide) ?_
    exact X_iret ⟨(show decode cL_law 1516 = .ok (.ireturn, 1) by decide +kernel), .boolean, rfl, (by decide)⟩ ⟨_, rfl, w⟩
set_option maxRecDepth 100000 in
set_option maxHeartbeats 4000000 in
theorem kL_law_J1517 {rc0 rs0 : Nat} {K : Int32 → AH → Prop} {c28 : Nat → Nat → Nat → Nat → Nat → Int32 → AH → Prop} (hc28 : ∀ x0 x1 x2 x3 x4 x5 h, c28 x0 x1 x2 x3 x4 x5 h → X mL_law 20 (KI K) T0 rc0 rs0 28 [(0, .ref x0), (1, .ref x1), (2, .ref x2), (3, .ref x3), (4, .ref x4), (5, .int x5)] [] h) (x0 : Nat) (x1 : Nat) (x2 : Nat) (x3 : Nat) (x4 : Nat) (x5 : Int32) (h : AH) (w : wL_law_J1517 K c28 x0 x1 x2 x3 x4 x5 h) : X mL_law 20 (KI K) T0 (rc0 + 1) (rs0 + 6) 1517 [(0, .ref x0), (1, .ref x1), (2, .ref x2), (3, .ref x3), (4, .ref x4), (5, .int x5)] [] h := by
  unfold wL_law_J1517 at w
  refine X_aload_n (j := 1) (show decode cL_law 1517 = .ok (.aload_n 1, 1) by decide +kernel) rfl rfl ?_
  refine X_aload_n (j := 0) (show decode cL_law 1518 = .ok (.aload_n 0, 1) by decide +kernel) rfl rfl ?_
  refine X_iload (j := 5) (show decode cL_law 1519 = .ok (.iload 5, 2) by decide +kernel) rfl ?_
  refine X_iconst (v := (nI 1)) (show decode cL_law 1521 = .ok (.iconst 1, 1) by decide +kernel) (by decide) ?_
  refine X_iadd (show decode cL_law 1522 = .ok (.iadd, 1) by decide +kernel) ?_
  obtain ⟨s380, w⟩ := w
  obtain ⟨s381, w⟩ := w
  refine X_iald (show decode cL_law 1523 = .ok (.iaload, 1) by decide +kernel) (isA_eq s380) s381 ?_
  refine X_aload_n (j := 3) (show decode cL_law 1524 = .ok (.aload_n 3, 1) by decide +kernel) rfl rfl ?_
  refine X_sH (rc' := rc0) (rs' := rs0) (as := [.ref _, .int _, .ref _]) msh_L_239 (show decode cL_law 1525 = .ok (.invokestatic 239, 3) by decide +kernel) (by decide) (by omega) (by omega) rfl rfl (Nat.le_of_ble_eq_true rfl) (kL_blockOf w) (fun r383 h382 w => ?_)
  refine X_istore (ls' := [(0, .ref _), (1, .ref _), (2, .ref _), (3, .ref _), (4, .ref _), (5, .int _), (6, .int _)]) (show decode cL_law 1528 = .ok (.istore 6, 2) by decide +kernel) (by decide) rfl ?_
  refine X_aload_n (j := 2) (show decode cL_law 1530 = .ok (.aload_n 2, 1) by decide +kernel) rfl rfl ?_
  refine X_aload_n (j := 0) (show decode cL_law 1531 = .ok (.aload_n 0, 1) by decide +kernel) rfl rfl ?_
  refine X_iload (j := 5) (show decode cL_law 1532 = .ok (.iload 5, 2) by decide +kernel) rfl ?_
  refine X_iconst (v := (nI 1)) (show decode cL_law 1534 = .ok (.iconst 1, 1) by decide +kernel) (by decide) ?_
  refine X_iadd (show decode cL_law 1535 = .ok (.iadd, 1) by decide +kernel) ?_
  obtain ⟨s384, w⟩ := w
  obtain ⟨s385, w⟩ := w
  refine X_iald (show decode cL_law 1536 = .ok (.iaload, 1) by decide +kernel) (isA_eq s384) s385 ?_
  obtain ⟨s396, w⟩ := w
  refine X_vI (rc' := rc0) (rs' := rs0) (as := [.int _]) mv_L_241 (show decode cL_law 1537 = .ok (.invokevirtual 241, 3) by decide +kernel) (by decide) (by omega) (by omega) rfl rfl (Nat.le_of_ble_eq_true rfl) (rcvD s396 (by decide) rfl) (kX10_blockOf w) (fun E h hk => hk.elim) (fun r387 h386 w => ?_)
  refine X_istore (ls' := [(0, .ref _), (1, .ref _), (2, .ref _), (3, .ref _), (4, .ref _), (5, .int _), (6, .int _), (7, .int _)]) (show decode cL_law 1540 = .ok (.istore 7, 2) by decide +kernel) (by decide) rfl ?_
  refine X_aload_n (j := 2) (show decode cL_law 1542 = .ok (.aload_n 2, 1) by decide +kernel) rfl rfl ?_
  obtain ⟨s395, w⟩ := w
  refine X_vI (rc' := rc0) (rs' := rs0) (as := []) mv_L_168 (show decode cL_law 1543 = .ok (.invokevirtual 168, 3) by decide +kernel) (by decide) (by omega) (by omega) rfl rfl (Nat.le_of_ble_eq_true rfl) (rcvD s395 (by decide) rfl) (kX10_thrown w) (fun E h hk => hk.elim) (fun r389 h388 w => ?_)
  refine X_iload (j := 6) (show decode cL_law 1546 = .ok (.iload 6, 2) by decide +kernel) rfl ?_
  refine X_icmp_eq (tgt := 1553) (show decode cL_law 1548 = .ok (.if_icmp .eq 5, 3) by decide +kernel) (by decide) ⟨fun c390 => ?_, fun c390 => ?_⟩
  · have w := w.1 c390
    refine X_iload (j := 6) (show decode cL_law 1553 = .ok (.iload 6, 2) by decide +kernel) rfl ?_
    refine X_if_ne (tgt := 1570) (show decode cL_law 1555 = .ok (.ifCond .ne 15, 3) by decide +kernel) (by decide) ⟨fun c391 => ?_, fun c391 => ?_⟩
    · have w := w.1 c391
      refine X_goto (tgt := 2925) (show decode cL_law 1570 = .ok (.goto 1355, 3) by decide +kernel) (by decide) ?_
      refine X_iinc (j := 5) (v := _ + (nI 4)) (ls' := [(0, .ref _), (1, .ref _), (2, .ref _), (3, .ref _), (4, .ref _), (5, .int _), (6, .int _), (7, .int _)]) (show decode cL_law 2925 = .ok (.iinc 5 4, 3) by decide +kernel) rfl rfl (Nat.le_of_ble_eq_true rfl) rfl ?_
      refine X_goto (tgt := 28) (show decode cL_law 2928 = .ok (.goto (-2900), 3) by decide +kernel) (by decide) ?_
      refine X_pick (ls' := [(0, .ref _), (1, .ref _), (2, .ref _), (3, .ref _), (4, .ref _), (5, .int _)]) [0, 1, 2, 3, 4, 5] rfl ?_
      exact hc28 _ _ _ _ _ _ _ w
    · have w := w.2 c391
      refine X_aload_n (j := 3) (show decode cL_law 1558 = .ok (.aload_n 3, 1) by decide +kernel) rfl rfl ?_
      refine X_iconst (v := (nI 0)) (show decode cL_law 1559 = .ok (.iconst 0, 1) by decide +kernel) (by decide) ?_
      obtain ⟨s392, w⟩ := w
      obtain ⟨s393, w⟩ := w
      refine X_lald (show decode cL_law 1560 = .ok (.laload, 1) by decide +kernel) (isA_eq s392) s393 ?_
      refine X_iload (j := 7) (show decode cL_law 1561 = .ok (.iload 7, 2) by decide +kernel) rfl ?_
      refine X_i2l (show decode cL_law 1563 = .ok (.i2l, 1) by decide +kernel) ?_
      refine X_lcmp (show decode cL_law 1564 = .ok (.lcmp, 1) by decide +kernel) ?_
      refine X_if_eq (tgt := 1570) (show decode cL_law 1565 = .ok (.ifCond .eq 5, 3) by decide +kernel) (by decide) ⟨fun c394 => ?_, fun c394 => ?_⟩
      · have w := w.1 c394
        refine X_goto (tgt := 2925) (show decode cL_law 1570 = .ok (.goto 1355, 3) by decide +kernel) (by decide) ?_
        refine X_iinc (j := 5) (v := _ + (nI 4)) (ls' := [(0, .ref _), (1, .ref _), (2, .ref _), (3, .ref _), (4, .ref _), (5, .int _), (6, .int _), (7, .int _)]) (show decode cL_law 2925 = .ok (.iinc 5 4, 3) by decide +kernel) rfl rfl (Nat.le_of_ble_eq_true rfl) rfl ?_
        refine X_goto (tgt := 28) (show decode cL_law 2928 = .ok (.goto (-2900), 3) by decide +kernel) (by decide) ?_
        refine X_pick (ls' := [(0, .ref _), (1, .ref _), (2, .ref _), (3, .ref _), (4, .ref _), (5, .int _)]) [0, 1, 2, 3, 4, 5] rfl ?_
        exact hc28 _ _ _ _ _ _ _ w
      · have w := w.2 c394
        refine X_iconst (v := (nI 0)) (show decode cL_law 1568 = .ok (.iconst 0, 1) by decide +kernel) (by decide) ?_
        exact X_iret ⟨(show decode cL_law 1569 = .ok (.ireturn, 1) by decide +kernel), .boolean, rfl, (by decide)⟩ ⟨_, rfl, w⟩
  · have w := w.2 c390
    refine X_iconst (v := (nI 0)) (show decode cL_law 1551 = .ok (.iconst 0, 1) by decide +kernel) (by decide) ?_
    exact X_iret ⟨(show decode cL_law 1552 = .ok (.ireturn, 1) by decide +kernel), .boolean, rfl, (by decide)⟩ ⟨_, rfl, w⟩
set_option maxRecDepth 100000 in
set_option maxHeartbeats 4000000 in
theorem kL_law_J1573 {rc0 rs0 : Nat} {K : Int32 → AH → Prop} {c28 : Nat → Nat → Nat → Nat → Nat → Int32 → AH → Prop} (hc28 : ∀ x0 x1 x2 x3 x4 x5 h, c28 x0 x1 x2 x3 x4 x5 h → X mL_law 20 (KI K) T0 rc0 rs0 28 [(0, .ref x0), (1, .ref x1), (2, .ref x2), (3, .ref x3), (4, .ref x4), (5, .int x5)] [] h) (x0 : Nat) (x1 : Nat) (x2 : Nat) (x3 : Nat) (x4 : Nat) (x5 : Int32) (h : AH) (w : wL_law_J1573 K c28 x0 x1 x2 x3 x4 x5 h) : X mL_law 20 (KI K) T0 (rc0 + 1) (rs0 + 6) 1573 [(0, .ref x0), (1, .ref x1), (2, .ref x2), (3, .ref x3), (4, .ref x4), (5, .int x5)] [] h := by
  unfold wL_law_J1573 at w
  refine X_aload_n (j := 1) (show decode cL_law 1573 = .ok (.aload_n 1, 1) by decide +kernel) rfl rfl ?_
  refine X_aload_n (j := 0) (show decode cL_law 1574 = .ok (.aload_n 0, 1) by decide +kernel) rfl rfl ?_
  refine X_iload (j := 5) (show decode cL_law 1575 = .ok (.iload 5, 2) by decide +kernel) rfl ?_
  refine X_iconst (v := (nI 1)) (show decode cL_law 1577 = .ok (.iconst 1, 1) by decide +kernel) (by decide) ?_
  refine X_iadd (show decode cL_law 1578 = .ok (.iadd, 1) by decide +kernel) ?_
  obtain ⟨s397, w⟩ := w
  obtain ⟨s398, w⟩ := w
  refine X_iald (show decode cL_law 1579 = .ok (.iaload, 1) by decide +kernel) (isA_eq s397) s398 ?_
  refine X_aload_n (j := 3) (show decode cL_law 1580 = .ok (.aload_n 3, 1) by decide +kernel) rfl rfl ?_
  refine X_sH (rc' := rc0) (rs' := rs0) (as := [.ref _, .int _, .ref _]) msh_L_242 (show decode cL_law 1581 = .ok (.invokestatic 242, 3) by decide +kernel) (by decide) (by omega) (by omega) rfl rfl (Nat.le_of_ble_eq_true rfl) (kL_destination w) (fun r400 h399 w => ?_)
  refine X_istore (ls' := [(0, .ref _), (1, .ref _), (2, .ref _), (3, .ref _), (4, .ref _), (5, .int _), (6, .int _)]) (show decode cL_law 1584 = .ok (.istore 6, 2) by decide +kernel) (by decide) rfl ?_
  refine X_aload_n (j := 2) (show decode cL_law 1586 = .ok (.aload_n 2, 1) by decide +kernel) rfl rfl ?_
  refine X_aload_n (j := 0) (show decode cL_law 1587 = .ok (.aload_n 0, 1) by decide +kernel) rfl rfl ?_
  refine X_iload (j := 5) (show decode cL_law 1588 = .ok (.iload 5, 2) by decide +kernel) rfl ?_
  refine X_iconst (v := (nI 1)) (show decode cL_law 1590 = .ok (.iconst 1, 1) by decide +kernel) (by decide) ?_
  refine X_iadd (show decode cL_law 1591 = .ok (.iadd, 1) by decide +kernel) ?_
  obtain ⟨s401, w⟩ := w
  obtain ⟨s402, w⟩ := w
  refine X_iald (show decode cL_law 1592 = .ok (.iaload, 1) by decide +kernel) (isA_eq s401) s402 ?_
  obtain ⟨s413, w⟩ := w
  refine X_vI (rc' := rc0) (rs' := rs0) (as := [.int _]) mv_L_244 (show decode cL_law 1593 = .ok (.invokevirtual 244, 3) by decide +kernel) (by decide) (by omega) (by omega) rfl rfl (Nat.le_of_ble_eq_true rfl) (rcvD s413 (by decide) rfl) (kX10_destination w) (fun E h hk => hk.elim) (fun r404 h403 w => ?_)
  refine X_istore (ls' := [(0, .ref _), (1, .ref _), (2, .ref _), (3, .ref _), (4, .ref _), (5, .int _), (6, .int _), (7, .int _)]) (show decode cL_law 1596 = .ok (.istore 7, 2) by decide +kernel) (by decide) rfl ?_
  refine X_aload_n (j := 2) (show decode cL_law 1598 = .ok (.aload_n 2, 1) by decide +kernel) rfl rfl ?_
  obtain ⟨s412, w⟩ := w
  refine X_vI (rc' := rc0) (rs' := rs0) (as := []) mv_L_168 (show decode cL_law 1599 = .ok (.invokevirtual 168, 3) by decide +kernel) (by decide) (by omega) (by omega) rfl rfl (Nat.le_of_ble_eq_true rfl) (rcvD s412 (by decide) rfl) (kX10_thrown w) (fun E h hk => hk.elim) (fun r406 h405 w => ?_)
  refine X_iload (j := 6) (show decode cL_law 1602 = .ok (.iload 6, 2) by decide +kernel) rfl ?_
  refine X_icmp_eq (tgt := 1609) (show decode cL_law 1604 = .ok (.if_icmp .eq 5, 3) by decide +kernel) (by decide) ⟨fun c407 => ?_, fun c407 => ?_⟩
  · have w := w.1 c407
    refine X_iload (j := 6) (show decode cL_law 1609 = .ok (.iload 6, 2) by decide +kernel) rfl ?_
    refine X_if_ne (tgt := 1626) (show decode cL_law 1611 = .ok (.ifCond .ne 15, 3) by decide +kernel) (by decide) ⟨fun c408 => ?_, fun c408 => ?_⟩
    · have w := w.1 c408
      refine X_goto (tgt := 2925) (show decode cL_law 1626 = .ok (.goto 1299, 3) by decide +kernel) (by decide) ?_
      refine X_iinc (j := 5) (v := _ + (nI 4)) (ls' := [(0, .ref _), (1, .ref _), (2, .ref _), (3, .ref _), (4, .ref _), (5, .int _), (6, .int _), (7, .int _)]) (show decode cL_law 2925 = .ok (.iinc 5 4, 3) by decide +kernel) rfl rfl (Nat.le_of_ble_eq_true rfl) rfl ?_
      refine X_goto (tgt := 28) (show decode cL_law 2928 = .ok (.goto (-2900), 3) by decide +kernel) (by decide) ?_
      refine X_pick (ls' := [(0, .ref _), (1, .ref _), (2, .ref _), (3, .ref _), (4, .ref _), (5, .int _)]) [0, 1, 2, 3, 4, 5] rfl ?_
      exact hc28 _ _ _ _ _ _ _ w
    · have w := w.2 c408
      refine X_aload_n (j := 3) (show decode cL_law 1614 = .ok (.aload_n 3, 1) by decide +kernel) rfl rfl ?_
      refine X_iconst (v := (nI 0)) (show decode cL_law 1615 = .ok (.iconst 0, 1) by decide +kernel) (by decide) ?_
      obtain ⟨s409, w⟩ := w
      obtain ⟨s410, w⟩ := w
      refine X_lald (show decode cL_law 1616 = .ok (.laload, 1) by decide +kernel) (isA_eq s409) s410 ?_
      refine X_iload (j := 7) (show decode cL_law 1617 = .ok (.iload 7, 2) by decide +kernel) rfl ?_
      refine X_i2l (show decode cL_law 1619 = .ok (.i2l, 1) by decide +kernel) ?_
      refine X_lcmp (show decode cL_law 1620 = .ok (.lcmp, 1) by decide +kernel) ?_
      refine X_if_eq (tgt := 1626) (show decode cL_law 1621 = .ok (.ifCond .eq 5, 3) by decide +kernel) (by decide) ⟨fun c411 => ?_, fun c411 => ?_⟩
      · have w := w.1 c411
        refine X_goto (tgt := 2925) (show decode cL_law 1626 = .ok (.goto 1299, 3) by decide +kernel) (by decide) ?_
        refine X_iinc (j := 5) (v := _ + (nI 4)) (ls' := [(0, .ref _), (1, .ref _), (2, .ref _), (3, .ref _), (4, .ref _), (5, .int _), (6, .int _), (7, .int _)]) (show decode cL_law 2925 = .ok (.iinc 5 4, 3) by decide +kernel) rfl rfl (Nat.le_of_ble_eq_true rfl) rfl ?_
        refine X_goto (tgt := 28) (show decode cL_law 2928 = .ok (.goto (-2900), 3) by decide +kernel) (by decide) ?_
        refine X_pick (ls' := [(0, .ref _), (1, .ref _), (2, .ref _), (3, .ref _), (4, .ref _), (5, .int _)]) [0, 1, 2, 3, 4, 5] rfl ?_
        exact hc28 _ _ _ _ _ _ _ w
      · have w := w.2 c411
        refine X_iconst (v := (nI 0)) (show decode cL_law 1624 = .ok (.iconst 0, 1) by decide +kernel) (by decide) ?_
        exact X_iret ⟨(show decode cL_law 1625 = .ok (.ireturn, 1) by decide +kernel), .boolean, rfl, (by decide)⟩ ⟨_, rfl, w⟩
  · have w := w.2 c407
    refine X_iconst (v := (nI 0)) (show decode cL_law 1607 = .ok (.iconst 0, 1) by decide +kernel) (by decide) ?_
    exact X_iret ⟨(show decode cL_law 1608 = .ok (.ireturn, 1) by decide +kernel), .boolean, rfl, (by decide)⟩ ⟨_, rfl, w⟩
set_option maxRecDepth 100000 in
set_option maxHeartbeats 4000000 in
theorem kL_law_J1683 {rc0 rs0 : Nat} {K : Int32 → AH → Prop} {c28 : Nat → Nat → Nat → Nat → Nat → Int32 → AH → Prop} (hc28 : ∀ x0 x1 x2 x3 x4 x5 h, c28 x0 x1 x2 x3 x4 x5 h → X mL_law 20 (KI K) T0 rc0 rs0 28 [(0, .ref x0), (1, .ref x1), (2, .ref x2), (3, .ref x3), (4, .ref x4), (5, .int x5)] [] h) (x0 : Nat) (x1 : Nat) (x2 : Nat) (x3 : Nat) (x4 : Nat) (x5 : Int32) (y0 : Int64) (y1 : Int64) (h : AH) (w : wL_law_J1683 K c28 x0 x1 x2 x3 x4 x5 y0 y1 h) : X mL_law 20 (KI K) T0 rc0 rs0 1683 [(0, .ref x0), (1, .ref x1), (2, .ref x2), (3, .ref x3), (4, .ref x4), (5, .int x5)] [.long y1, .long y0] h := by
  unfold wL_law_J1683 at w
  refine X_lcmp (show decode cL_law 1683 = .ok (.lcmp, 1) by decide +kernel) ?_
  refine X_if_eq (tgt := 1689) (show decode cL_law 1684 = .ok (.ifCond .eq 5, 3) by decide +kernel) (by decide) ⟨fun c429 => ?_, fun c429 => ?_⟩
  · have w := w.1 c429
    refine X_goto (tgt := 2925) (show decode cL_law 1689 = .ok (.goto 1236, 3) by decide +kernel) (by decide) ?_
    refine X_iinc (j := 5) (v := _ + (nI 4)) (ls' := [(0, .ref _), (1, .ref _), (2, .ref _), (3, .ref _), (4, .ref _), (5, .int _)]) (show decode cL_law 2925 = .ok (.iinc 5 4, 3) by decide +kernel) rfl rfl (Nat.le_of_ble_eq_true rfl) rfl ?_
    refine X_goto (tgt := 28) (show decode cL_law 2928 = .ok (.goto (-2900), 3) by decide +kernel) (by decide) ?_
    exact hc28 _ _ _ _ _ _ _ w
  · have w := w.2 c429
    refine X_iconst (v := (nI 0)) (show decode cL_law 1687 = .ok (.iconst 0, 1) by decide +kernel) (by decide) ?_
    exact X_iret ⟨(show decode cL_law 1688 = .ok (.ireturn, 1) by decide +kernel), .boolean, rfl, (by decide)⟩ ⟨_, rfl, w⟩
set_option maxRecDepth 100000 in
set_option maxHeartbeats 4000000 in
theorem kL_law_J1629 {rc0 rs0 : Nat} {K : Int32 → AH → Prop} {c28 : Nat → Nat → Nat → Nat → Nat → Int32 → AH → Prop} (hc28 : ∀ x0 x1 x2 x3 x4 x5 h, c28 x0 x1 x2 x3 x4 x5 h → X mL_law 20 (KI K) T0 rc0 rs0 28 [(0, .ref x0), (1, .ref x1), (2, .ref x2), (3, .ref x3), (4, .ref x4), (5, .int x5)] [] h) (x0 : Nat) (x1 : Nat) (x2 : Nat) (x3 : Nat) (x4 : Nat) (x5 : Int32) (h : AH) (w : wL_law_J1629 K c28 x0 x1 x2 x3 x4 x5 h) : X mL_law 20 (KI K) T0 (rc0 + 1) (rs0 + 6) 1629 [(0, .ref x0), (1, .ref x1), (2, .ref x2), (3, .ref x3), (4, .ref x4), (5, .int x5)] [] h := by
  unfold wL_law_J1629 at w
  refine X_aload_n (j := 1) (show decode cL_law 1629 = .ok (.aload_n 1, 1) by decide +kernel) rfl rfl ?_
  refine X_aload_n (j := 0) (show decode cL_law 1630 = .ok (.aload_n 0, 1) by decide +kernel) rfl rfl ?_
  refine X_iload (j := 5) (show decode cL_law 1631 = .ok (.iload 5, 2) by decide +kernel) rfl ?_
  refine X_iconst (v := (nI 1)) (show decode cL_law 1633 = .ok (.iconst 1, 1) by decide +kernel) (by decide) ?_
  refine X_iadd (show decode cL_law 1634 = .ok (.iadd, 1) by decide +kernel) ?_
  obtain ⟨s414, w⟩ := w
  obtain ⟨s415, w⟩ := w
  refine X_iald (show decode cL_law 1635 = .ok (.iaload, 1) by decide +kernel) (isA_eq s414) s415 ?_
  refine X_aload_n (j := 3) (show decode cL_law 1636 = .ok (.aload_n 3, 1) by decide +kernel) rfl rfl ?_
  refine X_sH (rc' := rc0) (rs' := rs0) (as := [.ref _, .int _, .ref _]) msh_L_245 (show decode cL_law 1637 = .ok (.invokestatic 245, 3) by decide +kernel) (by decide) (by omega) (by omega) rfl rfl (Nat.le_of_ble_eq_true rfl) (kL_hasRoute w) (fun r417 h416 w => ?_)
  refine X_istore (ls' := [(0, .ref _), (1, .ref _), (2, .ref _), (3, .ref _), (4, .ref _), (5, .int _), (6, .int _)]) (show decode cL_law 1640 = .ok (.istore 6, 2) by decide +kernel) (by decide) rfl ?_
  refine X_aload_n (j := 2) (show decode cL_law 1642 = .ok (.aload_n 2, 1) by decide +kernel) rfl rfl ?_
  refine X_aload_n (j := 0) (show decode cL_law 1643 = .ok (.aload_n 0, 1) by decide +kernel) rfl rfl ?_
  refine X_iload (j := 5) (show decode cL_law 1644 = .ok (.iload 5, 2) by decide +kernel) rfl ?_
  refine X_iconst (v := (nI 1)) (show decode cL_law 1646 = .ok (.iconst 1, 1) by decide +kernel) (by decide) ?_
  refine X_iadd (show decode cL_law 1647 = .ok (.iadd, 1) by decide +kernel) ?_
  obtain ⟨s418, w⟩ := w
  obtain ⟨s419, w⟩ := w
  refine X_iald (show decode cL_law 1648 = .ok (.iaload, 1) by decide +kernel) (isA_eq s418) s419 ?_
  obtain ⟨s431, w⟩ := w
  refine X_vI (rc' := rc0) (rs' := rs0) (as := [.int _]) mv_L_247 (show decode cL_law 1649 = .ok (.invokevirtual 247, 3) by decide +kernel) (by decide) (by omega) (by omega) rfl rfl (Nat.le_of_ble_eq_true rfl) (rcvD s431 (by decide) rfl) (kX10_hasRoute w) (fun E h hk => hk.elim) (fun r421 h420 w => ?_)
  refine X_istore (ls' := [(0, .ref _), (1, .ref _), (2, .ref _), (3, .ref _), (4, .ref _), (5, .int _), (6, .int _), (7, .int _)]) (show decode cL_law 1652 = .ok (.istore 7, 2) by decide +kernel) (by decide) rfl ?_
  refine X_aload_n (j := 2) (show decode cL_law 1654 = .ok (.aload_n 2, 1) by decide +kernel) rfl rfl ?_
  obtain ⟨s430, w⟩ := w
  refine X_vI (rc' := rc0) (rs' := rs0) (as := []) mv_L_168 (show decode cL_law 1655 = .ok (.invokevirtual 168, 3) by decide +kernel) (by decide) (by omega) (by omega) rfl rfl (Nat.le_of_ble_eq_true rfl) (rcvD s430 (by decide) rfl) (kX10_thrown w) (fun E h hk => hk.elim) (fun r423 h422 w => ?_)
  refine X_iload (j := 6) (show decode cL_law 1658 = .ok (.iload 6, 2) by decide +kernel) rfl ?_
  refine X_icmp_eq (tgt := 1665) (show decode cL_law 1660 = .ok (.if_icmp .eq 5, 3) by decide +kernel) (by decide) ⟨fun c424 => ?_, fun c424 => ?_⟩
  · have w := w.1 c424
    refine X_iload (j := 6) (show decode cL_law 1665 = .ok (.iload 6, 2) by decide +kernel) rfl ?_
    refine X_if_ne (tgt := 1689) (show decode cL_law 1667 = .ok (.ifCond .ne 22, 3) by decide +kernel) (by decide) ⟨fun c425 => ?_, fun c425 => ?_⟩
    · have w := w.1 c425
      refine X_goto (tgt := 2925) (show decode cL_law 1689 = .ok (.goto 1236, 3) by decide +kernel) (by decide) ?_
      refine X_iinc (j := 5) (v := _ + (nI 4)) (ls' := [(0, .ref _), (1, .ref _), (2, .ref _), (3, .ref _), (4, .ref _), (5, .int _), (6, .int _), (7, .int _)]) (show decode cL_law 2925 = .ok (.iinc 5 4, 3) by decide +kernel) rfl rfl (Nat.le_of_ble_eq_true rfl) rfl ?_
      refine X_goto (tgt := 28) (show decode cL_law 2928 = .ok (.goto (-2900), 3) by decide +kernel) (by decide) ?_
      refine X_pick (ls' := [(0, .ref _), (1, .ref _), (2, .ref _), (3, .ref _), (4, .ref _), (5, .int _)]) [0, 1, 2, 3, 4, 5] rfl ?_
      exact hc28 _ _ _ _ _ _ _ w
    · have w := w.2 c425
      refine X_aload_n (j := 3) (show decode cL_law 1670 = .ok (.aload_n 3, 1) by decide +kernel) rfl rfl ?_
      refine X_iconst (v := (nI 0)) (show decode cL_law 1671 = .ok (.iconst 0, 1) by decide +kernel) (by decide) ?_
      obtain ⟨s426, w⟩ := w
      obtain ⟨s427, w⟩ := w
      refine X_lald (show decode cL_law 1672 = .ok (.laload, 1) by decide +kernel) (isA_eq s426) s427 ?_
      refine X_iload (j := 7) (show decode cL_law 1673 = .ok (.iload 7, 2) by decide +kernel) rfl ?_
      refine X_if_eq (tgt := 1682) (show decode cL_law 1675 = .ok (.ifCond .eq 7, 3) by decide +kernel) (by decide) ⟨fun c428 => ?_, fun c428 => ?_⟩
      · have w := w.1 c428
        refine X_lconst (v := 0) (show decode cL_law 1682 = .ok (.lconst 0, 1) by decide +kernel) (by decide) ?_
        refine X_pick (ls' := [(0, .ref _), (1, .ref _), (2, .ref _), (3, .ref _), (4, .ref _), (5, .int _)]) [0, 1, 2, 3, 4, 5] rfl ?_
        exact kL_law_J1683 hc28 _ _ _ _ _ _ _ _ _ w
      · have w := w.2 c428
        refine X_lconst (v := 1) (show decode cL_law 1678 = .ok (.lconst 1, 1) by decide +kernel) (by decide) ?_
        refine X_goto (tgt := 1683) (show decode cL_law 1679 = .ok (.goto 4, 3) by decide +kernel) (by decide) ?_
        refine X_pick (ls' := [(0, .ref _), (1, .ref _), (2, .ref _), (3, .ref _), (4, .ref _), (5, .int _)]) [0, 1, 2, 3, 4, 5] rfl ?_
        exact kL_law_J1683 hc28 _ _ _ _ _ _ _ _ _ w
  · have w := w.2 c424
    refine X_iconst (v := (nI 0)) (show decode cL_law 1663 = .ok (.iconst 0, 1) by decide +kernel) (by decide) ?_
    exact X_iret ⟨(show decode cL_law 1664 = .ok (.ireturn, 1) by decide +kernel), .boolean, rfl, (by decide)⟩ ⟨_, rfl, w⟩
set_option maxRecDepth 100000 in
set_option maxHeartbeats 4000000 in
theorem kL_law_J1746 {rc0 rs0 : Nat} {K : Int32 → AH → Prop} {c28 : Nat → Nat → Nat → Nat → Nat → Int32 → AH → Prop} (hc28 : ∀ x0 x1 x2 x3 x4 x5 h, c28 x0 x1 x2 x3 x4 x5 h → X mL_law 20 (KI K) T0 rc0 rs0 28 [(0, .ref x0), (1, .ref x1), (2, .ref x2), (3, .ref x3), (4, .ref x4), (5, .int x5)] [] h) (x0 : Nat) (x1 : Nat) (x2 : Nat) (x3 : Nat) (x4 : Nat) (x5 : Int32) (y0 : Int64) (y1 : Int64) (h : AH) (w : wL_law_J1746 K c28 x0 x1 x2 x3 x4 x5 y0 y1 h) : X mL_law 20 (KI K) T0 rc0 rs0 1746 [(0, .ref x0), (1, .ref x1), (2, .ref x2), (3, .ref x3), (4, .ref x4), (5, .int x5)] [.long y1, .long y0] h := by
  unfold wL_law_J1746 at w
  refine X_lcmp (show decode cL_law 1746 = .ok (.lcmp, 1) by decide +kernel) ?_
  refine X_if_eq (tgt := 1752) (show decode cL_law 1747 = .ok (.ifCond .eq 5, 3) by decide +kernel) (by decide) ⟨fun c447 => ?_, fun c447 => ?_⟩
  · have w := w.1 c447
    refine X_goto (tgt := 2925) (show decode cL_law 1752 = .ok (.goto 1173, 3) by decide +kernel) (by decide) ?_
    refine X_iinc (j := 5) (v := _ + (nI 4)) (ls' := [(0, .ref _), (1, .ref _), (2, .ref _), (3, .ref _), (4, .ref _), (5, .int _)]) (show decode cL_law 2925 = .ok (.iinc 5 4, 3) by decide +kernel) rfl rfl (Nat.le_of_ble_eq_true rfl) rfl ?_
    refine X_goto (tgt := 28) (show decode cL_law 2928 = .ok (.goto (-2900), 3) by decide +kernel) (by decide) ?_
    exact hc28 _ _ _ _ _ _ _ w
  · have w := w.2 c447
    refine X_iconst (v := (nI 0)) (show decode cL_law 1750 = .ok (.iconst 0, 1) by decide +kernel) (by decide) ?_
    exact X_iret ⟨(show decode cL_law 1751 = .ok (.ireturn, 1) by decide +kernel), .boolean, rfl, (by decide)⟩ ⟨_, rfl, w⟩
set_option maxRecDepth 100000 in
set_option maxHeartbeats 4000000 in
theorem kL_law_J1692 {rc0 rs0 : Nat} {K : Int32 → AH → Prop} {c28 : Nat → Nat → Nat → Nat → Nat → Int32 → AH → Prop} (hc28 : ∀ x0 x1 x2 x3 x4 x5 h, c28 x0 x1 x2 x3 x4 x5 h → X mL_law 20 (KI K) T0 rc0 rs0 28 [(0, .ref x0), (1, .ref x1), (2, .ref x2), (3, .ref x3), (4, .ref x4), (5, .int x5)] [] h) (x0 : Nat) (x1 : Nat) (x2 : Nat) (x3 : Nat) (x4 : Nat) (x5 : Int32) (h : AH) (w : wL_law_J1692 K c28 x0 x1 x2 x3 x4 x5 h) : X mL_law 20 (KI K) T0 (rc0 + 1) (rs0 + 6) 1692 [(0, .ref x0), (1, .ref x1), (2, .ref x2), (3, .ref x3), (4, .ref x4), (5, .int x5)] [] h := by
  unfold wL_law_J1692 at w
  refine X_aload_n (j := 1) (show decode cL_law 1692 = .ok (.aload_n 1, 1) by decide +kernel) rfl rfl ?_
  refine X_aload_n (j := 0) (show decode cL_law 1693 = .ok (.aload_n 0, 1) by decide +kernel) rfl rfl ?_
  refine X_iload (j := 5) (show decode cL_law 1694 = .ok (.iload 5, 2) by decide +kernel) rfl ?_
  refine X_iconst (v := (nI 1)) (show decode cL_law 1696 = .ok (.iconst 1, 1) by decide +kernel) (by decide) ?_
  refine X_iadd (show decode cL_law 1697 = .ok (.iadd, 1) by decide +kernel) ?_
  obtain ⟨s432, w⟩ := w
  obtain ⟨s433, w⟩ := w
  refine X_iald (show decode cL_law 1698 = .ok (.iaload, 1) by decide +kernel) (isA_eq s432) s433 ?_
  refine X_aload_n (j := 3) (show decode cL_law 1699 = .ok (.aload_n 3, 1) by decide +kernel) rfl rfl ?_
  refine X_sH (rc' := rc0) (rs' := rs0) (as := [.ref _, .int _, .ref _]) msh_L_248 (show decode cL_law 1700 = .ok (.invokestatic 248, 3) by decide +kernel) (by decide) (by omega) (by omega) rfl rfl (Nat.le_of_ble_eq_true rfl) (kL_isClear w) (fun r435 h434 w => ?_)
  refine X_istore (ls' := [(0, .ref _), (1, .ref _), (2, .ref _), (3, .ref _), (4, .ref _), (5, .int _), (6, .int _)]) (show decode cL_law 1703 = .ok (.istore 6, 2) by decide +kernel) (by decide) rfl ?_
  refine X_aload_n (j := 2) (show decode cL_law 1705 = .ok (.aload_n 2, 1) by decide +kernel) rfl rfl ?_
  refine X_aload_n (j := 0) (show decode cL_law 1706 = .ok (.aload_n 0, 1) by decide +kernel) rfl rfl ?_
  refine X_iload (j := 5) (show decode cL_law 1707 = .ok (.iload 5, 2) by decide +kernel) rfl ?_
  refine X_iconst (v := (nI 1)) (show decode cL_law 1709 = .ok (.iconst 1, 1) by decide +kernel) (by decide) ?_
  refine X_iadd (show decode cL_law 1710 = .ok (.iadd, 1) by decide +kernel) ?_
  obtain ⟨s436, w⟩ := w
  obtain ⟨s437, w⟩ := w
  refine X_iald (show decode cL_law 1711 = .ok (.iaload, 1) by decide +kernel) (isA_eq s436) s437 ?_
  obtain ⟨s449, w⟩ := w
  refine X_vI (rc' := rc0) (rs' := rs0) (as := [.int _]) mv_L_250 (show decode cL_law 1712 = .ok (.invokevirtual 250, 3) by decide +kernel) (by decide) (by omega) (by omega) rfl rfl (Nat.le_of_ble_eq_true rfl) (rcvD s449 (by decide) rfl) (kX10_isClear w) (fun E h hk => hk.elim) (fun r439 h438 w => ?_)
  refine X_istore (ls' := [(0, .ref _), (1, .ref _), (2, .ref _), (3, .ref _), (4, .ref _), (5, .int _), (6, .int _), (7, .int _)]) (show decode cL_law 1715 = .ok (.istore 7, 2) by decide +kernel) (by decide) rfl ?_
  refine X_aload_n (j := 2) (show decode cL_law 1717 = .ok (.aload_n 2, 1) by decide +kernel) rfl rfl ?_
  obtain ⟨s448, w⟩ := w
  refine X_vI (rc' := rc0) (rs' := rs0) (as := []) mv_L_168 (show decode cL_law 1718 = .ok (.invokevirtual 168, 3) by decide +kernel) (by decide) (by omega) (by omega) rfl rfl (Nat.le_of_ble_eq_true rfl) (rcvD s448 (by decide) rfl) (kX10_thrown w) (fun E h hk => hk.elim) (fun r441 h440 w => ?_)
  refine X_iload (j := 6) (show decode cL_law 1721 = .ok (.iload 6, 2) by decide +kernel) rfl ?_
  refine X_icmp_eq (tgt := 1728) (show decode cL_law 1723 = .ok (.if_icmp .eq 5, 3) by decide +kernel) (by decide) ⟨fun c442 => ?_, fun c442 => ?_⟩
  · have w := w.1 c442
    refine X_iload (j := 6) (show decode cL_law 1728 = .ok (.iload 6, 2) by decide +kernel) rfl ?_
    refine X_if_ne (tgt := 1752) (show decode cL_law 1730 = .ok (.ifCond .ne 22, 3) by decide +kernel) (by decide) ⟨fun c443 => ?_, fun c443 => ?_⟩
    · have w := w.1 c443
      refine X_goto (tgt := 2925) (show decode cL_law 1752 = .ok (.goto 1173, 3) by decide +kernel) (by decide) ?_
      refine X_iinc (j := 5) (v := _ + (nI 4)) (ls' := [(0, .ref _), (1, .ref _), (2, .ref _), (3, .ref _), (4, .ref _), (5, .int _), (6, .int _), (7, .int _)]) (show decode cL_law 2925 = .ok (.iinc 5 4, 3) by decide +kernel) rfl rfl (Nat.le_of_ble_eq_true rfl) rfl ?_
      refine X_goto (tgt := 28) (show decode cL_law 2928 = .ok (.goto (-2900), 3) by decide +kernel) (by decide) ?_
      refine X_pick (ls' := [(0, .ref _), (1, .ref _), (2, .ref _), (3, .ref _), (4, .ref _), (5, .int _)]) [0, 1, 2, 3, 4, 5] rfl ?_
      exact hc28 _ _ _ _ _ _ _ w
    · have w := w.2 c443
      refine X_aload_n (j := 3) (show decode cL_law 1733 = .ok (.aload_n 3, 1) by decide +kernel) rfl rfl ?_
      refine X_iconst (v := (nI 0)) (show decode cL_law 1734 = .ok (.iconst 0, 1) by decide +kernel) (by decide) ?_
      obtain ⟨s444, w⟩ := w
      obtain ⟨s445, w⟩ := w
      refine X_lald (show decode cL_law 1735 = .ok (.laload, 1) by decide +kernel) (isA_eq s444) s445 ?_
      refine X_iload (j := 7) (show decode cL_law 1736 = .ok (.iload 7, 2) by decide +kernel) rfl ?_
      refine X_if_eq (tgt := 1745) (show decode cL_law 1738 = .ok (.ifCond .eq 7, 3) by decide +kernel) (by decide) ⟨fun c446 => ?_, fun c446 => ?_⟩
      · have w := w.1 c446
        refine X_lconst (v := 0) (show decode cL_law 1745 = .ok (.lconst 0, 1) by decide +kernel) (by decide) ?_
        refine X_pick (ls' := [(0, .ref _), (1, .ref _), (2, .ref _), (3, .ref _), (4, .ref _), (5, .int _)]) [0, 1, 2, 3, 4, 5] rfl ?_
        exact kL_law_J1746 hc28 _ _ _ _ _ _ _ _ _ w
      · have w := w.2 c446
        refine X_lconst (v := 1) (show decode cL_law 1741 = .ok (.lconst 1, 1) by decide +kernel) (by decide) ?_
        refine X_goto (tgt := 1746) (show decode cL_law 1742 = .ok (.goto 4, 3) by decide +kernel) (by decide) ?_
        refine X_pick (ls' := [(0, .ref _), (1, .ref _), (2, .ref _), (3, .ref _), (4, .ref _), (5, .int _)]) [0, 1, 2, 3, 4, 5] rfl ?_
        exact kL_law_J1746 hc28 _ _ _ _ _ _ _ _ _ w
  · have w := w.2 c442
    refine X_iconst (v := (nI 0)) (show decode cL_law 1726 = .ok (.iconst 0, 1) by decide +kernel) (by decide) ?_
    exact X_iret ⟨(show decode cL_law 1727 = .ok (.ireturn, 1) by decide +kernel), .boolean, rfl, (by decide)⟩ ⟨_, rfl, w⟩
set_option maxRecDepth 100000 in
set_option maxHeartbeats 4000000 in
theorem kL_law_J1755 {rc0 rs0 : Nat} {K : Int32 → AH → Prop} {c28 : Nat → Nat → Nat → Nat → Nat → Int32 → AH → Prop} (hc28 : ∀ x0 x1 x2 x3 x4 x5 h, c28 x0 x1 x2 x3 x4 x5 h → X mL_law 20 (KI K) T0 rc0 rs0 28 [(0, .ref x0), (1, .ref x1), (2, .ref x2), (3, .ref x3), (4, .ref x4), (5, .int x5)] [] h) (x0 : Nat) (x1 : Nat) (x2 : Nat) (x3 : Nat) (x4 : Nat) (x5 : Int32) (h : AH) (w : wL_law_J1755 K c28 x0 x1 x2 x3 x4 x5 h) : X mL_law 20 (KI K) T0 (rc0 + 2) (rs0 + 12) 1755 [(0, .ref x0), (1, .ref x1), (2, .ref x2), (3, .ref x3), (4, .ref x4), (5, .int x5)] [] h := by
  unfold wL_law_J1755 at w
  refine X_aload_n (j := 1) (show decode cL_law 1755 = .ok (.aload_n 1, 1) by decide +kernel) rfl rfl ?_
  refine X_aload_n (j := 0) (show decode cL_law 1756 = .ok (.aload_n 0, 1) by decide +kernel) rfl rfl ?_
  refine X_iload (j := 5) (show decode cL_law 1757 = .ok (.iload 5, 2) by decide +kernel) rfl ?_
  refine X_iconst (v := (nI 1)) (show decode cL_law 1759 = .ok (.iconst 1, 1) by decide +kernel) (by decide) ?_
  refine X_iadd (show decode cL_law 1760 = .ok (.iadd, 1) by decide +kernel) ?_
  obtain ⟨s450, w⟩ := w
  obtain ⟨s451, w⟩ := w
  refine X_iald (show decode cL_law 1761 = .ok (.iaload, 1) by decide +kernel) (isA_eq s450) s451 ?_
  refine X_aload_n (j := 3) (show decode cL_law 1762 = .ok (.aload_n 3, 1) by decide +kernel) rfl rfl ?_
  refine X_sH (rc' := rc0) (rs' := rs0) (as := [.ref _, .int _, .ref _]) msh_L_251 (show decode cL_law 1763 = .ok (.invokestatic 251, 3) by decide +kernel) (by decide) (by omega) (by omega) rfl rfl (Nat.le_of_ble_eq_true rfl) (kL_minutesUntilNext w) (fun r453 h452 w => ?_)
  refine X_istore (ls' := [(0, .ref _), (1, .ref _), (2, .ref _), (3, .ref _), (4, .ref _), (5, .int _), (6, .int _)]) (show decode cL_law 1766 = .ok (.istore 6, 2) by decide +kernel) (by decide) rfl ?_
  refine X_aload_n (j := 2) (show decode cL_law 1768 = .ok (.aload_n 2, 1) by decide +kernel) rfl rfl ?_
  refine X_aload_n (j := 0) (show decode cL_law 1769 = .ok (.aload_n 0, 1) by decide +kernel) rfl rfl ?_
  refine X_iload (j := 5) (show decode cL_law 1770 = .ok (.iload 5, 2) by decide +kernel) rfl ?_
  refine X_iconst (v := (nI 1)) (show decode cL_law 1772 = .ok (.iconst 1, 1) by decide +kernel) (by decide) ?_
  refine X_iadd (show decode cL_law 1773 = .ok (.iadd, 1) by decide +kernel) ?_
  obtain ⟨s454, w⟩ := w
  obtain ⟨s455, w⟩ := w
  refine X_iald (show decode cL_law 1774 = .ok (.iaload, 1) by decide +kernel) (isA_eq s454) s455 ?_
  obtain ⟨s466, w⟩ := w
  refine X_vI (rc' := rc0) (rs' := rs0) (as := [.int _]) mv_L_253 (show decode cL_law 1775 = .ok (.invokevirtual 253, 3) by decide +kernel) (by decide) (by omega) (by omega) rfl rfl (Nat.le_of_ble_eq_true rfl) (rcvD s466 (by decide) rfl) (kX10_minutesUntilNext w) (fun E h hk => hk.elim) (fun r457 h456 w => ?_)
  refine X_istore (ls' := [(0, .ref _), (1, .ref _), (2, .ref _), (3, .ref _), (4, .ref _), (5, .int _), (6, .int _), (7, .int _)]) (show decode cL_law 1778 = .ok (.istore 7, 2) by decide +kernel) (by decide) rfl ?_
  refine X_aload_n (j := 2) (show decode cL_law 1780 = .ok (.aload_n 2, 1) by decide +kernel) rfl rfl ?_
  obtain ⟨s465, w⟩ := w
  refine X_vI (rc' := rc0) (rs' := rs0) (as := []) mv_L_168 (show decode cL_law 1781 = .ok (.invokevirtual 168, 3) by decide +kernel) (by decide) (by omega) (by omega) rfl rfl (Nat.le_of_ble_eq_true rfl) (rcvD s465 (by decide) rfl) (kX10_thrown w) (fun E h hk => hk.elim) (fun r459 h458 w => ?_)
  refine X_iload (j := 6) (show decode cL_law 1784 = .ok (.iload 6, 2) by decide +kernel) rfl ?_
  refine X_icmp_eq (tgt := 1791) (show decode cL_law 1786 = .ok (.if_icmp .eq 5, 3) by decide +kernel) (by decide) ⟨fun c460 => ?_, fun c460 => ?_⟩
  · have w := w.1 c460
    refine X_iload (j := 6) (show decode cL_law 1791 = .ok (.iload 6, 2) by decide +kernel) rfl ?_
    refine X_if_ne (tgt := 1808) (show decode cL_law 1793 = .ok (.ifCond .ne 15, 3) by decide +kernel) (by decide) ⟨fun c461 => ?_, fun c461 => ?_⟩
    · have w := w.1 c461
      refine X_goto (tgt := 2925) (show decode cL_law 1808 = .ok (.goto 1117, 3) by decide +kernel) (by decide) ?_
      refine X_iinc (j := 5) (v := _ + (nI 4)) (ls' := [(0, .ref _), (1, .ref _), (2, .ref _), (3, .ref _), (4, .ref _), (5, .int _), (6, .int _), (7, .int _)]) (show decode cL_law 2925 = .ok (.iinc 5 4, 3) by decide +kernel) rfl rfl (Nat.le_of_ble_eq_true rfl) rfl ?_
      refine X_goto (tgt := 28) (show decode cL_law 2928 = .ok (.goto (-2900), 3) by decide +kernel) (by decide) ?_
      refine X_pick (ls' := [(0, .ref _), (1, .ref _), (2, .ref _), (3, .ref _), (4, .ref _), (5, .int _)]) [0, 1, 2, 3, 4, 5] rfl ?_
      exact hc28 _ _ _ _ _ _ _ w
    · have w := w.2 c461
      refine X_aload_n (j := 3) (show decode cL_law 1796 = .ok (.aload_n 3, 1) by decide +kernel) rfl rfl ?_
      refine X_iconst (v := (nI 0)) (show decode cL_law 1797 = .ok (.iconst 0, 1) by decide +kernel) (by decide) ?_
      obtain ⟨s462, w⟩ := w
      obtain ⟨s463, w⟩ := w
      refine X_lald (show decode cL_law 1798 = .ok (.laload, 1) by decide +kernel) (isA_eq s462) s463 ?_
      refine X_iload (j := 7) (show decode cL_law 1799 = .ok (.iload 7, 2) by decide +kernel) rfl ?_
      refine X_i2l (show decode cL_law 1801 = .ok (.i2l, 1) by decide +kernel) ?_
      refine X_lcmp (show decode cL_law 1802 = .ok (.lcmp, 1) by decide +kernel) ?_
      refine X_if_eq (tgt := 1808) (show decode cL_law 1803 = .ok (.ifCond .eq 5, 3) by decide +kernel) (by decide) ⟨fun c464 => ?_, fun c464 => ?_⟩
      · have w := w.1 c464
        refine X_goto (tgt := 2925) (show decode cL_law 1808 = .ok (.goto 1117, 3) by decide +kernel) (by decide) ?_
        refine X_iinc (j := 5) (v := _ + (nI 4)) (ls' := [(0, .ref _), (1, .ref _), (2, .ref _), (3, .ref _), (4, .ref _), (5, .int _), (6, .int _), (7, .int _)]) (show decode cL_law 2925 = .ok (.iinc 5 4, 3) by decide +kernel) rfl rfl (Nat.le_of_ble_eq_true rfl) rfl ?_
        refine X_goto (tgt := 28) (show decode cL_law 2928 = .ok (.goto (-2900), 3) by decide +kernel) (by decide) ?_
        refine X_pick (ls' := [(0, .ref _), (1, .ref _), (2, .ref _), (3, .ref _), (4, .ref _), (5, .int _)]) [0, 1, 2, 3, 4, 5] rfl ?_
        exact hc28 _ _ _ _ _ _ _ w
      · have w := w.2 c464
        refine X_iconst (v := (nI 0)) (show decode cL_law 1806 = .ok (.iconst 0, 1) by decide +kernel) (by decide) ?_
        exact X_iret ⟨(show decode cL_law 1807 = .ok (.ireturn, 1) by decide +kernel), .boolean, rfl, (by decide)⟩ ⟨_, rfl, w⟩
  · have w := w.2 c460
    refine X_iconst (v := (nI 0)) (show decode cL_law 1789 = .ok (.iconst 0, 1) by decide +kernel) (by decide) ?_
    exact X_iret ⟨(show decode cL_law 1790 = .ok (.ireturn, 1) by decide +kernel), .boolean, rfl, (by decide)⟩ ⟨_, rfl, w⟩
set_option maxRecDepth 100000 in
set_option maxHeartbeats 4000000 in
theorem kL_law_J1811 {rc0 rs0 : Nat} {K : Int32 → AH → Prop} {c28 : Nat → Nat → Nat → Nat → Nat → Int32 → AH → Prop} (hc28 : ∀ x0 x1 x2 x3 x4 x5 h, c28 x0 x1 x2 x3 x4 x5 h → X mL_law 20 (KI K) T0 rc0 rs0 28 [(0, .ref x0), (1, .ref x1), (2, .ref x2), (3, .ref x3), (4, .ref x4), (5, .int x5)] [] h) (x0 : Nat) (x1 : Nat) (x2 : Nat) (x3 : Nat) (x4 : Nat) (x5 : Int32) (h : AH) (w : wL_law_J1811 K c28 x0 x1 x2 x3 x4 x5 h) : X mL_law 20 (KI K) T0 (rc0 + 2) (rs0 + 12) 1811 [(0, .ref x0), (1, .ref x1), (2, .ref x2), (3, .ref x3), (4, .ref x4), (5, .int x5)] [] h := by
  unfold wL_law_J1811 at w
  refine X_aload_n (j := 1) (show decode cL_law 1811 = .ok (.aload_n 1, 1) by decide +kernel) rfl rfl ?_
  refine X_aload_n (j := 0) (show decode cL_law 1812 = .ok (.aload_n 0, 1) by decide +kernel) rfl rfl ?_
  refine X_iload (j := 5) (show decode cL_law 1813 = .ok (.iload 5, 2) by decide +kernel) rfl ?_
  refine X_iconst (v := (nI 1)) (show decode cL_law 1815 = .ok (.iconst 1, 1) by decide +kernel) (by decide) ?_
  refine X_iadd (show decode cL_law 1816 = .ok (.iadd, 1) by decide +kernel) ?_
  obtain ⟨s467, w⟩ := w
  obtain ⟨s468, w⟩ := w
  refine X_iald (show decode cL_law 1817 = .ok (.iaload, 1) by decide +kernel) (isA_eq s467) s468 ?_
  refine X_aload_n (j := 3) (show decode cL_law 1818 = .ok (.aload_n 3, 1) by decide +kernel) rfl rfl ?_
  refine X_sH (rc' := rc0) (rs' := rs0) (as := [.ref _, .int _, .ref _]) msh_L_254 (show decode cL_law 1819 = .ok (.invokestatic 254, 3) by decide +kernel) (by decide) (by omega) (by omega) rfl rfl (Nat.le_of_ble_eq_true rfl) (kL_minutesUntilArrival w) (fun r470 h469 w => ?_)
  refine X_istore (ls' := [(0, .ref _), (1, .ref _), (2, .ref _), (3, .ref _), (4, .ref _), (5, .int _), (6, .int _)]) (show decode cL_law 1822 = .ok (.istore 6, 2) by decide +kernel) (by decide) rfl ?_
  refine X_aload_n (j := 2) (show decode cL_law 1824 = .ok (.aload_n 2, 1) by decide +kernel) rfl rfl ?_
  refine X_aload_n (j := 0) (show decode cL_law 1825 = .ok (.aload_n 0, 1) by decide +kernel) rfl rfl ?_
  refine X_iload (j := 5) (show decode cL_law 1826 = .ok (.iload 5, 2) by decide +kernel) rfl ?_
  refine X_iconst (v := (nI 1)) (show decode cL_law 1828 = .ok (.iconst 1, 1) by decide +kernel) (by decide) ?_
  refine X_iadd (show decode cL_law 1829 = .ok (.iadd, 1) by decide +kernel) ?_
  obtain ⟨s471, w⟩ := w
  obtain ⟨s472, w⟩ := w
  refine X_iald (show decode cL_law 1830 = .ok (.iaload, 1) by decide +kernel) (isA_eq s471) s472 ?_
  obtain ⟨s483, w⟩ := w
  refine X_vI (rc' := rc0) (rs' := rs0) (as := [.int _]) mv_L_256 (show decode cL_law 1831 = .ok (.invokevirtual 256, 3) by decide +kernel) (by decide) (by omega) (by omega) rfl rfl (Nat.le_of_ble_eq_true rfl) (rcvD s483 (by decide) rfl) (kX10_minutesUntilArrival w) (fun E h hk => hk.elim) (fun r474 h473 w => ?_)
  refine X_istore (ls' := [(0, .ref _), (1, .ref _), (2, .ref _), (3, .ref _), (4, .ref _), (5, .int _), (6, .int _), (7, .int _)]) (show decode cL_law 1834 = .ok (.istore 7, 2) by decide +kernel) (by decide) rfl ?_
  refine X_aload_n (j := 2) (show decode cL_law 1836 = .ok (.aload_n 2, 1) by decide +kernel) rfl rfl ?_
  obtain ⟨s482, w⟩ := w
  refine X_vI (rc' := rc0) (rs' := rs0) (as := []) mv_L_168 (show decode cL_law 1837 = .ok (.invokevirtual 168, 3) by decide +kernel) (by decide) (by omega) (by omega) rfl rfl (Nat.le_of_ble_eq_true rfl) (rcvD s482 (by decide) rfl) (kX10_thrown w) (fun E h hk => hk.elim) (fun r476 h475 w => ?_)
  refine X_iload (j := 6) (show decode cL_law 1840 = .ok (.iload 6, 2) by decide +kernel) rfl ?_
  refine X_icmp_eq (tgt := 1847) (show decode cL_law 1842 = .ok (.if_icmp .eq 5, 3) by decide +kernel) (by decide) ⟨fun c477 => ?_, fun c477 => ?_⟩
  · have w := w.1 c477
    refine X_iload (j := 6) (show decode cL_law 1847 = .ok (.iload 6, 2) by decide +kernel) rfl ?_
    refine X_if_ne (tgt := 1864) (show decode cL_law 1849 = .ok (.ifCond .ne 15, 3) by decide +kernel) (by decide) ⟨fun c478 => ?_, fun c478 => ?_⟩
    · have w := w.1 c478
      refine X_goto (tgt := 2925) (show decode cL_law 1864 = .ok (.goto 1061, 3) by decide +kernel) (by decide) ?_
      refine X_iinc (j := 5) (v := _ + (nI 4)) (ls' := [(0, .ref _), (1, .ref _), (2, .ref _), (3, .ref _), (4, .ref _), (5, .int _), (6, .int _), (7, .int _)]) (show decode cL_law 2925 = .ok (.iinc 5 4, 3) by decide +kernel) rfl rfl (Nat.le_of_ble_eq_true rfl) rfl ?_
      refine X_goto (tgt := 28) (show decode cL_law 2928 = .ok (.goto (-2900), 3) by decide +kernel) (by decide) ?_
      refine X_pick (ls' := [(0, .ref _), (1, .ref _), (2, .ref _), (3, .ref _), (4, .ref _), (5, .int _)]) [0, 1, 2, 3, 4, 5] rfl ?_
      exact hc28 _ _ _ _ _ _ _ w
    · have w := w.2 c478
      refine X_aload_n (j := 3) (show decode cL_law 1852 = .ok (.aload_n 3, 1) by decide +kernel) rfl rfl ?_
      refine X_iconst (v := (nI 0)) (show decode cL_law 1853 = .ok (.iconst 0, 1) by decide +kernel) (by decide) ?_
      obtain ⟨s479, w⟩ := w
      obtain ⟨s480, w⟩ := w
      refine X_lald (show decode cL_law 1854 = .ok (.laload, 1) by decide +kernel) (isA_eq s479) s480 ?_
      refine X_iload (j := 7) (show decode cL_law 1855 = .ok (.iload 7, 2) by decide +kernel) rfl ?_
      refine X_i2l (show decode cL_law 1857 = .ok (.i2l, 1) by decide +kernel) ?_
      refine X_lcmp (show decode cL_law 1858 = .ok (.lcmp, 1) by decide +kernel) ?_
      refine X_if_eq (tgt := 1864) (show decode cL_law 1859 = .ok (.ifCond .eq 5, 3) by decide +kernel) (by decide) ⟨fun c481 => ?_, fun c481 => ?_⟩
      · have w := w.1 c481
        refine X_goto (tgt := 2925) (show decode cL_law 1864 = .ok (.goto 1061, 3) by decide +kernel) (by decide) ?_
        refine X_iinc (j := 5) (v := _ + (nI 4)) (ls' := [(0, .ref _), (1, .ref _), (2, .ref _), (3, .ref _), (4, .ref _), (5, .int _), (6, .int _), (7, .int _)]) (show decode cL_law 2925 = .ok (.iinc 5 4, 3) by decide +kernel) rfl rfl (Nat.le_of_ble_eq_true rfl) rfl ?_
        refine X_goto (tgt := 28) (show decode cL_law 2928 = .ok (.goto (-2900), 3) by decide +kernel) (by decide) ?_
        refine X_pick (ls' := [(0, .ref _), (1, .ref _), (2, .ref _), (3, .ref _), (4, .ref _), (5, .int _)]) [0, 1, 2, 3, 4, 5] rfl ?_
        exact hc28 _ _ _ _ _ _ _ w
      · have w := w.2 c481
        refine X_iconst (v := (nI 0)) (show decode cL_law 1862 = .ok (.iconst 0, 1) by decide +kernel) (by decide) ?_
        exact X_iret ⟨(show decode cL_law 1863 = .ok (.ireturn, 1) by decide +kernel), .boolean, rfl, (by decide)⟩ ⟨_, rfl, w⟩
  · have w := w.2 c477
    refine X_iconst (v := (nI 0)) (show decode cL_law 1845 = .ok (.iconst 0, 1) by decide +kernel) (by decide) ?_
    exact X_iret ⟨(show decode cL_law 1846 = .ok (.ireturn, 1) by decide +kernel), .boolean, rfl, (by decide)⟩ ⟨_, rfl, w⟩
set_option maxRecDepth 100000 in
set_option maxHeartbeats 4000000 in
theorem kL_law_J1867 {rc0 rs0 : Nat} {K : Int32 → AH → Prop} {c28 : Nat → Nat → Nat → Nat → Nat → Int32 → AH → Prop} (hc28 : ∀ x0 x1 x2 x3 x4 x5 h, c28 x0 x1 x2 x3 x4 x5 h → X mL_law 20 (KI K) T0 rc0 rs0 28 [(0, .ref x0), (1, .ref x1), (2, .ref x2), (3, .ref x3), (4, .ref x4), (5, .int x5)] [] h) (x0 : Nat) (x1 : Nat) (x2 : Nat) (x3 : Nat) (x4 : Nat) (x5 : Int32) (h : AH) (w : wL_law_J1867 K c28 x0 x1 x2 x3 x4 x5 h) : X mL_law 20 (KI K) T0 (rc0 + 2) (rs0 + 12) 1867 [(0, .ref x0), (1, .ref x1), (2, .ref x2), (3, .ref x3), (4, .ref x4), (5, .int x5)] [] h := by
  unfold wL_law_J1867 at w
  refine X_aload_n (j := 1) (show decode cL_law 1867 = .ok (.aload_n 1, 1) by decide +kernel) rfl rfl ?_
  refine X_aload_n (j := 0) (show decode cL_law 1868 = .ok (.aload_n 0, 1) by decide +kernel) rfl rfl ?_
  refine X_iload (j := 5) (show decode cL_law 1869 = .ok (.iload 5, 2) by decide +kernel) rfl ?_
  refine X_iconst (v := (nI 1)) (show decode cL_law 1871 = .ok (.iconst 1, 1) by decide +kernel) (by decide) ?_
  refine X_iadd (show decode cL_law 1872 = .ok (.iadd, 1) by decide +kernel) ?_
  obtain ⟨s484, w⟩ := w
  obtain ⟨s485, w⟩ := w
  refine X_iald (show decode cL_law 1873 = .ok (.iaload, 1) by decide +kernel) (isA_eq s484) s485 ?_
  refine X_aload_n (j := 3) (show decode cL_law 1874 = .ok (.aload_n 3, 1) by decide +kernel) rfl rfl ?_
  refine X_sH (rc' := rc0) (rs' := rs0) (as := [.ref _, .int _, .ref _]) msh_L_257 (show decode cL_law 1875 = .ok (.invokestatic 257, 3) by decide +kernel) (by decide) (by omega) (by omega) rfl rfl (Nat.le_of_ble_eq_true rfl) (kL_minutesUntilArrivalByPassing w) (fun r487 h486 w => ?_)
  refine X_istore (ls' := [(0, .ref _), (1, .ref _), (2, .ref _), (3, .ref _), (4, .ref _), (5, .int _), (6, .int _)]) (show decode cL_law 1878 = .ok (.istore 6, 2) by decide +kernel) (by decide) rfl ?_
  refine X_aload_n (j := 2) (show decode cL_law 1880 = .ok (.aload_n 2, 1) by decide +kernel) rfl rfl ?_
  refine X_aload_n (j := 0) (show decode cL_law 1881 = .ok (.aload_n 0, 1) by decide +kernel) rfl rfl ?_
  refine X_iload (j := 5) (show decode cL_law 1882 = .ok (.iload 5, 2) by decide +kernel) rfl ?_
  refine X_iconst (v := (nI 1)) (show decode cL_law 1884 = .ok (.iconst 1, 1) by decide +kernel) (by decide) ?_
  refine X_iadd (show decode cL_law 1885 = .ok (.iadd, 1) by decide +kernel) ?_
  obtain ⟨s488, w⟩ := w
  obtain ⟨s489, w⟩ := w
  refine X_iald (show decode cL_law 1886 = .ok (.iaload, 1) by decide +kernel) (isA_eq s488) s489 ?_
  obtain ⟨s500, w⟩ := w
  refine X_vI (rc' := rc0) (rs' := rs0) (as := [.int _]) mv_L_259 (show decode cL_law 1887 = .ok (.invokevirtual 259, 3) by decide +kernel) (by decide) (by omega) (by omega) rfl rfl (Nat.le_of_ble_eq_true rfl) (rcvD s500 (by decide) rfl) (kX10_minutesUntilArrivalByPassing w) (fun E h hk => hk.elim) (fun r491 h490 w => ?_)
  refine X_istore (ls' := [(0, .ref _), (1, .ref _), (2, .ref _), (3, .ref _), (4, .ref _), (5, .int _), (6, .int _), (7, .int _)]) (show decode cL_law 1890 = .ok (.istore 7, 2) by decide +kernel) (by decide) rfl ?_
  refine X_aload_n (j := 2) (show decode cL_law 1892 = .ok (.aload_n 2, 1) by decide +kernel) rfl rfl ?_
  obtain ⟨s499, w⟩ := w
  refine X_vI (rc' := rc0) (rs' := rs0) (as := []) mv_L_168 (show decode cL_law 1893 = .ok (.invokevirtual 168, 3) by decide +kernel) (by decide) (by omega) (by omega) rfl rfl (Nat.le_of_ble_eq_true rfl) (rcvD s499 (by decide) rfl) (kX10_thrown w) (fun E h hk => hk.elim) (fun r493 h492 w => ?_)
  refine X_iload (j := 6) (show decode cL_law 1896 = .ok (.iload 6, 2) by decide +kernel) rfl ?_
  refine X_icmp_eq (tgt := 1903) (show decode cL_law 1898 = .ok (.if_icmp .eq 5, 3) by decide +kernel) (by decide) ⟨fun c494 => ?_, fun c494 => ?_⟩
  · have w := w.1 c494
    refine X_iload (j := 6) (show decode cL_law 1903 = .ok (.iload 6, 2) by decide +kernel) rfl ?_
    refine X_if_ne (tgt := 1920) (show decode cL_law 1905 = .ok (.ifCond .ne 15, 3) by decide +kernel) (by decide) ⟨fun c495 => ?_, fun c495 => ?_⟩
    · have w := w.1 c495
      refine X_goto (tgt := 2925) (show decode cL_law 1920 = .ok (.goto 1005, 3) by decide +kernel) (by decide) ?_
      refine X_iinc (j := 5) (v := _ + (nI 4)) (ls' := [(0, .ref _), (1, .ref _), (2, .ref _), (3, .ref _), (4, .ref _), (5, .int _), (6, .int _), (7, .int _)]) (show decode cL_law 2925 = .ok (.iinc 5 4, 3) by decide +kernel) rfl rfl (Nat.le_of_ble_eq_true rfl) rfl ?_
      refine X_goto (tgt := 28) (show decode cL_law 2928 = .ok (.goto (-2900), 3) by decide +kernel) (by decide) ?_
      refine X_pick (ls' := [(0, .ref _), (1, .ref _), (2, .ref _), (3, .ref _), (4, .ref _), (5, .int _)]) [0, 1, 2, 3, 4, 5] rfl ?_
      exact hc28 _ _ _ _ _ _ _ w
    · have w := w.2 c495
      refine X_aload_n (j := 3) (show decode cL_law 1908 = .ok (.aload_n 3, 1) by decide +kernel) rfl rfl ?_
      refine X_iconst (v := (nI 0)) (show decode cL_law 1909 = .ok (.iconst 0, 1) by decide +kernel) (by decide) ?_
      obtain ⟨s496, w⟩ := w
      obtain ⟨s497, w⟩ := w
      refine X_lald (show decode cL_law 1910 = .ok (.laload, 1) by decide +kernel) (isA_eq s496) s497 ?_
      refine X_iload (j := 7) (show decode cL_law 1911 = .ok (.iload 7, 2) by decide +kernel) rfl ?_
      refine X_i2l (show decode cL_law 1913 = .ok (.i2l, 1) by decide +kernel) ?_
      refine X_lcmp (show decode cL_law 1914 = .ok (.lcmp, 1) by decide +kernel) ?_
      refine X_if_eq (tgt := 1920) (show decode cL_law 1915 = .ok (.ifCond .eq 5, 3) by decide +kernel) (by decide) ⟨fun c498 => ?_, fun c498 => ?_⟩
      · have w := w.1 c498
        refine X_goto (tgt := 2925) (show decode cL_law 1920 = .ok (.goto 1005, 3) by decide +kernel) (by decide) ?_
        refine X_iinc (j := 5) (v := _ + (nI 4)) (ls' := [(0, .ref _), (1, .ref _), (2, .ref _), (3, .ref _), (4, .ref _), (5, .int _), (6, .int _), (7, .int _)]) (show decode cL_law 2925 = .ok (.iinc 5 4, 3) by decide +kernel) rfl rfl (Nat.le_of_ble_eq_true rfl) rfl ?_
        refine X_goto (tgt := 28) (show decode cL_law 2928 = .ok (.goto (-2900), 3) by decide +kernel) (by decide) ?_
        refine X_pick (ls' := [(0, .ref _), (1, .ref _), (2, .ref _), (3, .ref _), (4, .ref _), (5, .int _)]) [0, 1, 2, 3, 4, 5] rfl ?_
        exact hc28 _ _ _ _ _ _ _ w
      · have w := w.2 c498
        refine X_iconst (v := (nI 0)) (show decode cL_law 1918 = .ok (.iconst 0, 1) by decide +kernel) (by decide) ?_
        exact X_iret ⟨(show decode cL_law 1919 = .ok (.ireturn, 1) by decide +kernel), .boolean, rfl, (by decide)⟩ ⟨_, rfl, w⟩
  · have w := w.2 c494
    refine X_iconst (v := (nI 0)) (show decode cL_law 1901 = .ok (.iconst 0, 1) by decide +kernel) (by decide) ?_
    exact X_iret ⟨(show decode cL_law 1902 = .ok (.ireturn, 1) by decide +kernel), .boolean, rfl, (by decide)⟩ ⟨_, rfl, w⟩
set_option maxRecDepth 100000 in
set_option maxHeartbeats 4000000 in
theorem kL_law_J1923 {rc0 rs0 : Nat} {K : Int32 → AH → Prop} {c28 : Nat → Nat → Nat → Nat → Nat → Int32 → AH → Prop} (hc28 : ∀ x0 x1 x2 x3 x4 x5 h, c28 x0 x1 x2 x3 x4 x5 h → X mL_law 20 (KI K) T0 rc0 rs0 28 [(0, .ref x0), (1, .ref x1), (2, .ref x2), (3, .ref x3), (4, .ref x4), (5, .int x5)] [] h) (x0 : Nat) (x1 : Nat) (x2 : Nat) (x3 : Nat) (x4 : Nat) (x5 : Int32) (h : AH) (w : wL_law_J1923 K c28 x0 x1 x2 x3 x4 x5 h) : X mL_law 20 (KI K) T0 (rc0 + 1) (rs0 + 6) 1923 [(0, .ref x0), (1, .ref x1), (2, .ref x2), (3, .ref x3), (4, .ref x4), (5, .int x5)] [] h := by
  unfold wL_law_J1923 at w
  refine X_aload_n (j := 1) (show decode cL_law 1923 = .ok (.aload_n 1, 1) by decide +kernel) rfl rfl ?_
  refine X_aload_n (j := 0) (show decode cL_law 1924 = .ok (.aload_n 0, 1) by decide +kernel) rfl rfl ?_
  refine X_iload (j := 5) (show decode cL_law 1925 = .ok (.iload 5, 2) by decide +kernel) rfl ?_
  refine X_iconst (v := (nI 1)) (show decode cL_law 1927 = .ok (.iconst 1, 1) by decide +kernel) (by decide) ?_
  refine X_iadd (show decode cL_law 1928 = .ok (.iadd, 1) by decide +kernel) ?_
  obtain ⟨s501, w⟩ := w
  obtain ⟨s502, w⟩ := w
  refine X_iald (show decode cL_law 1929 = .ok (.iaload, 1) by decide +kernel) (isA_eq s501) s502 ?_
  refine X_aload_n (j := 3) (show decode cL_law 1930 = .ok (.aload_n 3, 1) by decide +kernel) rfl rfl ?_
  refine X_sH (rc' := rc0) (rs' := rs0) (as := [.ref _, .int _, .ref _]) msh_L_260 (show decode cL_law 1931 = .ok (.invokestatic 260, 3) by decide +kernel) (by decide) (by omega) (by omega) rfl rfl (Nat.le_of_ble_eq_true rfl) (kL_delay w) (fun r504 h503 w => ?_)
  refine X_istore (ls' := [(0, .ref _), (1, .ref _), (2, .ref _), (3, .ref _), (4, .ref _), (5, .int _), (6, .int _)]) (show decode cL_law 1934 = .ok (.istore 6, 2) by decide +kernel) (by decide) rfl ?_
  refine X_aload_n (j := 2) (show decode cL_law 1936 = .ok (.aload_n 2, 1) by decide +kernel) rfl rfl ?_
  refine X_aload_n (j := 0) (show decode cL_law 1937 = .ok (.aload_n 0, 1) by decide +kernel) rfl rfl ?_
  refine X_iload (j := 5) (show decode cL_law 1938 = .ok (.iload 5, 2) by decide +kernel) rfl ?_
  refine X_iconst (v := (nI 1)) (show decode cL_law 1940 = .ok (.iconst 1, 1) by decide +kernel) (by decide) ?_
  refine X_iadd (show decode cL_law 1941 = .ok (.iadd, 1) by decide +kernel) ?_
  obtain ⟨s505, w⟩ := w
  obtain ⟨s506, w⟩ := w
  refine X_iald (show decode cL_law 1942 = .ok (.iaload, 1) by decide +kernel) (isA_eq s505) s506 ?_
  obtain ⟨s517, w⟩ := w
  refine X_vI (rc' := rc0) (rs' := rs0) (as := [.int _]) mv_L_262 (show decode cL_law 1943 = .ok (.invokevirtual 262, 3) by decide +kernel) (by decide) (by omega) (by omega) rfl rfl (Nat.le_of_ble_eq_true rfl) (rcvD s517 (by decide) rfl) (kX10_delay w) (fun E h hk => hk.elim) (fun r508 h507 w => ?_)
  refine X_istore (ls' := [(0, .ref _), (1, .ref _), (2, .ref _), (3, .ref _), (4, .ref _), (5, .int _), (6, .int _), (7, .int _)]) (show decode cL_law 1946 = .ok (.istore 7, 2) by decide +kernel) (by decide) rfl ?_
  refine X_aload_n (j := 2) (show decode cL_law 1948 = .ok (.aload_n 2, 1) by decide +kernel) rfl rfl ?_
  obtain ⟨s516, w⟩ := w
  refine X_vI (rc' := rc0) (rs' := rs0) (as := []) mv_L_168 (show decode cL_law 1949 = .ok (.invokevirtual 168, 3) by decide +kernel) (by decide) (by omega) (by omega) rfl rfl (Nat.le_of_ble_eq_true rfl) (rcvD s516 (by decide) rfl) (kX10_thrown w) (fun E h hk => hk.elim) (fun r510 h509 w => ?_)
  refine X_iload (j := 6) (show decode cL_law 1952 = .ok (.iload 6, 2) by decide +kernel) rfl ?_
  refine X_icmp_eq (tgt := 1959) (show decode cL_law 1954 = .ok (.if_icmp .eq 5, 3) by decide +kernel) (by decide) ⟨fun c511 => ?_, fun c511 => ?_⟩
  · have w := w.1 c511
    refine X_iload (j := 6) (show decode cL_law 1959 = .ok (.iload 6, 2) by decide +kernel) rfl ?_
    refine X_if_ne (tgt := 1976) (show decode cL_law 1961 = .ok (.ifCond .ne 15, 3) by decide +kernel) (by decide) ⟨fun c512 => ?_, fun c512 => ?_⟩
    · have w := w.1 c512
      refine X_goto (tgt := 2925) (show decode cL_law 1976 = .ok (.goto 949, 3) by decide +kernel) (by decide) ?_
      refine X_iinc (j := 5) (v := _ + (nI 4)) (ls' := [(0, .ref _), (1, .ref _), (2, .ref _), (3, .ref _), (4, .ref _), (5, .int _), (6, .int _), (7, .int _)]) (show decode cL_law 2925 = .ok (.iinc 5 4, 3) by decide +kernel) rfl rfl (Nat.le_of_ble_eq_true rfl) rfl ?_
      refine X_goto (tgt := 28) (show decode cL_law 2928 = .ok (.goto (-2900), 3) by decide +kernel) (by decide) ?_
      refine X_pick (ls' := [(0, .ref _), (1, .ref _), (2, .ref _), (3, .ref _), (4, .ref _), (5, .int _)]) [0, 1, 2, 3, 4, 5] rfl ?_
      exact hc28 _ _ _ _ _ _ _ w
    · have w := w.2 c512
      refine X_aload_n (j := 3) (show decode cL_law 1964 = .ok (.aload_n 3, 1) by decide +kernel) rfl rfl ?_
      refine X_iconst (v := (nI 0)) (show decode cL_law 1965 = .ok (.iconst 0, 1) by decide +kernel) (by decide) ?_
      obtain ⟨s513, w⟩ := w
      obtain ⟨s514, w⟩ := w
      refine X_lald (show decode cL_law 1966 = .ok (.laload, 1) by decide +kernel) (isA_eq s513) s514 ?_
      refine X_iload (j := 7) (show decode cL_law 1967 = .ok (.iload 7, 2) by decide +kernel) rfl ?_
      refine X_i2l (show decode cL_law 1969 = .ok (.i2l, 1) by decide +kernel) ?_
      refine X_lcmp (show decode cL_law 1970 = .ok (.lcmp, 1) by decide +kernel) ?_
      refine X_if_eq (tgt := 1976) (show decode cL_law 1971 = .ok (.ifCond .eq 5, 3) by decide +kernel) (by decide) ⟨fun c515 => ?_, fun c515 => ?_⟩
      · have w := w.1 c515
        refine X_goto (tgt := 2925) (show decode cL_law 1976 = .ok (.goto 949, 3) by decide +kernel) (by decide) ?_
        refine X_iinc (j := 5) (v := _ + (nI 4)) (ls' := [(0, .ref _), (1, .ref _), (2, .ref _), (3, .ref _), (4, .ref _), (5, .int _), (6, .int _), (7, .int _)]) (show decode cL_law 2925 = .ok (.iinc 5 4, 3) by decide +kernel) rfl rfl (Nat.le_of_ble_eq_true rfl) rfl ?_
        refine X_goto (tgt := 28) (show decode cL_law 2928 = .ok (.goto (-2900), 3) by decide +kernel) (by decide) ?_
        refine X_pick (ls' := [(0, .ref _), (1, .ref _), (2, .ref _), (3, .ref _), (4, .ref _), (5, .int _)]) [0, 1, 2, 3, 4, 5] rfl ?_
        exact hc28 _ _ _ _ _ _ _ w
      · have w := w.2 c515
        refine X_iconst (v := (nI 0)) (show decode cL_law 1974 = .ok (.iconst 0, 1) by decide +kernel) (by decide) ?_
        exact X_iret ⟨(show decode cL_law 1975 = .ok (.ireturn, 1) by decide +kernel), .boolean, rfl, (by decide)⟩ ⟨_, rfl, w⟩
  · have w := w.2 c511
    refine X_iconst (v := (nI 0)) (show decode cL_law 1957 = .ok (.iconst 0, 1) by decide +kernel) (by decide) ?_
    exact X_iret ⟨(show decode cL_law 1958 = .ok (.ireturn, 1) by decide +kernel), .boolean, rfl, (by decide)⟩ ⟨_, rfl, w⟩
set_option maxRecDepth 100000 in
set_option maxHeartbeats 4000000 in
theorem kL_law_J1979 {rc0 rs0 : Nat} {K : Int32 → AH → Prop} {c28 : Nat → Nat → Nat → Nat → Nat → Int32 → AH → Prop} (hc28 : ∀ x0 x1 x2 x3 x4 x5 h, c28 x0 x1 x2 x3 x4 x5 h → X mL_law 20 (KI K) T0 rc0 rs0 28 [(0, .ref x0), (1, .ref x1), (2, .ref x2), (3, .ref x3), (4, .ref x4), (5, .int x5)] [] h) (x0 : Nat) (x1 : Nat) (x2 : Nat) (x3 : Nat) (x4 : Nat) (x5 : Int32) (h : AH) (w : wL_law_J1979 K c28 x0 x1 x2 x3 x4 x5 h) : X mL_law 20 (KI K) T0 (rc0 + 1) (rs0 + 6) 1979 [(0, .ref x0), (1, .ref x1), (2, .ref x2), (3, .ref x3), (4, .ref x4), (5, .int x5)] [] h := by
  unfold wL_law_J1979 at w
  refine X_aload_n (j := 1) (show decode cL_law 1979 = .ok (.aload_n 1, 1) by decide +kernel) rfl rfl ?_
  refine X_aload_n (j := 0) (show decode cL_law 1980 = .ok (.aload_n 0, 1) by decide +kernel) rfl rfl ?_
  refine X_iload (j := 5) (show decode cL_law 1981 = .ok (.iload 5, 2) by decide +kernel) rfl ?_
  refine X_iconst (v := (nI 1)) (show decode cL_law 1983 = .ok (.iconst 1, 1) by decide +kernel) (by decide) ?_
  refine X_iadd (show decode cL_law 1984 = .ok (.iadd, 1) by decide +kernel) ?_
  obtain ⟨s518, w⟩ := w
  obtain ⟨s519, w⟩ := w
  refine X_iald (show decode cL_law 1985 = .ok (.iaload, 1) by decide +kernel) (isA_eq s518) s519 ?_
  refine X_aload_n (j := 3) (show decode cL_law 1986 = .ok (.aload_n 3, 1) by decide +kernel) rfl rfl ?_
  refine X_sH (rc' := rc0) (rs' := rs0) (as := [.ref _, .int _, .ref _]) msh_L_263 (show decode cL_law 1987 = .ok (.invokestatic 263, 3) by decide +kernel) (by decide) (by omega) (by omega) rfl rfl (Nat.le_of_ble_eq_true rfl) (kL_queued w) (fun r521 h520 w => ?_)
  refine X_istore (ls' := [(0, .ref _), (1, .ref _), (2, .ref _), (3, .ref _), (4, .ref _), (5, .int _), (6, .int _)]) (show decode cL_law 1990 = .ok (.istore 6, 2) by decide +kernel) (by decide) rfl ?_
  refine X_aload_n (j := 2) (show decode cL_law 1992 = .ok (.aload_n 2, 1) by decide +kernel) rfl rfl ?_
  refine X_aload_n (j := 0) (show decode cL_law 1993 = .ok (.aload_n 0, 1) by decide +kernel) rfl rfl ?_
  refine X_iload (j := 5) (show decode cL_law 1994 = .ok (.iload 5, 2) by decide +kernel) rfl ?_
  refine X_iconst (v := (nI 1)) (show decode cL_law 1996 = .ok (.iconst 1, 1) by decide +kernel) (by decide) ?_
  refine X_iadd (show decode cL_law 1997 = .ok (.iadd, 1) by decide +kernel) ?_
  obtain ⟨s522, w⟩ := w
  obtain ⟨s523, w⟩ := w
  refine X_iald (show decode cL_law 1998 = .ok (.iaload, 1) by decide +kernel) (isA_eq s522) s523 ?_
  obtain ⟨s534, w⟩ := w
  refine X_vI (rc' := rc0) (rs' := rs0) (as := [.int _]) mv_L_265 (show decode cL_law 1999 = .ok (.invokevirtual 265, 3) by decide +kernel) (by decide) (by omega) (by omega) rfl rfl (Nat.le_of_ble_eq_true rfl) (rcvD s534 (by decide) rfl) (kX10_queued w) (fun E h hk => hk.elim) (fun r525 h524 w => ?_)
  refine X_istore (ls' := [(0, .ref _), (1, .ref _), (2, .ref _), (3, .ref _), (4, .ref _), (5, .int _), (6, .int _), (7, .int _)]) (show decode cL_law 2002 = .ok (.istore 7, 2) by decide +kernel) (by decide) rfl ?_
  refine X_aload_n (j := 2) (show decode cL_law 2004 = .ok (.aload_n 2, 1) by decide +kernel) rfl rfl ?_
  obtain ⟨s533, w⟩ := w
  refine X_vI (rc' := rc0) (rs' := rs0) (as := []) mv_L_168 (show decode cL_law 2005 = .ok (.invokevirtual 168, 3) by decide +kernel) (by decide) (by omega) (by omega) rfl rfl (Nat.le_of_ble_eq_true rfl) (rcvD s533 (by decide) rfl) (kX10_thrown w) (fun E h hk => hk.elim) (fun r527 h526 w => ?_)
  refine X_iload (j := 6) (show decode cL_law 2008 = .ok (.iload 6, 2) by decide +kernel) rfl ?_
  refine X_icmp_eq (tgt := 2015) (show decode cL_law 2010 = .ok (.if_icmp .eq 5, 3) by decide +kernel) (by decide) ⟨fun c528 => ?_, fun c528 => ?_⟩
  · have w := w.1 c528
    refine X_iload (j := 6) (show decode cL_law 2015 = .ok (.iload 6, 2) by decide +kernel) rfl ?_
    refine X_if_ne (tgt := 2032) (show decode cL_law 2017 = .ok (.ifCond .ne 15, 3) by decide +kernel) (by decide) ⟨fun c529 => ?_, fun c529 => ?_⟩
    · have w := w.1 c529
      refine X_goto (tgt := 2925) (show decode cL_law 2032 = .ok (.goto 893, 3) by decide +kernel) (by decide) ?_
      refine X_iinc (j := 5) (v := _ + (nI 4)) (ls' := [(0, .ref _), (1, .ref _), (2, .ref _), (3, .ref _), (4, .ref _), (5, .int _), (6, .int _), (7, .int _)]) (show decode cL_law 2925 = .ok (.iinc 5 4, 3) by decide +kernel) rfl rfl (Nat.le_of_ble_eq_true rfl) rfl ?_
      refine X_goto (tgt := 28) (show decode cL_law 2928 = .ok (.goto (-2900), 3) by decide +kernel) (by decide) ?_
      refine X_pick (ls' := [(0, .ref _), (1, .ref _), (2, .ref _), (3, .ref _), (4, .ref _), (5, .int _)]) [0, 1, 2, 3, 4, 5] rfl ?_
      exact hc28 _ _ _ _ _ _ _ w
    · have w := w.2 c529
      refine X_aload_n (j := 3) (show decode cL_law 2020 = .ok (.aload_n 3, 1) by decide +kernel) rfl rfl ?_
      refine X_iconst (v := (nI 0)) (show decode cL_law 2021 = .ok (.iconst 0, 1) by decide +kernel) (by decide) ?_
      obtain ⟨s530, w⟩ := w
      obtain ⟨s531, w⟩ := w
      refine X_lald (show decode cL_law 2022 = .ok (.laload, 1) by decide +kernel) (isA_eq s530) s531 ?_
      refine X_iload (j := 7) (show decode cL_law 2023 = .ok (.iload 7, 2) by decide +kernel) rfl ?_
      refine X_i2l (show decode cL_law 2025 = .ok (.i2l, 1) by decide +kernel) ?_
      refine X_lcmp (show decode cL_law 2026 = .ok (.lcmp, 1) by decide +kernel) ?_
      refine X_if_eq (tgt := 2032) (show decode cL_law 2027 = .ok (.ifCond .eq 5, 3) by decide +kernel) (by decide) ⟨fun c532 => ?_, fun c532 => ?_⟩
      · have w := w.1 c532
        refine X_goto (tgt := 2925) (show decode cL_law 2032 = .ok (.goto 893, 3) by decide +kernel) (by decide) ?_
        refine X_iinc (j := 5) (v := _ + (nI 4)) (ls' := [(0, .ref _), (1, .ref _), (2, .ref _), (3, .ref _), (4, .ref _), (5, .int _), (6, .int _), (7, .int _)]) (show decode cL_law 2925 = .ok (.iinc 5 4, 3) by decide +kernel) rfl rfl (Nat.le_of_ble_eq_true rfl) rfl ?_
        refine X_goto (tgt := 28) (show decode cL_law 2928 = .ok (.goto (-2900), 3) by decide +kernel) (by decide) ?_
        refine X_pick (ls' := [(0, .ref _), (1, .ref _), (2, .ref _), (3, .ref _), (4, .ref _), (5, .int _)]) [0, 1, 2, 3, 4, 5] rfl ?_
        exact hc28 _ _ _ _ _ _ _ w
      · have w := w.2 c532
        refine X_iconst (v := (nI 0)) (show decode cL_law 2030 = .ok (.iconst 0, 1) by decide +kernel) (by decide) ?_
        exact X_iret ⟨(show decode cL_law 2031 = .ok (.ireturn, 1) by decide +kernel), .boolean, rfl, (by decide)⟩ ⟨_, rfl, w⟩
  · have w := w.2 c528
    refine X_iconst (v := (nI 0)) (show decode cL_law 2013 = .ok (.iconst 0, 1) by decide +kernel) (by decide) ?_
    exact X_iret ⟨(show decode cL_law 2014 = .ok (.ireturn, 1) by decide +kernel), .boolean, rfl, (by decide)⟩ ⟨_, rfl, w⟩
set_option maxRecDepth 100000 in
set_option maxHeartbeats 4000000 in
theorem kL_law_J2101 {rc0 rs0 : Nat} {K : Int32 → AH → Prop} {c28 : Nat → Nat → Nat → Nat → Nat → Int32 → AH → Prop} (hc28 : ∀ x0 x1 x2 x3 x4 x5 h, c28 x0 x1 x2 x3 x4 x5 h → X mL_law 20 (KI K) T0 rc0 rs0 28 [(0, .ref x0), (1, .ref x1), (2, .ref x2), (3, .ref x3), (4, .ref x4), (5, .int x5)] [] h) (x0 : Nat) (x1 : Nat) (x2 : Nat) (x3 : Nat) (x4 : Nat) (x5 : Int32) (y0 : Int64) (y1 : Int64) (h : AH) (w : wL_law_J2101 K c28 x0 x1 x2 x3 x4 x5 y0 y1 h) : X mL_law 20 (KI K) T0 rc0 rs0 2101 [(0, .ref x0), (1, .ref x1), (2, .ref x2), (3, .ref x3), (4, .ref x4), (5, .int x5)] [.long y1, .long y0] h := by
  unfold wL_law_J2101 at w
  refine X_lcmp (show decode cL_law 2101 = .ok (.lcmp, 1) by decide +kernel) ?_
  refine X_if_eq (tgt := 2107) (show decode cL_law 2102 = .ok (.ifCond .eq 5, 3) by decide +kernel) (by decide) ⟨fun c552 => ?_, fun c552 => ?_⟩
  · have w := w.1 c552
    refine X_goto (tgt := 2925) (show decode cL_law 2107 = .ok (.goto 818, 3) by decide +kernel) (by decide) ?_
    refine X_iinc (j := 5) (v := _ + (nI 4)) (ls' := [(0, .ref _), (1, .ref _), (2, .ref _), (3, .ref _), (4, .ref _), (5, .int _)]) (show decode cL_law 2925 = .ok (.iinc 5 4, 3) by decide +kernel) rfl rfl (Nat.le_of_ble_eq_true rfl) rfl ?_
    refine X_goto (tgt := 28) (show decode cL_law 2928 = .ok (.goto (-2900), 3) by decide +kernel) (by decide) ?_
    exact hc28 _ _ _ _ _ _ _ w
  · have w := w.2 c552
    refine X_iconst (v := (nI 0)) (show decode cL_law 2105 = .ok (.iconst 0, 1) by decide +kernel) (by decide) ?_
    exact X_iret ⟨(show decode cL_law 2106 = .ok (.ireturn, 1) by decide +kernel), .boolean, rfl, (by decide)⟩ ⟨_, rfl, w⟩
set_option maxRecDepth 100000 in
set_option maxHeartbeats 4000000 in
theorem kL_law_J2035 {rc0 rs0 : Nat} {K : Int32 → AH → Prop} {c28 : Nat → Nat → Nat → Nat → Nat → Int32 → AH → Prop} (hc28 : ∀ x0 x1 x2 x3 x4 x5 h, c28 x0 x1 x2 x3 x4 x5 h → X mL_law 20 (KI K) T0 rc0 rs0 28 [(0, .ref x0), (1, .ref x1), (2, .ref x2), (3, .ref x3), (4, .ref x4), (5, .int x5)] [] h) (x0 : Nat) (x1 : Nat) (x2 : Nat) (x3 : Nat) (x4 : Nat) (x5 : Int32) (h : AH) (w : wL_law_J2035 K c28 x0 x1 x2 x3 x4 x5 h) : X mL_law 20 (KI K) T0 (rc0 + 2) (rs0 + 12) 2035 [(0, .ref x0), (1, .ref x1), (2, .ref x2), (3, .ref x3), (4, .ref x4), (5, .int x5)] [] h := by
  unfold wL_law_J2035 at w
  refine X_aload_n (j := 1) (show decode cL_law 2035 = .ok (.aload_n 1, 1) by decide +kernel) rfl rfl ?_
  refine X_aload_n (j := 0) (show decode cL_law 2036 = .ok (.aload_n 0, 1) by decide +kernel) rfl rfl ?_
  refine X_iload (j := 5) (show decode cL_law 2037 = .ok (.iload 5, 2) by decide +kernel) rfl ?_
  refine X_iconst (v := (nI 1)) (show decode cL_law 2039 = .ok (.iconst 1, 1) by decide +kernel) (by decide) ?_
  refine X_iadd (show decode cL_law 2040 = .ok (.iadd, 1) by decide +kernel) ?_
  obtain ⟨s535, w⟩ := w
  obtain ⟨s536, w⟩ := w
  refine X_iald (show decode cL_law 2041 = .ok (.iaload, 1) by decide +kernel) (isA_eq s535) s536 ?_
  refine X_aload_n (j := 0) (show decode cL_law 2042 = .ok (.aload_n 0, 1) by decide +kernel) rfl rfl ?_
  refine X_iload (j := 5) (show decode cL_law 2043 = .ok (.iload 5, 2) by decide +kernel) rfl ?_
  refine X_iconst (v := (nI 2)) (show decode cL_law 2045 = .ok (.iconst 2, 1) by decide +kernel) (by decide) ?_
  refine X_iadd (show decode cL_law 2046 = .ok (.iadd, 1) by decide +kernel) ?_
  obtain ⟨s537, w⟩ := w
  refine X_iald (show decode cL_law 2047 = .ok (.iaload, 1) by decide +kernel) (isA_eq s535) s537 ?_
  refine X_aload_n (j := 3) (show decode cL_law 2048 = .ok (.aload_n 3, 1) by decide +kernel) rfl rfl ?_
  refine X_sH (rc' := rc0) (rs' := rs0) (as := [.ref _, .int _, .int _, .ref _]) msh_L_266 (show decode cL_law 2049 = .ok (.invokestatic 266, 3) by decide +kernel) (by decide) (by omega) (by omega) rfl rfl (Nat.le_of_ble_eq_true rfl) (kL_waitsFor w) (fun r539 h538 w => ?_)
  refine X_istore (ls' := [(0, .ref _), (1, .ref _), (2, .ref _), (3, .ref _), (4, .ref _), (5, .int _), (6, .int _)]) (show decode cL_law 2052 = .ok (.istore 6, 2) by decide +kernel) (by decide) rfl ?_
  refine X_aload_n (j := 2) (show decode cL_law 2054 = .ok (.aload_n 2, 1) by decide +kernel) rfl rfl ?_
  refine X_aload_n (j := 0) (show decode cL_law 2055 = .ok (.aload_n 0, 1) by decide +kernel) rfl rfl ?_
  refine X_iload (j := 5) (show decode cL_law 2056 = .ok (.iload 5, 2) by decide +kernel) rfl ?_
  refine X_iconst (v := (nI 1)) (show decode cL_law 2058 = .ok (.iconst 1, 1) by decide +kernel) (by decide) ?_
  refine X_iadd (show decode cL_law 2059 = .ok (.iadd, 1) by decide +kernel) ?_
  obtain ⟨s540, w⟩ := w
  obtain ⟨s541, w⟩ := w
  refine X_iald (show decode cL_law 2060 = .ok (.iaload, 1) by decide +kernel) (isA_eq s540) s541 ?_
  refine X_aload_n (j := 0) (show decode cL_law 2061 = .ok (.aload_n 0, 1) by decide +kernel) rfl rfl ?_
  refine X_iload (j := 5) (show decode cL_law 2062 = .ok (.iload 5, 2) by decide +kernel) rfl ?_
  refine X_iconst (v := (nI 2)) (show decode cL_law 2064 = .ok (.iconst 2, 1) by decide +kernel) (by decide) ?_
  refine X_iadd (show decode cL_law 2065 = .ok (.iadd, 1) by decide +kernel) ?_
  obtain ⟨s542, w⟩ := w
  refine X_iald (show decode cL_law 2066 = .ok (.iaload, 1) by decide +kernel) (isA_eq s540) s542 ?_
  obtain ⟨s554, w⟩ := w
  refine X_vI (rc' := rc0) (rs' := rs0) (as := [.int _, .int _]) mv_L_268 (show decode cL_law 2067 = .ok (.invokevirtual 268, 3) by decide +kernel) (by decide) (by omega) (by omega) rfl rfl (Nat.le_of_ble_eq_true rfl) (rcvD s554 (by decide) rfl) (kX10_waitsFor w) (fun E h hk => hk.elim) (fun r544 h543 w => ?_)
  refine X_istore (ls' := [(0, .ref _), (1, .ref _), (2, .ref _), (3, .ref _), (4, .ref _), (5, .int _), (6, .int _), (7, .int _)]) (show decode cL_law 2070 = .ok (.istore 7, 2) by decide +kernel) (by decide) rfl ?_
  refine X_aload_n (j := 2) (show decode cL_law 2072 = .ok (.aload_n 2, 1) by decide +kernel) rfl rfl ?_
  obtain ⟨s553, w⟩ := w
  refine X_vI (rc' := rc0) (rs' := rs0) (as := []) mv_L_168 (show decode cL_law 2073 = .ok (.invokevirtual 168, 3) by decide +kernel) (by decide) (by omega) (by omega) rfl rfl (Nat.le_of_ble_eq_true rfl) (rcvD s553 (by decide) rfl) (kX10_thrown w) (fun E h hk => hk.elim) (fun r546 h545 w => ?_)
  refine X_iload (j := 6) (show decode cL_law 2076 = .ok (.iload 6, 2) by decide +kernel) rfl ?_
  refine X_icmp_eq (tgt := 2083) (show decode cL_law 2078 = .ok (.if_icmp .eq 5, 3) by decide +kernel) (by decide) ⟨fun c547 => ?_, fun c547 => ?_⟩
  · have w := w.1 c547
    refine X_iload (j := 6) (show decode cL_law 2083 = .ok (.iload 6, 2) by decide +kernel) rfl ?_
    refine X_if_ne (tgt := 2107) (show decode cL_law 2085 = .ok (.ifCond .ne 22, 3) by decide +kernel) (by decide) ⟨fun c548 => ?_, fun c548 => ?_⟩
    · have w := w.1 c548
      refine X_goto (tgt := 2925) (show decode cL_law 2107 = .ok (.goto 818, 3) by decide +kernel) (by decide) ?_
      refine X_iinc (j := 5) (v := _ + (nI 4)) (ls' := [(0, .ref _), (1, .ref _), (2, .ref _), (3, .ref _), (4, .ref _), (5, .int _), (6, .int _), (7, .int _)]) (show decode cL_law 2925 = .ok (.iinc 5 4, 3) by decide +kernel) rfl rfl (Nat.le_of_ble_eq_true rfl) rfl ?_
      refine X_goto (tgt := 28) (show decode cL_law 2928 = .ok (.goto (-2900), 3) by decide +kernel) (by decide) ?_
      refine X_pick (ls' := [(0, .ref _), (1, .ref _), (2, .ref _), (3, .ref _), (4, .ref _), (5, .int _)]) [0, 1, 2, 3, 4, 5] rfl ?_
      exact hc28 _ _ _ _ _ _ _ w
    · have w := w.2 c548
      refine X_aload_n (j := 3) (show decode cL_law 2088 = .ok (.aload_n 3, 1) by decide +kernel) rfl rfl ?_
      refine X_iconst (v := (nI 0)) (show decode cL_law 2089 = .ok (.iconst 0, 1) by decide +kernel) (by decide) ?_
      obtain ⟨s549, w⟩ := w
      obtain ⟨s550, w⟩ := w
      refine X_lald (show decode cL_law 2090 = .ok (.laload, 1) by decide +kernel) (isA_eq s549) s550 ?_
      refine X_iload (j := 7) (show decode cL_law 2091 = .ok (.iload 7, 2) by decide +kernel) rfl ?_
      refine X_if_eq (tgt := 2100) (show decode cL_law 2093 = .ok (.ifCond .eq 7, 3) by decide +kernel) (by decide) ⟨fun c551 => ?_, fun c551 => ?_⟩
      · have w := w.1 c551
        refine X_lconst (v := 0) (show decode cL_law 2100 = .ok (.lconst 0, 1) by decide +kernel) (by decide) ?_
        refine X_pick (ls' := [(0, .ref _), (1, .ref _), (2, .ref _), (3, .ref _), (4, .ref _), (5, .int _)]) [0, 1, 2, 3, 4, 5] rfl ?_
        exact kL_law_J2101 hc28 _ _ _ _ _ _ _ _ _ w
      · have w := w.2 c551
        refine X_lconst (v := 1) (show decode cL_law 2096 = .ok (.lconst 1, 1) by decide +kernel) (by decide) ?_
        refine X_goto (tgt := 2101) (show decode cL_law 2097 = .ok (.goto 4, 3) by decide +kernel) (by decide) ?_
        refine X_pick (ls' := [(0, .ref _), (1, .ref _), (2, .ref _), (3, .ref _), (4, .ref _), (5, .int _)]) [0, 1, 2, 3, 4, 5] rfl ?_
        exact kL_law_J2101 hc28 _ _ _ _ _ _ _ _ _ w
  · have w := w.2 c547
    refine X_iconst (v := (nI 0)) (show decode cL_law 2081 = .ok (.iconst 0, 1) by decide +kernel) (by decide) ?_
    exact X_iret ⟨(show decode cL_law 2082 = .ok (.ireturn, 1) by decide +kernel), .boolean, rfl, (by decide)⟩ ⟨_, rfl, w⟩
set_option maxRecDepth 100000 in
set_option maxHeartbeats 4000000 in
theorem kL_law_J2110 {rc0 rs0 : Nat} {K : Int32 → AH → Prop} {c28 : Nat → Nat → Nat → Nat → Nat → Int32 → AH → Prop} (hc28 : ∀ x0 x1 x2 x3 x4 x5 h, c28 x0 x1 x2 x3 x4 x5 h → X mL_law 20 (KI K) T0 rc0 rs0 28 [(0, .ref x0), (1, .ref x1), (2, .ref x2), (3, .ref x3), (4, .ref x4), (5, .int x5)] [] h) (x0 : Nat) (x1 : Nat) (x2 : Nat) (x3 : Nat) (x4 : Nat) (x5 : Int32) (h : AH) (w : wL_law_J2110 K c28 x0 x1 x2 x3 x4 x5 h) : X mL_law 20 (KI K) T0 rc0 rs0 2110 [(0, .ref x0), (1, .ref x1), (2, .ref x2), (3, .ref x3), (4, .ref x4), (5, .int x5)] [] h := by
  unfold wL_law_J2110 at w
  refine X_aload_n (j := 1) (show decode cL_law 2110 = .ok (.aload_n 1, 1) by decide +kernel) rfl rfl ?_
  obtain ⟨s561, w⟩ := w
  refine X_vI (rc' := rc0) (rs' := rs0) (as := []) mv_L_269 (show decode cL_law 2111 = .ok (.invokevirtual 269, 3) by decide +kernel) (by decide) (by omega) (by omega) rfl rfl (Nat.le_of_ble_eq_true rfl) (rcvD s561 (by decide) rfl) (kX9_deadlocked w) (fun E h hk => hk.elim) (fun r556 h555 w => ?_)
  refine X_aload_n (j := 2) (show decode cL_law 2114 = .ok (.aload_n 2, 1) by decide +kernel) rfl rfl ?_
  obtain ⟨s560, w⟩ := w
  refine X_vI (rc' := rc0) (rs' := rs0) (as := []) mv_L_272 (show decode cL_law 2115 = .ok (.invokevirtual 272, 3) by decide +kernel) (by decide) (by omega) (by omega) rfl rfl (Nat.le_of_ble_eq_true rfl) (rcvD s560 (by decide) rfl) (kX10_deadlocked w) (fun E h hk => hk.elim) (fun r558 h557 w => ?_)
  refine X_icmp_eq (tgt := 2925) (show decode cL_law 2118 = .ok (.if_icmp .eq 807, 3) by decide +kernel) (by decide) ⟨fun c559 => ?_, fun c559 => ?_⟩
  · have w := w.1 c559
    refine X_iinc (j := 5) (v := _ + (nI 4)) (ls' := [(0, .ref _), (1, .ref _), (2, .ref _), (3, .ref _), (4, .ref _), (5, .int _)]) (show decode cL_law 2925 = .ok (.iinc 5 4, 3) by decide +kernel) rfl rfl (Nat.le_of_ble_eq_true rfl) rfl ?_
    refine X_goto (tgt := 28) (show decode cL_law 2928 = .ok (.goto (-2900), 3) by decide +kernel) (by decide) ?_
    exact hc28 _ _ _ _ _ _ _ w
  · have w := w.2 c559
    refine X_iconst (v := (nI 0)) (show decode cL_law 2121 = .ok (.iconst 0, 1) by decide +kernel) (by decide) ?_
    exact X_iret ⟨(show decode cL_law 2122 = .ok (.ireturn, 1) by decide +kernel), .boolean, rfl, (by decide)⟩ ⟨_, rfl, w⟩
set_option maxRecDepth 100000 in
set_option maxHeartbeats 4000000 in
theorem kL_law_J2123 {rc0 rs0 : Nat} {K : Int32 → AH → Prop} {c28 : Nat → Nat → Nat → Nat → Nat → Int32 → AH → Prop} (hc28 : ∀ x0 x1 x2 x3 x4 x5 h, c28 x0 x1 x2 x3 x4 x5 h → X mL_law 20 (KI K) T0 rc0 rs0 28 [(0, .ref x0), (1, .ref x1), (2, .ref x2), (3, .ref x3), (4, .ref x4), (5, .int x5)] [] h) (x0 : Nat) (x1 : Nat) (x2 : Nat) (x3 : Nat) (x4 : Nat) (x5 : Int32) (h : AH) (w : wL_law_J2123 K c28 x0 x1 x2 x3 x4 x5 h) : X mL_law 20 (KI K) T0 rc0 rs0 2123 [(0, .ref x0), (1, .ref x1), (2, .ref x2), (3, .ref x3), (4, .ref x4), (5, .int x5)] [] h := by
  unfold wL_law_J2123 at w
  refine X_aload_n (j := 1) (show decode cL_law 2123 = .ok (.aload_n 1, 1) by decide +kernel) rfl rfl ?_
  obtain ⟨s568, w⟩ := w
  refine X_vI (rc' := rc0) (rs' := rs0) (as := []) mv_L_273 (show decode cL_law 2124 = .ok (.invokevirtual 273, 3) by decide +kernel) (by decide) (by omega) (by omega) rfl rfl (Nat.le_of_ble_eq_true rfl) (rcvD s568 (by decide) rfl) (kX9_deadlockedByPairs w) (fun E h hk => hk.elim) (fun r563 h562 w => ?_)
  refine X_aload_n (j := 2) (show decode cL_law 2127 = .ok (.aload_n 2, 1) by decide +kernel) rfl rfl ?_
  obtain ⟨s567, w⟩ := w
  refine X_vI (rc' := rc0) (rs' := rs0) (as := []) mv_L_276 (show decode cL_law 2128 = .ok (.invokevirtual 276, 3) by decide +kernel) (by decide) (by omega) (by omega) rfl rfl (Nat.le_of_ble_eq_true rfl) (rcvD s567 (by decide) rfl) (kX10_deadlockedByPairs w) (fun E h hk => hk.elim) (fun r565 h564 w => ?_)
  refine X_icmp_eq (tgt := 2925) (show decode cL_law 2131 = .ok (.if_icmp .eq 794, 3) by decide +kernel) (by decide) ⟨fun c566 => ?_, fun c566 => ?_⟩
  · have w := w.1 c566
    refine X_iinc (j := 5) (v := _ + (nI 4)) (ls' := [(0, .ref _), (1, .ref _), (2, .ref _), (3, .ref _), (4, .ref _), (5, .int _)]) (show decode cL_law 2925 = .ok (.iinc 5 4, 3) by decide +kernel) rfl rfl (Nat.le_of_ble_eq_true rfl) rfl ?_
    refine X_goto (tgt := 28) (show decode cL_law 2928 = .ok (.goto (-2900), 3) by decide +kernel) (by decide) ?_
    exact hc28 _ _ _ _ _ _ _ w
  · have w := w.2 c566
    refine X_iconst (v := (nI 0)) (show decode cL_law 2134 = .ok (.iconst 0, 1) by decide +kernel) (by decide) ?_
    exact X_iret ⟨(show decode cL_law 2135 = .ok (.ireturn, 1) by decide +kernel), .boolean, rfl, (by decide)⟩ ⟨_, rfl, w⟩
set_option maxRecDepth 100000 in
set_option maxHeartbeats 4000000 in
theorem kL_law_J2202 {rc0 rs0 : Nat} {K : Int32 → AH → Prop} {c28 : Nat → Nat → Nat → Nat → Nat → Int32 → AH → Prop} (hc28 : ∀ x0 x1 x2 x3 x4 x5 h, c28 x0 x1 x2 x3 x4 x5 h → X mL_law 20 (KI K) T0 rc0 rs0 28 [(0, .ref x0), (1, .ref x1), (2, .ref x2), (3, .ref x3), (4, .ref x4), (5, .int x5)] [] h) (x0 : Nat) (x1 : Nat) (x2 : Nat) (x3 : Nat) (x4 : Nat) (x5 : Int32) (y0 : Int64) (y1 : Int64) (h : AH) (w : wL_law_J2202 K c28 x0 x1 x2 x3 x4 x5 y0 y1 h) : X mL_law 20 (KI K) T0 rc0 rs0 2202 [(0, .ref x0), (1, .ref x1), (2, .ref x2), (3, .ref x3), (4, .ref x4), (5, .int x5)] [.long y1, .long y0] h := by
  unfold wL_law_J2202 at w
  refine X_lcmp (show decode cL_law 2202 = .ok (.lcmp, 1) by decide +kernel) ?_
  refine X_if_eq (tgt := 2208) (show decode cL_law 2203 = .ok (.ifCond .eq 5, 3) by decide +kernel) (by decide) ⟨fun c586 => ?_, fun c586 => ?_⟩
  · have w := w.1 c586
    refine X_goto (tgt := 2925) (show decode cL_law 2208 = .ok (.goto 717, 3) by decide +kernel) (by decide) ?_
    refine X_iinc (j := 5) (v := _ + (nI 4)) (ls' := [(0, .ref _), (1, .ref _), (2, .ref _), (3, .ref _), (4, .ref _), (5, .int _)]) (show decode cL_law 2925 = .ok (.iinc 5 4, 3) by decide +kernel) rfl rfl (Nat.le_of_ble_eq_true rfl) rfl ?_
    refine X_goto (tgt := 28) (show decode cL_law 2928 = .ok (.goto (-2900), 3) by decide +kernel) (by decide) ?_
    exact hc28 _ _ _ _ _ _ _ w
  · have w := w.2 c586
    refine X_iconst (v := (nI 0)) (show decode cL_law 2206 = .ok (.iconst 0, 1) by decide +kernel) (by decide) ?_
    exact X_iret ⟨(show decode cL_law 2207 = .ok (.ireturn, 1) by decide +kernel), .boolean, rfl, (by decide)⟩ ⟨_, rfl, w⟩
set_option maxRecDepth 100000 in
set_option maxHeartbeats 4000000 in
theorem kL_law_J2136 {rc0 rs0 : Nat} {K : Int32 → AH → Prop} {c28 : Nat → Nat → Nat → Nat → Nat → Int32 → AH → Prop} (hc28 : ∀ x0 x1 x2 x3 x4 x5 h, c28 x0 x1 x2 x3 x4 x5 h → X mL_law 20 (KI K) T0 rc0 rs0 28 [(0, .ref x0), (1, .ref x1), (2, .ref x2), (3, .ref x3), (4, .ref x4), (5, .int x5)] [] h) (x0 : Nat) (x1 : Nat) (x2 : Nat) (x3 : Nat) (x4 : Nat) (x5 : Int32) (h : AH) (w : wL_law_J2136 K c28 x0 x1 x2 x3 x4 x5 h) : X mL_law 20 (KI K) T0 (rc0 + 3) (rs0 + 18) 2136 [(0, .ref x0), (1, .ref x1), (2, .ref x2), (3, .ref x3), (4, .ref x4), (5, .int x5)] [] h := by
  unfold wL_law_J2136 at w
  refine X_aload_n (j := 1) (show decode cL_law 2136 = .ok (.aload_n 1, 1) by decide +kernel) rfl rfl ?_
  refine X_aload_n (j := 0) (show decode cL_law 2137 = .ok (.aload_n 0, 1) by decide +kernel) rfl rfl ?_
  refine X_iload (j := 5) (show decode cL_law 2138 = .ok (.iload 5, 2) by decide +kernel) rfl ?_
  refine X_iconst (v := (nI 1)) (show decode cL_law 2140 = .ok (.iconst 1, 1) by decide +kernel) (by decide) ?_
  refine X_iadd (show decode cL_law 2141 = .ok (.iadd, 1) by decide +kernel) ?_
  obtain ⟨s569, w⟩ := w
  obtain ⟨s570, w⟩ := w
  refine X_iald (show decode cL_law 2142 = .ok (.iaload, 1) by decide +kernel) (isA_eq s569) s570 ?_
  refine X_aload_n (j := 0) (show decode cL_law 2143 = .ok (.aload_n 0, 1) by decide +kernel) rfl rfl ?_
  refine X_iload (j := 5) (show decode cL_law 2144 = .ok (.iload 5, 2) by decide +kernel) rfl ?_
  refine X_iconst (v := (nI 2)) (show decode cL_law 2146 = .ok (.iconst 2, 1) by decide +kernel) (by decide) ?_
  refine X_iadd (show decode cL_law 2147 = .ok (.iadd, 1) by decide +kernel) ?_
  obtain ⟨s571, w⟩ := w
  refine X_iald (show decode cL_law 2148 = .ok (.iaload, 1) by decide +kernel) (isA_eq s569) s571 ?_
  refine X_aload_n (j := 3) (show decode cL_law 2149 = .ok (.aload_n 3, 1) by decide +kernel) rfl rfl ?_
  refine X_sH (rc' := rc0) (rs' := rs0) (as := [.ref _, .int _, .int _, .ref _]) msh_L_277 (show decode cL_law 2150 = .ok (.invokestatic 277, 3) by decide +kernel) (by decide) (by omega) (by omega) rfl rfl (Nat.le_of_ble_eq_true rfl) (kL_conflict w) (fun r573 h572 w => ?_)
  refine X_istore (ls' := [(0, .ref _), (1, .ref _), (2, .ref _), (3, .ref _), (4, .ref _), (5, .int _), (6, .int _)]) (show decode cL_law 2153 = .ok (.istore 6, 2) by decide +kernel) (by decide) rfl ?_
  refine X_aload_n (j := 2) (show decode cL_law 2155 = .ok (.aload_n 2, 1) by decide +kernel) rfl rfl ?_
  refine X_aload_n (j := 0) (show decode cL_law 2156 = .ok (.aload_n 0, 1) by decide +kernel) rfl rfl ?_
  refine X_iload (j := 5) (show decode cL_law 2157 = .ok (.iload 5, 2) by decide +kernel) rfl ?_
  refine X_iconst (v := (nI 1)) (show decode cL_law 2159 = .ok (.iconst 1, 1) by decide +kernel) (by decide) ?_
  refine X_iadd (show decode cL_law 2160 = .ok (.iadd, 1) by decide +kernel) ?_
  obtain ⟨s574, w⟩ := w
  obtain ⟨s575, w⟩ := w
  refine X_iald (show decode cL_law 2161 = .ok (.iaload, 1) by decide +kernel) (isA_eq s574) s575 ?_
  refine X_aload_n (j := 0) (show decode cL_law 2162 = .ok (.aload_n 0, 1) by decide +kernel) rfl rfl ?_
  refine X_iload (j := 5) (show decode cL_law 2163 = .ok (.iload 5, 2) by decide +kernel) rfl ?_
  refine X_iconst (v := (nI 2)) (show decode cL_law 2165 = .ok (.iconst 2, 1) by decide +kernel) (by decide) ?_
  refine X_iadd (show decode cL_law 2166 = .ok (.iadd, 1) by decide +kernel) ?_
  obtain ⟨s576, w⟩ := w
  refine X_iald (show decode cL_law 2167 = .ok (.iaload, 1) by decide +kernel) (isA_eq s574) s576 ?_
  obtain ⟨s588, w⟩ := w
  refine X_vI (rc' := rc0) (rs' := rs0) (as := [.int _, .int _]) mv_L_279 (show decode cL_law 2168 = .ok (.invokevirtual 279, 3) by decide +kernel) (by decide) (by omega) (by omega) rfl rfl (Nat.le_of_ble_eq_true rfl) (rcvD s588 (by decide) rfl) (kX10_conflict w) (fun E h hk => hk.elim) (fun r578 h577 w => ?_)
  refine X_istore (ls' := [(0, .ref _), (1, .ref _), (2, .ref _), (3, .ref _), (4, .ref _), (5, .int _), (6, .int _), (7, .int _)]) (show decode cL_law 2171 = .ok (.istore 7, 2) by decide +kernel) (by decide) rfl ?_
  refine X_aload_n (j := 2) (show decode cL_law 2173 = .ok (.aload_n 2, 1) by decide +kernel) rfl rfl ?_
  obtain ⟨s587, w⟩ := w
  refine X_vI (rc' := rc0) (rs' := rs0) (as := []) mv_L_168 (show decode cL_law 2174 = .ok (.invokevirtual 168, 3) by decide +kernel) (by decide) (by omega) (by omega) rfl rfl (Nat.le_of_ble_eq_true rfl) (rcvD s587 (by decide) rfl) (kX10_thrown w) (fun E h hk => hk.elim) (fun r580 h579 w => ?_)
  refine X_iload (j := 6) (show decode cL_law 2177 = .ok (.iload 6, 2) by decide +kernel) rfl ?_
  refine X_icmp_eq (tgt := 2184) (show decode cL_law 2179 = .ok (.if_icmp .eq 5, 3) by decide +kernel) (by decide) ⟨fun c581 => ?_, fun c581 => ?_⟩
  · have w := w.1 c581
    refine X_iload (j := 6) (show decode cL_law 2184 = .ok (.iload 6, 2) by decide +kernel) rfl ?_
    refine X_if_ne (tgt := 2208) (show decode cL_law 2186 = .ok (.ifCond .ne 22, 3) by decide +kernel) (by decide) ⟨fun c582 => ?_, fun c582 => ?_⟩
    · have w := w.1 c582
      refine X_goto (tgt := 2925) (show decode cL_law 2208 = .ok (.goto 717, 3) by decide +kernel) (by decide) ?_
      refine X_iinc (j := 5) (v := _ + (nI 4)) (ls' := [(0, .ref _), (1, .ref _), (2, .ref _), (3, .ref _), (4, .ref _), (5, .int _), (6, .int _), (7, .int _)]) (show decode cL_law 2925 = .ok (.iinc 5 4, 3) by decide +kernel) rfl rfl (Nat.le_of_ble_eq_true rfl) rfl ?_
      refine X_goto (tgt := 28) (show decode cL_law 2928 = .ok (.goto (-2900), 3) by decide +kernel) (by decide) ?_
      refine X_pick (ls' := [(0, .ref _), (1, .ref _), (2, .ref _), (3, .ref _), (4, .ref _), (5, .int _)]) [0, 1, 2, 3, 4, 5] rfl ?_
      exact hc28 _ _ _ _ _ _ _ w
    · have w := w.2 c582
      refine X_aload_n (j := 3) (show decode cL_law 2189 = .ok (.aload_n 3, 1) by decide +kernel) rfl rfl ?_
      refine X_iconst (v := (nI 0)) (show decode cL_law 2190 = .ok (.iconst 0, 1) by decide +kernel) (by decide) ?_
      obtain ⟨s583, w⟩ := w
      obtain ⟨s584, w⟩ := w
      refine X_lald (show decode cL_law 2191 = .ok (.laload, 1) by decide +kernel) (isA_eq s583) s584 ?_
      refine X_iload (j := 7) (show decode cL_law 2192 = .ok (.iload 7, 2) by decide +kernel) rfl ?_
      refine X_if_eq (tgt := 2201) (show decode cL_law 2194 = .ok (.ifCond .eq 7, 3) by decide +kernel) (by decide) ⟨fun c585 => ?_, fun c585 => ?_⟩
      · have w := w.1 c585
        refine X_lconst (v := 0) (show decode cL_law 2201 = .ok (.lconst 0, 1) by decide +kernel) (by decide) ?_
        refine X_pick (ls' := [(0, .ref _), (1, .ref _), (2, .ref _), (3, .ref _), (4, .ref _), (5, .int _)]) [0, 1, 2, 3, 4, 5] rfl ?_
        exact kL_law_J2202 hc28 _ _ _ _ _ _ _ _ _ w
      · have w := w.2 c585
        refine X_lconst (v := 1) (show decode cL_law 2197 = .ok (.lconst 1, 1) by decide +kernel) (by decide) ?_
        refine X_goto (tgt := 2202) (show decode cL_law 2198 = .ok (.goto 4, 3) by decide +kernel) (by decide) ?_
        refine X_pick (ls' := [(0, .ref _), (1, .ref _), (2, .ref _), (3, .ref _), (4, .ref _), (5, .int _)]) [0, 1, 2, 3, 4, 5] rfl ?_
        exact kL_law_J2202 hc28 _ _ _ _ _ _ _ _ _ w
  · have w := w.2 c581
    refine X_iconst (v := (nI 0)) (show decode cL_law 2182 = .ok (.iconst 0, 1) by decide +kernel) (by decide) ?_
    exact X_iret ⟨(show decode cL_law 2183 = .ok (.ireturn, 1) by decide +kernel), .boolean, rfl, (by decide)⟩ ⟨_, rfl, w⟩
set_option maxRecDepth 100000 in
set_option maxHeartbeats 4000000 in
theorem kL_law_J2211 {rc0 rs0 : Nat} {K : Int32 → AH → Prop} {c28 : Nat → Nat → Nat → Nat → Nat → Int32 → AH → Prop} (hc28 : ∀ x0 x1 x2 x3 x4 x5 h, c28 x0 x1 x2 x3 x4 x5 h → X mL_law 20 (KI K) T0 rc0 rs0 28 [(0, .ref x0), (1, .ref x1), (2, .ref x2), (3, .ref x3), (4, .ref x4), (5, .int x5)] [] h) (x0 : Nat) (x1 : Nat) (x2 : Nat) (x3 : Nat) (x4 : Nat) (x5 : Int32) (h : AH) (w : wL_law_J2211 K c28 x0 x1 x2 x3 x4 x5 h) : X mL_law 20 (KI K) T0 rc0 rs0 2211 [(0, .ref x0), (1, .ref x1), (2, .ref x2), (3, .ref x3), (4, .ref x4), (5, .int x5)] [] h := by
  unfold wL_law_J2211 at w
  refine X_aload_n (j := 1) (show decode cL_law 2211 = .ok (.aload_n 1, 1) by decide +kernel) rfl rfl ?_
  obtain ⟨s595, w⟩ := w
  refine X_vI (rc' := rc0) (rs' := rs0) (as := []) mv_L_280 (show decode cL_law 2212 = .ok (.invokevirtual 280, 3) by decide +kernel) (by decide) (by omega) (by omega) rfl rfl (Nat.le_of_ble_eq_true rfl) (rcvD s595 (by decide) rfl) (kX9_mostWithoutConflict w) (fun E h hk => hk.elim) (fun r590 h589 w => ?_)
  refine X_aload_n (j := 2) (show decode cL_law 2215 = .ok (.aload_n 2, 1) by decide +kernel) rfl rfl ?_
  obtain ⟨s594, w⟩ := w
  refine X_vI (rc' := rc0) (rs' := rs0) (as := []) mv_L_283 (show decode cL_law 2216 = .ok (.invokevirtual 283, 3) by decide +kernel) (by decide) (by omega) (by omega) rfl rfl (Nat.le_of_ble_eq_true rfl) (rcvD s594 (by decide) rfl) (kX10_mostWithoutConflict w) (fun E h hk => hk.elim) (fun r592 h591 w => ?_)
  refine X_icmp_eq (tgt := 2925) (show decode cL_law 2219 = .ok (.if_icmp .eq 706, 3) by decide +kernel) (by decide) ⟨fun c593 => ?_, fun c593 => ?_⟩
  · have w := w.1 c593
    refine X_iinc (j := 5) (v := _ + (nI 4)) (ls' := [(0, .ref _), (1, .ref _), (2, .ref _), (3, .ref _), (4, .ref _), (5, .int _)]) (show decode cL_law 2925 = .ok (.iinc 5 4, 3) by decide +kernel) rfl rfl (Nat.le_of_ble_eq_true rfl) rfl ?_
    refine X_goto (tgt := 28) (show decode cL_law 2928 = .ok (.goto (-2900), 3) by decide +kernel) (by decide) ?_
    exact hc28 _ _ _ _ _ _ _ w
  · have w := w.2 c593
    refine X_iconst (v := (nI 0)) (show decode cL_law 2222 = .ok (.iconst 0, 1) by decide +kernel) (by decide) ?_
    exact X_iret ⟨(show decode cL_law 2223 = .ok (.ireturn, 1) by decide +kernel), .boolean, rfl, (by decide)⟩ ⟨_, rfl, w⟩
set_option maxRecDepth 100000 in
set_option maxHeartbeats 4000000 in
theorem kL_law_J2224 {rc0 rs0 : Nat} {K : Int32 → AH → Prop} {c28 : Nat → Nat → Nat → Nat → Nat → Int32 → AH → Prop} (hc28 : ∀ x0 x1 x2 x3 x4 x5 h, c28 x0 x1 x2 x3 x4 x5 h → X mL_law 20 (KI K) T0 rc0 rs0 28 [(0, .ref x0), (1, .ref x1), (2, .ref x2), (3, .ref x3), (4, .ref x4), (5, .int x5)] [] h) (x0 : Nat) (x1 : Nat) (x2 : Nat) (x3 : Nat) (x4 : Nat) (x5 : Int32) (h : AH) (w : wL_law_J2224 K c28 x0 x1 x2 x3 x4 x5 h) : X mL_law 20 (KI K) T0 rc0 rs0 2224 [(0, .ref x0), (1, .ref x1), (2, .ref x2), (3, .ref x3), (4, .ref x4), (5, .int x5)] [] h := by
  unfold wL_law_J2224 at w
  refine X_aload_n (j := 1) (show decode cL_law 2224 = .ok (.aload_n 1, 1) by decide +kernel) rfl rfl ?_
  obtain ⟨s602, w⟩ := w
  refine X_vI (rc' := rc0) (rs' := rs0) (as := []) mv_L_284 (show decode cL_law 2225 = .ok (.invokevirtual 284, 3) by decide +kernel) (by decide) (by omega) (by omega) rfl rfl (Nat.le_of_ble_eq_true rfl) (rcvD s602 (by decide) rfl) (kX9_mostWithoutConflictBySets w) (fun E h hk => hk.elim) (fun r597 h596 w => ?_)
  refine X_aload_n (j := 2) (show decode cL_law 2228 = .ok (.aload_n 2, 1) by decide +kernel) rfl rfl ?_
  obtain ⟨s601, w⟩ := w
  refine X_vI (rc' := rc0) (rs' := rs0) (as := []) mv_L_287 (show decode cL_law 2229 = .ok (.invokevirtual 287, 3) by decide +kernel) (by decide) (by omega) (by omega) rfl rfl (Nat.le_of_ble_eq_true rfl) (rcvD s601 (by decide) rfl) (kX10_mostWithoutConflictBySets w) (fun E h hk => hk.elim) (fun r599 h598 w => ?_)
  refine X_icmp_eq (tgt := 2925) (show decode cL_law 2232 = .ok (.if_icmp .eq 693, 3) by decide +kernel) (by decide) ⟨fun c600 => ?_, fun c600 => ?_⟩
  · have w := w.1 c600
    refine X_iinc (j := 5) (v := _ + (nI 4)) (ls' := [(0, .ref _), (1, .ref _), (2, .ref _), (3, .ref _), (4, .ref _), (5, .int _)]) (show decode cL_law 2925 = .ok (.iinc 5 4, 3) by decide +kernel) rfl rfl (Nat.le_of_ble_eq_true rfl) rfl ?_
    refine X_goto (tgt := 28) (show decode cL_law 2928 = .ok (.goto (-2900), 3) by decide +kernel) (by decide) ?_
    exact hc28 _ _ _ _ _ _ _ w
  · have w := w.2 c600
    refine X_iconst (v := (nI 0)) (show decode cL_law 2235 = .ok (.iconst 0, 1) by decide +kernel) (by decide) ?_
    exact X_iret ⟨(show decode cL_law 2236 = .ok (.ireturn, 1) by decide +kernel), .boolean, rfl, (by decide)⟩ ⟨_, rfl, w⟩
set_option maxRecDepth 100000 in
set_option maxHeartbeats 4000000 in
theorem kL_law_J2237 {rc0 rs0 : Nat} {K : Int32 → AH → Prop} {c28 : Nat → Nat → Nat → Nat → Nat → Int32 → AH → Prop} (hc28 : ∀ x0 x1 x2 x3 x4 x5 h, c28 x0 x1 x2 x3 x4 x5 h → X mL_law 20 (KI K) T0 rc0 rs0 28 [(0, .ref x0), (1, .ref x1), (2, .ref x2), (3, .ref x3), (4, .ref x4), (5, .int x5)] [] h) (x0 : Nat) (x1 : Nat) (x2 : Nat) (x3 : Nat) (x4 : Nat) (x5 : Int32) (h : AH) (w : wL_law_J2237 K c28 x0 x1 x2 x3 x4 x5 h) : X mL_law 20 (KI K) T0 (rc0 + 1) (rs0 + 6) 2237 [(0, .ref x0), (1, .ref x1), (2, .ref x2), (3, .ref x3), (4, .ref x4), (5, .int x5)] [] h := by
  unfold wL_law_J2237 at w
  refine X_aload_n (j := 1) (show decode cL_law 2237 = .ok (.aload_n 1, 1) by decide +kernel) rfl rfl ?_
  refine X_aload_n (j := 3) (show decode cL_law 2238 = .ok (.aload_n 3, 1) by decide +kernel) rfl rfl ?_
  refine X_sH (rc' := rc0) (rs' := rs0) (as := [.ref _, .ref _]) msh_L_288 (show decode cL_law 2239 = .ok (.invokestatic 288, 3) by decide +kernel) (by decide) (by omega) (by omega) rfl rfl (Nat.le_of_ble_eq_true rfl) (kL_refusalReason w) (fun r604 h603 w => ?_)
  refine X_istore (ls' := [(0, .ref _), (1, .ref _), (2, .ref _), (3, .ref _), (4, .ref _), (5, .int _), (6, .int _)]) (show decode cL_law 2242 = .ok (.istore 6, 2) by decide +kernel) (by decide) rfl ?_
  refine X_aload_n (j := 2) (show decode cL_law 2244 = .ok (.aload_n 2, 1) by decide +kernel) rfl rfl ?_
  obtain ⟨s615, w⟩ := w
  refine X_vI (rc' := rc0) (rs' := rs0) (as := []) mv_L_291 (show decode cL_law 2245 = .ok (.invokevirtual 291, 3) by decide +kernel) (by decide) (by omega) (by omega) rfl rfl (Nat.le_of_ble_eq_true rfl) (rcvD s615 (by decide) rfl) (kX10_refusalReason w) (fun E h hk => hk.elim) (fun r606 h605 w => ?_)
  refine X_istore (ls' := [(0, .ref _), (1, .ref _), (2, .ref _), (3, .ref _), (4, .ref _), (5, .int _), (6, .int _), (7, .int _)]) (show decode cL_law 2248 = .ok (.istore 7, 2) by decide +kernel) (by decide) rfl ?_
  refine X_aload_n (j := 2) (show decode cL_law 2250 = .ok (.aload_n 2, 1) by decide +kernel) rfl rfl ?_
  obtain ⟨s614, w⟩ := w
  refine X_vI (rc' := rc0) (rs' := rs0) (as := []) mv_L_168 (show decode cL_law 2251 = .ok (.invokevirtual 168, 3) by decide +kernel) (by decide) (by omega) (by omega) rfl rfl (Nat.le_of_ble_eq_true rfl) (rcvD s614 (by decide) rfl) (kX10_thrown w) (fun E h hk => hk.elim) (fun r608 h607 w => ?_)
  refine X_iload (j := 6) (show decode cL_law 2254 = .ok (.iload 6, 2) by decide +kernel) rfl ?_
  refine X_icmp_eq (tgt := 2261) (show decode cL_law 2256 = .ok (.if_icmp .eq 5, 3) by decide +kernel) (by decide) ⟨fun c609 => ?_, fun c609 => ?_⟩
  · have w := w.1 c609
    refine X_iload (j := 6) (show decode cL_law 2261 = .ok (.iload 6, 2) by decide +kernel) rfl ?_
    refine X_if_ne (tgt := 2278) (show decode cL_law 2263 = .ok (.ifCond .ne 15, 3) by decide +kernel) (by decide) ⟨fun c610 => ?_, fun c610 => ?_⟩
    · have w := w.1 c610
      refine X_goto (tgt := 2925) (show decode cL_law 2278 = .ok (.goto 647, 3) by decide +kernel) (by decide) ?_
      refine X_iinc (j := 5) (v := _ + (nI 4)) (ls' := [(0, .ref _), (1, .ref _), (2, .ref _), (3, .ref _), (4, .ref _), (5, .int _), (6, .int _), (7, .int _)]) (show decode cL_law 2925 = .ok (.iinc 5 4, 3) by decide +kernel) rfl rfl (Nat.le_of_ble_eq_true rfl) rfl ?_
      refine X_goto (tgt := 28) (show decode cL_law 2928 = .ok (.goto (-2900), 3) by decide +kernel) (by decide) ?_
      refine X_pick (ls' := [(0, .ref _), (1, .ref _), (2, .ref _), (3, .ref _), (4, .ref _), (5, .int _)]) [0, 1, 2, 3, 4, 5] rfl ?_
      exact hc28 _ _ _ _ _ _ _ w
    · have w := w.2 c610
      refine X_aload_n (j := 3) (show decode cL_law 2266 = .ok (.aload_n 3, 1) by decide +kernel) rfl rfl ?_
      refine X_iconst (v := (nI 0)) (show decode cL_law 2267 = .ok (.iconst 0, 1) by decide +kernel) (by decide) ?_
      obtain ⟨s611, w⟩ := w
      obtain ⟨s612, w⟩ := w
      refine X_lald (show decode cL_law 2268 = .ok (.laload, 1) by decide +kernel) (isA_eq s611) s612 ?_
      refine X_iload (j := 7) (show decode cL_law 2269 = .ok (.iload 7, 2) by decide +kernel) rfl ?_
      refine X_i2l (show decode cL_law 2271 = .ok (.i2l, 1) by decide +kernel) ?_
      refine X_lcmp (show decode cL_law 2272 = .ok (.lcmp, 1) by decide +kernel) ?_
      refine X_if_eq (tgt := 2278) (show decode cL_law 2273 = .ok (.ifCond .eq 5, 3) by decide +kernel) (by decide) ⟨fun c613 => ?_, fun c613 => ?_⟩
      · have w := w.1 c613
        refine X_goto (tgt := 2925) (show decode cL_law 2278 = .ok (.goto 647, 3) by decide +kernel) (by decide) ?_
        refine X_iinc (j := 5) (v := _ + (nI 4)) (ls' := [(0, .ref _), (1, .ref _), (2, .ref _), (3, .ref _), (4, .ref _), (5, .int _), (6, .int _), (7, .int _)]) (show decode cL_law 2925 = .ok (.iinc 5 4, 3) by decide +kernel) rfl rfl (Nat.le_of_ble_eq_true rfl) rfl ?_
        refine X_goto (tgt := 28) (show decode cL_law 2928 = .ok (.goto (-2900), 3) by decide +kernel) (by decide) ?_
        refine X_pick (ls' := [(0, .ref _), (1, .ref _), (2, .ref _), (3, .ref _), (4, .ref _), (5, .int _)]) [0, 1, 2, 3, 4, 5] rfl ?_
        exact hc28 _ _ _ _ _ _ _ w
      · have w := w.2 c613
        refine X_iconst (v := (nI 0)) (show decode cL_law 2276 = .ok (.iconst 0, 1) by decide +kernel) (by decide) ?_
        exact X_iret ⟨(show decode cL_law 2277 = .ok (.ireturn, 1) by decide +kernel), .boolean, rfl, (by decide)⟩ ⟨_, rfl, w⟩
  · have w := w.2 c609
    refine X_iconst (v := (nI 0)) (show decode cL_law 2259 = .ok (.iconst 0, 1) by decide +kernel) (by decide) ?_
    exact X_iret ⟨(show decode cL_law 2260 = .ok (.ireturn, 1) by decide +kernel), .boolean, rfl, (by decide)⟩ ⟨_, rfl, w⟩
set_option maxRecDepth 100000 in
set_option maxHeartbeats 4000000 in
theorem kL_law_J2281 {rc0 rs0 : Nat} {K : Int32 → AH → Prop} {c28 : Nat → Nat → Nat → Nat → Nat → Int32 → AH → Prop} (hc28 : ∀ x0 x1 x2 x3 x4 x5 h, c28 x0 x1 x2 x3 x4 x5 h → X mL_law 20 (KI K) T0 rc0 rs0 28 [(0, .ref x0), (1, .ref x1), (2, .ref x2), (3, .ref x3), (4, .ref x4), (5, .int x5)] [] h) (x0 : Nat) (x1 : Nat) (x2 : Nat) (x3 : Nat) (x4 : Nat) (x5 : Int32) (h : AH) (w : wL_law_J2281 K c28 x0 x1 x2 x3 x4 x5 h) : X mL_law 20 (KI K) T0 (rc0 + 1) (rs0 + 6) 2281 [(0, .ref x0), (1, .ref x1), (2, .ref x2), (3, .ref x3), (4, .ref x4), (5, .int x5)] [] h := by
  unfold wL_law_J2281 at w
  refine X_aload_n (j := 1) (show decode cL_law 2281 = .ok (.aload_n 1, 1) by decide +kernel) rfl rfl ?_
  refine X_aload_n (j := 3) (show decode cL_law 2282 = .ok (.aload_n 3, 1) by decide +kernel) rfl rfl ?_
  refine X_sH (rc' := rc0) (rs' := rs0) (as := [.ref _, .ref _]) msh_L_292 (show decode cL_law 2283 = .ok (.invokestatic 292, 3) by decide +kernel) (by decide) (by omega) (by omega) rfl rfl (Nat.le_of_ble_eq_true rfl) (kL_refusalBlock w) (fun r617 h616 w => ?_)
  refine X_istore (ls' := [(0, .ref _), (1, .ref _), (2, .ref _), (3, .ref _), (4, .ref _), (5, .int _), (6, .int _)]) (show decode cL_law 2286 = .ok (.istore 6, 2) by decide +kernel) (by decide) rfl ?_
  refine X_aload_n (j := 2) (show decode cL_law 2288 = .ok (.aload_n 2, 1) by decide +kernel) rfl rfl ?_
  obtain ⟨s628, w⟩ := w
  refine X_vI (rc' := rc0) (rs' := rs0) (as := []) mv_L_294 (show decode cL_law 2289 = .ok (.invokevirtual 294, 3) by decide +kernel) (by decide) (by omega) (by omega) rfl rfl (Nat.le_of_ble_eq_true rfl) (rcvD s628 (by decide) rfl) (kX10_refusalBlock w) (fun E h hk => hk.elim) (fun r619 h618 w => ?_)
  refine X_istore (ls' := [(0, .ref _), (1, .ref _), (2, .ref _), (3, .ref _), (4, .ref _), (5, .int _), (6, .int _), (7, .int _)]) (show decode cL_law 2292 = .ok (.istore 7, 2) by decide +kernel) (by decide) rfl ?_
  refine X_aload_n (j := 2) (show decode cL_law 2294 = .ok (.aload_n 2, 1) by decide +kernel) rfl rfl ?_
  obtain ⟨s627, w⟩ := w
  refine X_vI (rc' := rc0) (rs' := rs0) (as := []) mv_L_168 (show decode cL_law 2295 = .ok (.invokevirtual 168, 3) by decide +kernel) (by decide) (by omega) (by omega) rfl rfl (Nat.le_of_ble_eq_true rfl) (rcvD s627 (by decide) rfl) (kX10_thrown w) (fun E h hk => hk.elim) (fun r621 h620 w => ?_)
  refine X_iload (j := 6) (show decode cL_law 2298 = .ok (.iload 6, 2) by decide +kernel) rfl ?_
  refine X_icmp_eq (tgt := 2305) (show decode cL_law 2300 = .ok (.if_icmp .eq 5, 3) by decide +kernel) (by decide) ⟨fun c622 => ?_, fun c622 => ?_⟩
  · have w := w.1 c622
    refine X_iload (j := 6) (show decode cL_law 2305 = .ok (.iload 6, 2) by decide +kernel) rfl ?_
    refine X_if_ne (tgt := 2322) (show decode cL_law 2307 = .ok (.ifCond .ne 15, 3) by decide +kernel) (by decide) ⟨fun c623 => ?_, fun c623 => ?_⟩
    · have w := w.1 c623
      refine X_goto (tgt := 2925) (show decode cL_law 2322 = .ok (.goto 603, 3) by decide +kernel) (by decide) ?_
      refine X_iinc (j := 5) (v := _ + (nI 4)) (ls' := [(0, .ref _), (1, .ref _), (2, .ref _), (3, .ref _), (4, .ref _), (5, .int _), (6, .int _), (7, .int _)]) (show decode cL_law 2925 = .ok (.iinc 5 4, 3) by decide +kernel) rfl rfl (Nat.le_of_ble_eq_true rfl) rfl ?_
      refine X_goto (tgt := 28) (show decode cL_law 2928 = .ok (.goto (-2900), 3) by decide +kernel) (by decide) ?_
      refine X_pick (ls' := [(0, .ref _), (1, .ref _), (2, .ref _), (3, .ref _), (4, .ref _), (5, .int _)]) [0, 1, 2, 3, 4, 5] rfl ?_
      exact hc28 _ _ _ _ _ _ _ w
    · have w := w.2 c623
      refine X_aload_n (j := 3) (show decode cL_law 2310 = .ok (.aload_n 3, 1) by decide +kernel) rfl rfl ?_
      refine X_iconst (v := (nI 0)) (show decode cL_law 2311 = .ok (.iconst 0, 1) by decide +kernel) (by decide) ?_
      obtain ⟨s624, w⟩ := w
      obtain ⟨s625, w⟩ := w
      refine X_lald (show decode cL_law 2312 = .ok (.laload, 1) by decide +kernel) (isA_eq s624) s625 ?_
      refine X_iload (j := 7) (show decode cL_law 2313 = .ok (.iload 7, 2) by decide +kernel) rfl ?_
      refine X_i2l (show decode cL_law 2315 = .ok (.i2l, 1) by decide +kernel) ?_
      refine X_lcmp (show decode cL_law 2316 = .ok (.lcmp, 1) by decide +kernel) ?_
      refine X_if_eq (tgt := 2322) (show decode cL_law 2317 = .ok (.ifCond .eq 5, 3) by decide +kernel) (by decide) ⟨fun c626 => ?_, fun c626 => ?_⟩
      · have w := w.1 c626
        refine X_goto (tgt := 2925) (show decode cL_law 2322 = .ok (.goto 603, 3) by decide +kernel) (by decide) ?_
        refine X_iinc (j := 5) (v := _ + (nI 4)) (ls' := [(0, .ref _), (1, .ref _), (2, .ref _), (3, .ref _), (4, .ref _), (5, .int _), (6, .int _), (7, .int _)]) (show decode cL_law 2925 = .ok (.iinc 5 4, 3) by decide +kernel) rfl rfl (Nat.le_of_ble_eq_true rfl) rfl ?_
        refine X_goto (tgt := 28) (show decode cL_law 2928 = .ok (.goto (-2900), 3) by decide +kernel) (by decide) ?_
        refine X_pick (ls' := [(0, .ref _), (1, .ref _), (2, .ref _), (3, .ref _), (4, .ref _), (5, .int _)]) [0, 1, 2, 3, 4, 5] rfl ?_
        exact hc28 _ _ _ _ _ _ _ w
      · have w := w.2 c626
        refine X_iconst (v := (nI 0)) (show decode cL_law 2320 = .ok (.iconst 0, 1) by decide +kernel) (by decide) ?_
        exact X_iret ⟨(show decode cL_law 2321 = .ok (.ireturn, 1) by decide +kernel), .boolean, rfl, (by decide)⟩ ⟨_, rfl, w⟩
  · have w := w.2 c622
    refine X_iconst (v := (nI 0)) (show decode cL_law 2303 = .ok (.iconst 0, 1) by decide +kernel) (by decide) ?_
    exact X_iret ⟨(show decode cL_law 2304 = .ok (.ireturn, 1) by decide +kernel), .boolean, rfl, (by decide)⟩ ⟨_, rfl, w⟩
