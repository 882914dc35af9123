set_option maxRecDepth 100000 in
set_option maxHeartbeats 4000000 in
theorem kL_law_J2325 {rc0 rs0 : Nat} {K : Int32 → AH → Prop} {c28 : Nat → Nat → Nat → Nat → Nat → Int32 → AH → Prop} (hc28 : ∀ x0 x1 x2 x3 x4 x5 h, c28 x0 x1 x2 x3 x4 x5 h → X mL_law 20 (KI K) T0 rc0 rs0 28 [(0, .ref x0), (1, .ref x1), (2, .ref x2), (3, .ref x3), (4, .ref x4), (5, .int x5)] [] h) (x0 : Nat) (x1 : Nat) (x2 : Nat) (x3 : Nat) (x4 : Nat) (x5 : Int32) (h : AH) (w : wL_law_J2325 K c28 x0 x1 x2 x3 x4 x5 h) : X mL_law 20 (KI K) T0 rc0 rs0 2325 [(0, .ref x0), (1, .ref x1), (2, .ref x2), (3, .ref x3), (4, .ref x4), (5, .int x5)] [] h := by
  unfold wL_law_J2325 at w
  refine X_aload_n (j := 1) (show decode cL_law 2325 = .ok (.aload_n 1, 1) by decide +kernel) rfl rfl ?_
  obtain ⟨s635, w⟩ := w
  refine X_vI (rc' := rc0) (rs' := rs0) (as := []) mv_L_295 (show decode cL_law 2326 = .ok (.invokevirtual 295, 3) by decide +kernel) (by decide) (by omega) (by omega) rfl rfl (Nat.le_of_ble_eq_true rfl) (rcvD s635 (by decide) rfl) (kX9_time w) (fun E h hk => hk.elim) (fun r630 h629 w => ?_)
  refine X_aload_n (j := 2) (show decode cL_law 2329 = .ok (.aload_n 2, 1) by decide +kernel) rfl rfl ?_
  obtain ⟨s634, w⟩ := w
  refine X_vI (rc' := rc0) (rs' := rs0) (as := []) mv_L_298 (show decode cL_law 2330 = .ok (.invokevirtual 298, 3) by decide +kernel) (by decide) (by omega) (by omega) rfl rfl (Nat.le_of_ble_eq_true rfl) (rcvD s634 (by decide) rfl) (kX10_time w) (fun E h hk => hk.elim) (fun r632 h631 w => ?_)
  refine X_icmp_eq (tgt := 2925) (show decode cL_law 2333 = .ok (.if_icmp .eq 592, 3) by decide +kernel) (by decide) ⟨fun c633 => ?_, fun c633 => ?_⟩
  · have w := w.1 c633
    refine X_iinc (j := 5) (v := _ + (nI 4)) (ls' := [(0, .ref _), (1, .ref _), (2, .ref _), (3, .ref _), (4, .ref _), (5, .int _)]) (show decode cL_law 2925 = .ok (.iinc 5 4, 3) by decide +kernel) rfl rfl (Nat.le_of_ble_eq_true rfl) rfl ?_
    refine X_goto (tgt := 28) (show decode cL_law 2928 = .ok (.goto (-2900), 3) by decide +kernel) (by decide) ?_
    exact hc28 _ _ _ _ _ _ _ w
  · have w := w.2 c633
    refine X_iconst (v := (nI 0)) (show decode cL_law 2336 = .ok (.iconst 0, 1) by decide +kernel) (by decide) ?_
    exact X_iret ⟨(show decode cL_law 2337 = .ok (.ireturn, 1) by decide +kernel), .boolean, rfl, (by decide)⟩ ⟨_, rfl, w⟩
set_option maxRecDepth 100000 in
set_option maxHeartbeats 4000000 in
theorem kL_law_J2338 {rc0 rs0 : Nat} {K : Int32 → AH → Prop} {c28 : Nat → Nat → Nat → Nat → Nat → Int32 → AH → Prop} (hc28 : ∀ x0 x1 x2 x3 x4 x5 h, c28 x0 x1 x2 x3 x4 x5 h → X mL_law 20 (KI K) T0 rc0 rs0 28 [(0, .ref x0), (1, .ref x1), (2, .ref x2), (3, .ref x3), (4, .ref x4), (5, .int x5)] [] h) (x0 : Nat) (x1 : Nat) (x2 : Nat) (x3 : Nat) (x4 : Nat) (x5 : Int32) (h : AH) (w : wL_law_J2338 K c28 x0 x1 x2 x3 x4 x5 h) : X mL_law 20 (KI K) T0 rc0 rs0 2338 [(0, .ref x0), (1, .ref x1), (2, .ref x2), (3, .ref x3), (4, .ref x4), (5, .int x5)] [] h := by
  unfold wL_law_J2338 at w
  refine X_aload_n (j := 1) (show decode cL_law 2338 = .ok (.aload_n 1, 1) by decide +kernel) rfl rfl ?_
  obtain ⟨s642, w⟩ := w
  refine X_vI (rc' := rc0) (rs' := rs0) (as := []) mv_L_299 (show decode cL_law 2339 = .ok (.invokevirtual 299, 3) by decide +kernel) (by decide) (by omega) (by omega) rfl rfl (Nat.le_of_ble_eq_true rfl) (rcvD s642 (by decide) rfl) (kX9_arrived w) (fun E h hk => hk.elim) (fun r637 h636 w => ?_)
  refine X_aload_n (j := 2) (show decode cL_law 2342 = .ok (.aload_n 2, 1) by decide +kernel) rfl rfl ?_
  obtain ⟨s641, w⟩ := w
  refine X_vI (rc' := rc0) (rs' := rs0) (as := []) mv_L_302 (show decode cL_law 2343 = .ok (.invokevirtual 302, 3) by decide +kernel) (by decide) (by omega) (by omega) rfl rfl (Nat.le_of_ble_eq_true rfl) (rcvD s641 (by decide) rfl) (kX10_arrived w) (fun E h hk => hk.elim) (fun r639 h638 w => ?_)
  refine X_icmp_eq (tgt := 2925) (show decode cL_law 2346 = .ok (.if_icmp .eq 579, 3) by decide +kernel) (by decide) ⟨fun c640 => ?_, fun c640 => ?_⟩
  · have w := w.1 c640
    refine X_iinc (j := 5) (v := _ + (nI 4)) (ls' := [(0, .ref _), (1, .ref _), (2, .ref _), (3, .ref _), (4, .ref _), (5, .int _)]) (show decode cL_law 2925 = .ok (.iinc 5 4, 3) by decide +kernel) rfl rfl (Nat.le_of_ble_eq_true rfl) rfl ?_
    refine X_goto (tgt := 28) (show decode cL_law 2928 = .ok (.goto (-2900), 3) by decide +kernel) (by decide) ?_
    exact hc28 _ _ _ _ _ _ _ w
  · have w := w.2 c640
    refine X_iconst (v := (nI 0)) (show decode cL_law 2349 = .ok (.iconst 0, 1) by decide +kernel) (by decide) ?_
    exact X_iret ⟨(show decode cL_law 2350 = .ok (.ireturn, 1) by decide +kernel), .boolean, rfl, (by decide)⟩ ⟨_, rfl, w⟩
set_option maxRecDepth 100000 in
set_option maxHeartbeats 4000000 in
theorem kL_law_J2351 {rc0 rs0 : Nat} {K : Int32 → AH → Prop} {c28 : Nat → Nat → Nat → Nat → Nat → Int32 → AH → Prop} (hc28 : ∀ x0 x1 x2 x3 x4 x5 h, c28 x0 x1 x2 x3 x4 x5 h → X mL_law 20 (KI K) T0 rc0 rs0 28 [(0, .ref x0), (1, .ref x1), (2, .ref x2), (3, .ref x3), (4, .ref x4), (5, .int x5)] [] h) (x0 : Nat) (x1 : Nat) (x2 : Nat) (x3 : Nat) (x4 : Nat) (x5 : Int32) (h : AH) (w : wL_law_J2351 K c28 x0 x1 x2 x3 x4 x5 h) : X mL_law 20 (KI K) T0 rc0 rs0 2351 [(0, .ref x0), (1, .ref x1), (2, .ref x2), (3, .ref x3), (4, .ref x4), (5, .int x5)] [] h := by
  unfold wL_law_J2351 at w
  refine X_aload_n (j := 1) (show decode cL_law 2351 = .ok (.aload_n 1, 1) by decide +kernel) rfl rfl ?_
  obtain ⟨s649, w⟩ := w
  refine X_vL (rc' := rc0) (rs' := rs0) (as := []) mv_L_303 (show decode cL_law 2352 = .ok (.invokevirtual 303, 3) by decide +kernel) (by decide) (by omega) (by omega) rfl rfl (Nat.le_of_ble_eq_true rfl) (rcvD s649 (by decide) rfl) (kX9_totalDelay w) (fun E h hk => hk.elim) (fun r644 h643 w => ?_)
  refine X_aload_n (j := 2) (show decode cL_law 2355 = .ok (.aload_n 2, 1) by decide +kernel) rfl rfl ?_
  obtain ⟨s648, w⟩ := w
  refine X_vL (rc' := rc0) (rs' := rs0) (as := []) mv_L_307 (show decode cL_law 2356 = .ok (.invokevirtual 307, 3) by decide +kernel) (by decide) (by omega) (by omega) rfl rfl (Nat.le_of_ble_eq_true rfl) (rcvD s648 (by decide) rfl) (kX10_totalDelay w) (fun E h hk => hk.elim) (fun r646 h645 w => ?_)
  refine X_lcmp (show decode cL_law 2359 = .ok (.lcmp, 1) by decide +kernel) ?_
  refine X_if_eq (tgt := 2925) (show decode cL_law 2360 = .ok (.ifCond .eq 565, 3) by decide +kernel) (by decide) ⟨fun c647 => ?_, fun c647 => ?_⟩
  · have w := w.1 c647
    refine X_iinc (j := 5) (v := _ + (nI 4)) (ls' := [(0, .ref _), (1, .ref _), (2, .ref _), (3, .ref _), (4, .ref _), (5, .int _)]) (show decode cL_law 2925 = .ok (.iinc 5 4, 3) by decide +kernel) rfl rfl (Nat.le_of_ble_eq_true rfl) rfl ?_
    refine X_goto (tgt := 28) (show decode cL_law 2928 = .ok (.goto (-2900), 3) by decide +kernel) (by decide) ?_
    exact hc28 _ _ _ _ _ _ _ w
  · have w := w.2 c647
    refine X_iconst (v := (nI 0)) (show decode cL_law 2363 = .ok (.iconst 0, 1) by decide +kernel) (by decide) ?_
    exact X_iret ⟨(show decode cL_law 2364 = .ok (.ireturn, 1) by decide +kernel), .boolean, rfl, (by decide)⟩ ⟨_, rfl, w⟩
set_option maxRecDepth 100000 in
set_option maxHeartbeats 4000000 in
theorem kL_law_J2365 {rc0 rs0 : Nat} {K : Int32 → AH → Prop} {c28 : Nat → Nat → Nat → Nat → Nat → Int32 → AH → Prop} (hc28 : ∀ x0 x1 x2 x3 x4 x5 h, c28 x0 x1 x2 x3 x4 x5 h → X mL_law 20 (KI K) T0 rc0 rs0 28 [(0, .ref x0), (1, .ref x1), (2, .ref x2), (3, .ref x3), (4, .ref x4), (5, .int x5)] [] h) (x0 : Nat) (x1 : Nat) (x2 : Nat) (x3 : Nat) (x4 : Nat) (x5 : Int32) (h : AH) (w : wL_law_J2365 K c28 x0 x1 x2 x3 x4 x5 h) : X mL_law 20 (KI K) T0 (rc0 + 1) (rs0 + 6) 2365 [(0, .ref x0), (1, .ref x1), (2, .ref x2), (3, .ref x3), (4, .ref x4), (5, .int x5)] [] h := by
  unfold wL_law_J2365 at w
  refine X_aload_n (j := 1) (show decode cL_law 2365 = .ok (.aload_n 1, 1) by decide +kernel) rfl rfl ?_
  refine X_aload (j := 4) (show decode cL_law 2366 = .ok (.aload 4, 2) by decide +kernel) rfl ?_
  refine X_sH (rc' := rc0) (rs' := rs0) (as := [.ref _, .ref _]) msh_L_308 (show decode cL_law 2368 = .ok (.invokestatic 308, 3) by decide +kernel) (by decide) (by omega) (by omega) rfl rfl (Nat.le_of_ble_eq_true rfl) (kL_meanDelay w) (fun r651 h650 w => ?_)
  refine X_istore (ls' := [(0, .ref _), (1, .ref _), (2, .ref _), (3, .ref _), (4, .ref _), (5, .int _), (6, .int _)]) (show decode cL_law 2371 = .ok (.istore 6, 2) by decide +kernel) (by decide) rfl ?_
  refine X_aload_n (j := 2) (show decode cL_law 2373 = .ok (.aload_n 2, 1) by decide +kernel) rfl rfl ?_
  obtain ⟨s665, w⟩ := w
  refine X_vD (rc' := rc0) (rs' := rs0) (as := []) mv_L_311 (show decode cL_law 2374 = .ok (.invokevirtual 311, 3) by decide +kernel) (by decide) (by omega) (by omega) rfl rfl (Nat.le_of_ble_eq_true rfl) (rcvD s665 (by decide) rfl) (kX10_meanDelay w) (fun E h hk => hk.elim) (fun r653 h652 w => ?_)
  refine X_dstore (ls' := [(0, .ref _), (1, .ref _), (2, .ref _), (3, .ref _), (4, .ref _), (5, .int _), (6, .int _), (7, .double _)]) (show decode cL_law 2377 = .ok (.dstore 7, 2) by decide +kernel) (by decide) rfl ?_
  refine X_aload_n (j := 2) (show decode cL_law 2379 = .ok (.aload_n 2, 1) by decide +kernel) rfl rfl ?_
  obtain ⟨s664, w⟩ := w
  refine X_vI (rc' := rc0) (rs' := rs0) (as := []) mv_L_168 (show decode cL_law 2380 = .ok (.invokevirtual 168, 3) by decide +kernel) (by decide) (by omega) (by omega) rfl rfl (Nat.le_of_ble_eq_true rfl) (rcvD s664 (by decide) rfl) (kX10_thrown w) (fun E h hk => hk.elim) (fun r655 h654 w => ?_)
  refine X_iload (j := 6) (show decode cL_law 2383 = .ok (.iload 6, 2) by decide +kernel) rfl ?_
  refine X_icmp_eq (tgt := 2390) (show decode cL_law 2385 = .ok (.if_icmp .eq 5, 3) by decide +kernel) (by decide) ⟨fun c656 => ?_, fun c656 => ?_⟩
  · have w := w.1 c656
    refine X_iload (j := 6) (show decode cL_law 2390 = .ok (.iload 6, 2) by decide +kernel) rfl ?_
    refine X_if_ne (tgt := 2427) (show decode cL_law 2392 = .ok (.ifCond .ne 35, 3) by decide +kernel) (by decide) ⟨fun c657 => ?_, fun c657 => ?_⟩
    · have w := w.1 c657
      refine X_goto (tgt := 2925) (show decode cL_law 2427 = .ok (.goto 498, 3) by decide +kernel) (by decide) ?_
      refine X_iinc (j := 5) (v := _ + (nI 4)) (ls' := [(0, .ref _), (1, .ref _), (2, .ref _), (3, .ref _), (4, .ref _), (5, .int _), (6, .int _), (7, .double _)]) (show decode cL_law 2925 = .ok (.iinc 5 4, 3) by decide +kernel) rfl rfl (Nat.le_of_ble_eq_true rfl) rfl ?_
      refine X_goto (tgt := 28) (show decode cL_law 2928 = .ok (.goto (-2900), 3) by decide +kernel) (by decide) ?_
      refine X_pick (ls' := [(0, .ref _), (1, .ref _), (2, .ref _), (3, .ref _), (4, .ref _), (5, .int _)]) [0, 1, 2, 3, 4, 5] rfl ?_
      exact hc28 _ _ _ _ _ _ _ w
    · have w := w.2 c657
      refine X_aload (j := 4) (show decode cL_law 2395 = .ok (.aload 4, 2) by decide +kernel) rfl ?_
      refine X_iconst (v := (nI 0)) (show decode cL_law 2397 = .ok (.iconst 0, 1) by decide +kernel) (by decide) ?_
      obtain ⟨s658, w⟩ := w
      obtain ⟨s659, w⟩ := w
      obtain ⟨s660, w⟩ := w
      refine X_dald (show decode cL_law 2398 = .ok (.daload, 1) by decide +kernel) (isA_eq s658) s659 s660 ?_
      refine X_dload (j := 7) (show decode cL_law 2399 = .ok (.dload 7, 2) by decide +kernel) rfl ?_
      refine X_dcmp (show decode cL_law 2401 = .ok (.dcmp .l, 1) by decide +kernel) ?_
      refine X_if_eq (tgt := 2427) (show decode cL_law 2402 = .ok (.ifCond .eq 25, 3) by decide +kernel) (by decide) ⟨fun c661 => ?_, fun c661 => ?_⟩
      · have w := w.1 c661
        refine X_goto (tgt := 2925) (show decode cL_law 2427 = .ok (.goto 498, 3) by decide +kernel) (by decide) ?_
        refine X_iinc (j := 5) (v := _ + (nI 4)) (ls' := [(0, .ref _), (1, .ref _), (2, .ref _), (3, .ref _), (4, .ref _), (5, .int _), (6, .int _), (7, .double _)]) (show decode cL_law 2925 = .ok (.iinc 5 4, 3) by decide +kernel) rfl rfl (Nat.le_of_ble_eq_true rfl) rfl ?_
        refine X_goto (tgt := 28) (show decode cL_law 2928 = .ok (.goto (-2900), 3) by decide +kernel) (by decide) ?_
        refine X_pick (ls' := [(0, .ref _), (1, .ref _), (2, .ref _), (3, .ref _), (4, .ref _), (5, .int _)]) [0, 1, 2, 3, 4, 5] rfl ?_
        exact hc28 _ _ _ _ _ _ _ w
      · have w := w.2 c661
        refine X_aload (j := 4) (show decode cL_law 2405 = .ok (.aload 4, 2) by decide +kernel) rfl ?_
        refine X_iconst (v := (nI 0)) (show decode cL_law 2407 = .ok (.iconst 0, 1) by decide +kernel) (by decide) ?_
        refine X_dald (show decode cL_law 2408 = .ok (.daload, 1) by decide +kernel) (isA_eq s658) s659 s660 ?_
        refine X_aload (j := 4) (show decode cL_law 2409 = .ok (.aload 4, 2) by decide +kernel) rfl ?_
        refine X_iconst (v := (nI 0)) (show decode cL_law 2411 = .ok (.iconst 0, 1) by decide +kernel) (by decide) ?_
        refine X_dald (show decode cL_law 2412 = .ok (.daload, 1) by decide +kernel) (isA_eq s658) s659 s660 ?_
        refine X_dcmp (show decode cL_law 2413 = .ok (.dcmp .l, 1) by decide +kernel) ?_
        refine X_if_eq (tgt := 2425) (show decode cL_law 2414 = .ok (.ifCond .eq 11, 3) by decide +kernel) (by decide) ⟨fun c662 => ?_, fun c662 => ?_⟩
        · have w := w.1 c662
          refine X_iconst (v := (nI 0)) (show decode cL_law 2425 = .ok (.iconst 0, 1) by decide +kernel) (by decide) ?_
          exact X_iret ⟨(show decode cL_law 2426 = .ok (.ireturn, 1) by decide +kernel), .boolean, rfl, (by decide)⟩ ⟨_, rfl, w⟩
        · have w := w.2 c662
          refine X_dload (j := 7) (show decode cL_law 2417 = .ok (.dload 7, 2) by decide +kernel) rfl ?_
          refine X_dload (j := 7) (show decode cL_law 2419 = .ok (.dload 7, 2) by decide +kernel) rfl ?_
          refine X_dcmp (show decode cL_law 2421 = .ok (.dcmp .l, 1) by decide +kernel) ?_
          refine X_if_ne (tgt := 2427) (show decode cL_law 2422 = .ok (.ifCond .ne 5, 3) by decide +kernel) (by decide) ⟨fun c663 => ?_, fun c663 => ?_⟩
          · have w := w.1 c663
            refine X_goto (tgt := 2925) (show decode cL_law 2427 = .ok (.goto 498, 3) by decide +kernel) (by decide) ?_
            refine X_iinc (j := 5) (v := _ + (nI 4)) (ls' := [(0, .ref _), (1, .ref _), (2, .ref _), (3, .ref _), (4, .ref _), (5, .int _), (6, .int _), (7, .double _)]) (show decode cL_law 2925 = .ok (.iinc 5 4, 3) by decide +kernel) rfl rfl (Nat.le_of_ble_eq_true rfl) rfl ?_
            refine X_goto (tgt := 28) (show decode cL_law 2928 = .ok (.goto (-2900), 3) by decide +kernel) (by decide) ?_
            refine X_pick (ls' := [(0, .ref _), (1, .ref _), (2, .ref _), (3, .ref _), (4, .ref _), (5, .int _)]) [0, 1, 2, 3, 4, 5] rfl ?_
            exact hc28 _ _ _ _ _ _ _ w
          · have w := w.2 c663
            refine X_iconst (v := (nI 0)) (show decode cL_law 2425 = .ok (.iconst 0, 1) by decide +kernel) (by decide) ?_
            exact X_iret ⟨(show decode cL_law 2426 = .ok (.ireturn, 1) by decide +kernel), .boolean, rfl, (by decide)⟩ ⟨_, rfl, w⟩
  · have w := w.2 c656
    refine X_iconst (v := (nI 0)) (show decode cL_law 2388 = .ok (.iconst 0, 1) by decide +kernel) (by decide) ?_
    exact X_iret ⟨(show decode cL_law 2389 = .ok (.ireturn, 1) by decide +kernel), .boolean, rfl, (by decide)⟩ ⟨_, rfl, w⟩
set_option maxRecDepth 100000 in
set_option maxHeartbeats 4000000 in
theorem kL_law_J2430 {rc0 rs0 : Nat} {K : Int32 → AH → Prop} {c28 : Nat → Nat → Nat → Nat → Nat → Int32 → AH → Prop} (hc28 : ∀ x0 x1 x2 x3 x4 x5 h, c28 x0 x1 x2 x3 x4 x5 h → X mL_law 20 (KI K) T0 rc0 rs0 28 [(0, .ref x0), (1, .ref x1), (2, .ref x2), (3, .ref x3), (4, .ref x4), (5, .int x5)] [] h) (x0 : Nat) (x1 : Nat) (x2 : Nat) (x3 : Nat) (x4 : Nat) (x5 : Int32) (h : AH) (w : wL_law_J2430 K c28 x0 x1 x2 x3 x4 x5 h) : X mL_law 20 (KI K) T0 (rc0 + 1) (rs0 + 6) 2430 [(0, .ref x0), (1, .ref x1), (2, .ref x2), (3, .ref x3), (4, .ref x4), (5, .int x5)] [] h := by
  unfold wL_law_J2430 at w
  refine X_aload_n (j := 1) (show decode cL_law 2430 = .ok (.aload_n 1, 1) by decide +kernel) rfl rfl ?_
  refine X_aload (j := 4) (show decode cL_law 2431 = .ok (.aload 4, 2) by decide +kernel) rfl ?_
  refine X_sH (rc' := rc0) (rs' := rs0) (as := [.ref _, .ref _]) msh_L_312 (show decode cL_law 2433 = .ok (.invokestatic 312, 3) by decide +kernel) (by decide) (by omega) (by omega) rfl rfl (Nat.le_of_ble_eq_true rfl) (kL_usedShare w) (fun r667 h666 w => ?_)
  refine X_istore (ls' := [(0, .ref _), (1, .ref _), (2, .ref _), (3, .ref _), (4, .ref _), (5, .int _), (6, .int _)]) (show decode cL_law 2436 = .ok (.istore 6, 2) by decide +kernel) (by decide) rfl ?_
  refine X_aload_n (j := 2) (show decode cL_law 2438 = .ok (.aload_n 2, 1) by decide +kernel) rfl rfl ?_
  obtain ⟨s682, w⟩ := w
  refine X_vF (rc' := rc0) (rs' := rs0) (as := []) mv_L_314 (show decode cL_law 2439 = .ok (.invokevirtual 314, 3) by decide +kernel) (by decide) (by omega) (by omega) rfl rfl (Nat.le_of_ble_eq_true rfl) (rcvD s682 (by decide) rfl) (kX10_usedShare w) (fun E h hk => hk.elim) (fun r669 h668 w => ?_)
  refine X_fstore (ls' := [(0, .ref _), (1, .ref _), (2, .ref _), (3, .ref _), (4, .ref _), (5, .int _), (6, .int _), (7, .float _)]) (show decode cL_law 2442 = .ok (.fstore 7, 2) by decide +kernel) (by decide) rfl ?_
  refine X_aload_n (j := 2) (show decode cL_law 2444 = .ok (.aload_n 2, 1) by decide +kernel) rfl rfl ?_
  obtain ⟨s681, w⟩ := w
  refine X_vI (rc' := rc0) (rs' := rs0) (as := []) mv_L_168 (show decode cL_law 2445 = .ok (.invokevirtual 168, 3) by decide +kernel) (by decide) (by omega) (by omega) rfl rfl (Nat.le_of_ble_eq_true rfl) (rcvD s681 (by decide) rfl) (kX10_thrown w) (fun E h hk => hk.elim) (fun r671 h670 w => ?_)
  refine X_iload (j := 6) (show decode cL_law 2448 = .ok (.iload 6, 2) by decide +kernel) rfl ?_
  refine X_icmp_eq (tgt := 2455) (show decode cL_law 2450 = .ok (.if_icmp .eq 5, 3) by decide +kernel) (by decide) ⟨fun c672 => ?_, fun c672 => ?_⟩
  · have w := w.1 c672
    refine X_iload (j := 6) (show decode cL_law 2455 = .ok (.iload 6, 2) by decide +kernel) rfl ?_
    refine X_if_ne (tgt := 2493) (show decode cL_law 2457 = .ok (.ifCond .ne 36, 3) by decide +kernel) (by decide) ⟨fun c673 => ?_, fun c673 => ?_⟩
    · have w := w.1 c673
      refine X_goto (tgt := 2925) (show decode cL_law 2493 = .ok (.goto 432, 3) by decide +kernel) (by decide) ?_
      refine X_iinc (j := 5) (v := _ + (nI 4)) (ls' := [(0, .ref _), (1, .ref _), (2, .ref _), (3, .ref _), (4, .ref _), (5, .int _), (6, .int _), (7, .float _)]) (show decode cL_law 2925 = .ok (.iinc 5 4, 3) by decide +kernel) rfl rfl (Nat.le_of_ble_eq_true rfl) rfl ?_
      refine X_goto (tgt := 28) (show decode cL_law 2928 = .ok (.goto (-2900), 3) by decide +kernel) (by decide) ?_
      refine X_pick (ls' := [(0, .ref _), (1, .ref _), (2, .ref _), (3, .ref _), (4, .ref _), (5, .int _)]) [0, 1, 2, 3, 4, 5] rfl ?_
      exact hc28 _ _ _ _ _ _ _ w
    · have w := w.2 c673
      refine X_aload (j := 4) (show decode cL_law 2460 = .ok (.aload 4, 2) by decide +kernel) rfl ?_
      refine X_iconst (v := (nI 0)) (show decode cL_law 2462 = .ok (.iconst 0, 1) by decide +kernel) (by decide) ?_
      obtain ⟨s674, w⟩ := w
      obtain ⟨s675, w⟩ := w
      obtain ⟨s676, w⟩ := w
      refine X_dald (show decode cL_law 2463 = .ok (.daload, 1) by decide +kernel) (isA_eq s674) s675 s676 ?_
      refine X_fload (j := 7) (show decode cL_law 2464 = .ok (.fload 7, 2) by decide +kernel) rfl ?_
      obtain ⟨s677, w⟩ := w
      refine X_f2d (show decode cL_law 2466 = .ok (.f2d, 1) by decide +kernel) s677 ?_
      refine X_dcmp (show decode cL_law 2467 = .ok (.dcmp .l, 1) by decide +kernel) ?_
      refine X_if_eq (tgt := 2493) (show decode cL_law 2468 = .ok (.ifCond .eq 25, 3) by decide +kernel) (by decide) ⟨fun c678 => ?_, fun c678 => ?_⟩
      · have w := w.1 c678
        refine X_goto (tgt := 2925) (show decode cL_law 2493 = .ok (.goto 432, 3) by decide +kernel) (by decide) ?_
        refine X_iinc (j := 5) (v := _ + (nI 4)) (ls' := [(0, .ref _), (1, .ref _), (2, .ref _), (3, .ref _), (4, .ref _), (5, .int _), (6, .int _), (7, .float _)]) (show decode cL_law 2925 = .ok (.iinc 5 4, 3) by decide +kernel) rfl rfl (Nat.le_of_ble_eq_true rfl) rfl ?_
        refine X_goto (tgt := 28) (show decode cL_law 2928 = .ok (.goto (-2900), 3) by decide +kernel) (by decide) ?_
        refine X_pick (ls' := [(0, .ref _), (1, .ref _), (2, .ref _), (3, .ref _), (4, .ref _), (5, .int _)]) [0, 1, 2, 3, 4, 5] rfl ?_
        exact hc28 _ _ _ _ _ _ _ w
      · have w := w.2 c678
        refine X_aload (j := 4) (show decode cL_law 2471 = .ok (.aload 4, 2) by decide +kernel) rfl ?_
        refine X_iconst (v := (nI 0)) (show decode cL_law 2473 = .ok (.iconst 0, 1) by decide +kernel) (by decide) ?_
        refine X_dald (show decode cL_law 2474 = .ok (.daload, 1) by decide +kernel) (isA_eq s674) s675 s676 ?_
        refine X_aload (j := 4) (show decode cL_law 2475 = .ok (.aload 4, 2) by decide +kernel) rfl ?_
        refine X_iconst (v := (nI 0)) (show decode cL_law 2477 = .ok (.iconst 0, 1) by decide +kernel) (by decide) ?_
        refine X_dald (show decode cL_law 2478 = .ok (.daload, 1) by decide +kernel) (isA_eq s674) s675 s676 ?_
        refine X_dcmp (show decode cL_law 2479 = .ok (.dcmp .l, 1) by decide +kernel) ?_
        refine X_if_eq (tgt := 2491) (show decode cL_law 2480 = .ok (.ifCond .eq 11, 3) by decide +kernel) (by decide) ⟨fun c679 => ?_, fun c679 => ?_⟩
        · have w := w.1 c679
          refine X_iconst (v := (nI 0)) (show decode cL_law 2491 = .ok (.iconst 0, 1) by decide +kernel) (by decide) ?_
          exact X_iret ⟨(show decode cL_law 2492 = .ok (.ireturn, 1) by decide +kernel), .boolean, rfl, (by decide)⟩ ⟨_, rfl, w⟩
        · have w := w.2 c679
          refine X_fload (j := 7) (show decode cL_law 2483 = .ok (.fload 7, 2) by decide +kernel) rfl ?_
          refine X_fload (j := 7) (show decode cL_law 2485 = .ok (.fload 7, 2) by decide +kernel) rfl ?_
          refine X_fcmp (show decode cL_law 2487 = .ok (.fcmp .l, 1) by decide +kernel) ?_
          refine X_if_ne (tgt := 2493) (show decode cL_law 2488 = .ok (.ifCond .ne 5, 3) by decide +kernel) (by decide) ⟨fun c680 => ?_, fun c680 => ?_⟩
          · have w := w.1 c680
            refine X_goto (tgt := 2925) (show decode cL_law 2493 = .ok (.goto 432, 3) by decide +kernel) (by decide) ?_
            refine X_iinc (j := 5) (v := _ + (nI 4)) (ls' := [(0, .ref _), (1, .ref _), (2, .ref _), (3, .ref _), (4, .ref _), (5, .int _), (6, .int _), (7, .float _)]) (show decode cL_law 2925 = .ok (.iinc 5 4, 3) by decide +kernel) rfl rfl (Nat.le_of_ble_eq_true rfl) rfl ?_
            refine X_goto (tgt := 28) (show decode cL_law 2928 = .ok (.goto (-2900), 3) by decide +kernel) (by decide) ?_
            refine X_pick (ls' := [(0, .ref _), (1, .ref _), (2, .ref _), (3, .ref _), (4, .ref _), (5, .int _)]) [0, 1, 2, 3, 4, 5] rfl ?_
            exact hc28 _ _ _ _ _ _ _ w
          · have w := w.2 c680
            refine X_iconst (v := (nI 0)) (show decode cL_law 2491 = .ok (.iconst 0, 1) by decide +kernel) (by decide) ?_
            exact X_iret ⟨(show decode cL_law 2492 = .ok (.ireturn, 1) by decide +kernel), .boolean, rfl, (by decide)⟩ ⟨_, rfl, w⟩
  · have w := w.2 c672
    refine X_iconst (v := (nI 0)) (show decode cL_law 2453 = .ok (.iconst 0, 1) by decide +kernel) (by decide) ?_
    exact X_iret ⟨(show decode cL_law 2454 = .ok (.ireturn, 1) by decide +kernel), .boolean, rfl, (by decide)⟩ ⟨_, rfl, w⟩
set_option maxRecDepth 100000 in
set_option maxHeartbeats 4000000 in
theorem kL_law_J2496 {rc0 rs0 : Nat} {K : Int32 → AH → Prop} {c28 : Nat → Nat → Nat → Nat → Nat → Int32 → AH → Prop} (hc28 : ∀ x0 x1 x2 x3 x4 x5 h, c28 x0 x1 x2 x3 x4 x5 h → X mL_law 20 (KI K) T0 rc0 rs0 28 [(0, .ref x0), (1, .ref x1), (2, .ref x2), (3, .ref x3), (4, .ref x4), (5, .int x5)] [] h) (x0 : Nat) (x1 : Nat) (x2 : Nat) (x3 : Nat) (x4 : Nat) (x5 : Int32) (h : AH) (w : wL_law_J2496 K c28 x0 x1 x2 x3 x4 x5 h) : X mL_law 20 (KI K) T0 rc0 rs0 2496 [(0, .ref x0), (1, .ref x1), (2, .ref x2), (3, .ref x3), (4, .ref x4), (5, .int x5)] [] h := by
  unfold wL_law_J2496 at w
  refine X_aload_n (j := 1) (show decode cL_law 2496 = .ok (.aload_n 1, 1) by decide +kernel) rfl rfl ?_
  obtain ⟨s689, w⟩ := w
  refine X_vI (rc' := rc0) (rs' := rs0) (as := []) mv_L_315 (show decode cL_law 2497 = .ok (.invokevirtual 315, 3) by decide +kernel) (by decide) (by omega) (by omega) rfl rfl (Nat.le_of_ble_eq_true rfl) (rcvD s689 (by decide) rfl) (kX9_isConsistent w) (fun E h hk => hk.elim) (fun r684 h683 w => ?_)
  refine X_aload_n (j := 2) (show decode cL_law 2500 = .ok (.aload_n 2, 1) by decide +kernel) rfl rfl ?_
  obtain ⟨s688, w⟩ := w
  refine X_vI (rc' := rc0) (rs' := rs0) (as := []) mv_L_319 (show decode cL_law 2501 = .ok (.invokevirtual 319, 3) by decide +kernel) (by decide) (by omega) (by omega) rfl rfl (Nat.le_of_ble_eq_true rfl) (rcvD s688 (by decide) rfl) (kX10_isConsistent w) (fun E h hk => hk.elim) (fun r686 h685 w => ?_)
  refine X_icmp_eq (tgt := 2925) (show decode cL_law 2504 = .ok (.if_icmp .eq 421, 3) by decide +kernel) (by decide) ⟨fun c687 => ?_, fun c687 => ?_⟩
  · have w := w.1 c687
    refine X_iinc (j := 5) (v := _ + (nI 4)) (ls' := [(0, .ref _), (1, .ref _), (2, .ref _), (3, .ref _), (4, .ref _), (5, .int _)]) (show decode cL_law 2925 = .ok (.iinc 5 4, 3) by decide +kernel) rfl rfl (Nat.le_of_ble_eq_true rfl) rfl ?_
    refine X_goto (tgt := 28) (show decode cL_law 2928 = .ok (.goto (-2900), 3) by decide +kernel) (by decide) ?_
    exact hc28 _ _ _ _ _ _ _ w
  · have w := w.2 c687
    refine X_iconst (v := (nI 0)) (show decode cL_law 2507 = .ok (.iconst 0, 1) by decide +kernel) (by decide) ?_
    exact X_iret ⟨(show decode cL_law 2508 = .ok (.ireturn, 1) by decide +kernel), .boolean, rfl, (by decide)⟩ ⟨_, rfl, w⟩
set_option maxRecDepth 100000 in
set_option maxHeartbeats 4000000 in
theorem kL_law_J2509 {rc0 rs0 : Nat} {K : Int32 → AH → Prop} {c28 : Nat → Nat → Nat → Nat → Nat → Int32 → AH → Prop} (hc28 : ∀ x0 x1 x2 x3 x4 x5 h, c28 x0 x1 x2 x3 x4 x5 h → X mL_law 20 (KI K) T0 rc0 rs0 28 [(0, .ref x0), (1, .ref x1), (2, .ref x2), (3, .ref x3), (4, .ref x4), (5, .int x5)] [] h) (x0 : Nat) (x1 : Nat) (x2 : Nat) (x3 : Nat) (x4 : Nat) (x5 : Int32) (h : AH) (w : wL_law_J2509 K c28 x0 x1 x2 x3 x4 x5 h) : X mL_law 20 (KI K) T0 (rc0 + 29) (rs0 + 7424) 2509 [(0, .ref x0), (1, .ref x1), (2, .ref x2), (3, .ref x3), (4, .ref x4), (5, .int x5)] [] h := by
  unfold wL_law_J2509 at w
  refine X_aload_n (j := 1) (show decode cL_law 2509 = .ok (.aload_n 1, 1) by decide +kernel) rfl rfl ?_
  obtain ⟨s696, w⟩ := w
  refine X_vI (rc' := rc0) (rs' := rs0) (as := []) mv_L_320 (show decode cL_law 2510 = .ok (.invokevirtual 320, 3) by decide +kernel) (by decide) (by omega) (by omega) rfl rfl (Nat.le_of_ble_eq_true rfl) (rcvD s696 (by decide) rfl) (kX9_writeBlocks w) (fun E h hk => hk.elim) (fun r691 h690 w => ?_)
  refine X_aload_n (j := 2) (show decode cL_law 2513 = .ok (.aload_n 2, 1) by decide +kernel) rfl rfl ?_
  obtain ⟨s695, w⟩ := w
  refine X_vI (rc' := rc0) (rs' := rs0) (as := []) mv_L_323 (show decode cL_law 2514 = .ok (.invokevirtual 323, 3) by decide +kernel) (by decide) (by omega) (by omega) rfl rfl (Nat.le_of_ble_eq_true rfl) (rcvD s695 (by decide) rfl) (kX10_writeBlocks w) (fun E h hk => hk.elim) (fun r693 h692 w => ?_)
  refine X_icmp_eq (tgt := 2925) (show decode cL_law 2517 = .ok (.if_icmp .eq 408, 3) by decide +kernel) (by decide) ⟨fun c694 => ?_, fun c694 => ?_⟩
  · have w := w.1 c694
    refine X_iinc (j := 5) (v := _ + (nI 4)) (ls' := [(0, .ref _), (1, .ref _), (2, .ref _), (3, .ref _), (4, .ref _), (5, .int _)]) (show decode cL_law 2925 = .ok (.iinc 5 4, 3) by decide +kernel) rfl rfl (Nat.le_of_ble_eq_true rfl) rfl ?_
    refine X_goto (tgt := 28) (show decode cL_law 2928 = .ok (.goto (-2900), 3) by decide +kernel) (by decide) ?_
    exact hc28 _ _ _ _ _ _ _ w
  · have w := w.2 c694
    refine X_iconst (v := (nI 0)) (show decode cL_law 2520 = .ok (.iconst 0, 1) by decide +kernel) (by decide) ?_
    exact X_iret ⟨(show decode cL_law 2521 = .ok (.ireturn, 1) by decide +kernel), .boolean, rfl, (by decide)⟩ ⟨_, rfl, w⟩
set_option maxRecDepth 100000 in
set_option maxHeartbeats 4000000 in
theorem kL_law_J2522 {rc0 rs0 : Nat} {K : Int32 → AH → Prop} {c28 : Nat → Nat → Nat → Nat → Nat → Int32 → AH → Prop} (hc28 : ∀ x0 x1 x2 x3 x4 x5 h, c28 x0 x1 x2 x3 x4 x5 h → X mL_law 20 (KI K) T0 rc0 rs0 28 [(0, .ref x0), (1, .ref x1), (2, .ref x2), (3, .ref x3), (4, .ref x4), (5, .int x5)] [] h) (x0 : Nat) (x1 : Nat) (x2 : Nat) (x3 : Nat) (x4 : Nat) (x5 : Int32) (h : AH) (w : wL_law_J2522 K c28 x0 x1 x2 x3 x4 x5 h) : X mL_law 20 (KI K) T0 (rc0 + 33) (rs0 + 8198) 2522 [(0, .ref x0), (1, .ref x1), (2, .ref x2), (3, .ref x3), (4, .ref x4), (5, .int x5)] [] h := by
  unfold wL_law_J2522 at w
  refine X_aload_n (j := 1) (show decode cL_law 2522 = .ok (.aload_n 1, 1) by decide +kernel) rfl rfl ?_
  refine X_aload_n (j := 0) (show decode cL_law 2523 = .ok (.aload_n 0, 1) by decide +kernel) rfl rfl ?_
  refine X_iload (j := 5) (show decode cL_law 2524 = .ok (.iload 5, 2) by decide +kernel) rfl ?_
  refine X_iconst (v := (nI 1)) (show decode cL_law 2526 = .ok (.iconst 1, 1) by decide +kernel) (by decide) ?_
  refine X_iadd (show decode cL_law 2527 = .ok (.iadd, 1) by decide +kernel) ?_
  obtain ⟨s697, w⟩ := w
  obtain ⟨s698, w⟩ := w
  refine X_iald (show decode cL_law 2528 = .ok (.iaload, 1) by decide +kernel) (isA_eq s697) s698 ?_
  refine X_aload_n (j := 3) (show decode cL_law 2529 = .ok (.aload_n 3, 1) by decide +kernel) rfl rfl ?_
  refine X_sH (rc' := rc0) (rs' := rs0) (as := [.ref _, .int _, .ref _]) msh_L_324 (show decode cL_law 2530 = .ok (.invokestatic 324, 3) by decide +kernel) (by decide) (by omega) (by omega) rfl rfl (Nat.le_of_ble_eq_true rfl) (kL_writeTrain w) (fun r700 h699 w => ?_)
  refine X_istore (ls' := [(0, .ref _), (1, .ref _), (2, .ref _), (3, .ref _), (4, .ref _), (5, .int _), (6, .int _)]) (show decode cL_law 2533 = .ok (.istore 6, 2) by decide +kernel) (by decide) rfl ?_
  refine X_aload_n (j := 2) (show decode cL_law 2535 = .ok (.aload_n 2, 1) by decide +kernel) rfl rfl ?_
  refine X_aload_n (j := 0) (show decode cL_law 2536 = .ok (.aload_n 0, 1) by decide +kernel) rfl rfl ?_
  refine X_iload (j := 5) (show decode cL_law 2537 = .ok (.iload 5, 2) by decide +kernel) rfl ?_
  refine X_iconst (v := (nI 1)) (show decode cL_law 2539 = .ok (.iconst 1, 1) by decide +kernel) (by decide) ?_
  refine X_iadd (show decode cL_law 2540 = .ok (.iadd, 1) by decide +kernel) ?_
  obtain ⟨s701, w⟩ := w
  obtain ⟨s702, w⟩ := w
  refine X_iald (show decode cL_law 2541 = .ok (.iaload, 1) by decide +kernel) (isA_eq s701) s702 ?_
  obtain ⟨s713, w⟩ := w
  refine X_vI (rc' := rc0) (rs' := rs0) (as := [.int _]) mv_L_326 (show decode cL_law 2542 = .ok (.invokevirtual 326, 3) by decide +kernel) (by decide) (by omega) (by omega) rfl rfl (Nat.le_of_ble_eq_true rfl) (rcvD s713 (by decide) rfl) (kX10_writeTrain w) (fun E h hk => hk.elim) (fun r704 h703 w => ?_)
  refine X_istore (ls' := [(0, .ref _), (1, .ref _), (2, .ref _), (3, .ref _), (4, .ref _), (5, .int _), (6, .int _), (7, .int _)]) (show decode cL_law 2545 = .ok (.istore 7, 2) by decide +kernel) (by decide) rfl ?_
  refine X_aload_n (j := 2) (show decode cL_law 2547 = .ok (.aload_n 2, 1) by decide +kernel) rfl rfl ?_
  obtain ⟨s712, w⟩ := w
  refine X_vI (rc' := rc0) (rs' := rs0) (as := []) mv_L_168 (show decode cL_law 2548 = .ok (.invokevirtual 168, 3) by decide +kernel) (by decide) (by omega) (by omega) rfl rfl (Nat.le_of_ble_eq_true rfl) (rcvD s712 (by decide) rfl) (kX10_thrown w) (fun E h hk => hk.elim) (fun r706 h705 w => ?_)
  refine X_iload (j := 6) (show decode cL_law 2551 = .ok (.iload 6, 2) by decide +kernel) rfl ?_
  refine X_icmp_eq (tgt := 2558) (show decode cL_law 2553 = .ok (.if_icmp .eq 5, 3) by decide +kernel) (by decide) ⟨fun c707 => ?_, fun c707 => ?_⟩
  · have w := w.1 c707
    refine X_iload (j := 6) (show decode cL_law 2558 = .ok (.iload 6, 2) by decide +kernel) rfl ?_
    refine X_if_ne (tgt := 2575) (show decode cL_law 2560 = .ok (.ifCond .ne 15, 3) by decide +kernel) (by decide) ⟨fun c708 => ?_, fun c708 => ?_⟩
    · have w := w.1 c708
      refine X_goto (tgt := 2925) (show decode cL_law 2575 = .ok (.goto 350, 3) by decide +kernel) (by decide) ?_
      refine X_iinc (j := 5) (v := _ + (nI 4)) (ls' := [(0, .ref _), (1, .ref _), (2, .ref _), (3, .ref _), (4, .ref _), (5, .int _), (6, .int _), (7, .int _)]) (show decode cL_law 2925 = .ok (.iinc 5 4, 3) by decide +kernel) rfl rfl (Nat.le_of_ble_eq_true rfl) rfl ?_
      refine X_goto (tgt := 28) (show decode cL_law 2928 = .ok (.goto (-2900), 3) by decide +kernel) (by decide) ?_
      refine X_pick (ls' := [(0, .ref _), (1, .ref _), (2, .ref _), (3, .ref _), (4, .ref _), (5, .int _)]) [0, 1, 2, 3, 4, 5] rfl ?_
      exact hc28 _ _ _ _ _ _ _ w
    · have w := w.2 c708
      refine X_aload_n (j := 3) (show decode cL_law 2563 = .ok (.aload_n 3, 1) by decide +kernel) rfl rfl ?_
      refine X_iconst (v := (nI 0)) (show decode cL_law 2564 = .ok (.iconst 0, 1) by decide +kernel) (by decide) ?_
      obtain ⟨s709, w⟩ := w
      obtain ⟨s710, w⟩ := w
      refine X_lald (show decode cL_law 2565 = .ok (.laload, 1) by decide +kernel) (isA_eq s709) s710 ?_
      refine X_iload (j := 7) (show decode cL_law 2566 = .ok (.iload 7, 2) by decide +kernel) rfl ?_
      refine X_i2l (show decode cL_law 2568 = .ok (.i2l, 1) by decide +kernel) ?_
      refine X_lcmp (show decode cL_law 2569 = .ok (.lcmp, 1) by decide +kernel) ?_
      refine X_if_eq (tgt := 2575) (show decode cL_law 2570 = .ok (.ifCond .eq 5, 3) by decide +kernel) (by decide) ⟨fun c711 => ?_, fun c711 => ?_⟩
      · have w := w.1 c711
        refine X_goto (tgt := 2925) (show decode cL_law 2575 = .ok (.goto 350, 3) by decide +kernel) (by decide) ?_
        refine X_iinc (j := 5) (v := _ + (nI 4)) (ls' := [(0, .ref _), (1, .ref _), (2, .ref _), (3, .ref _), (4, .ref _), (5, .int _), (6, .int _), (7, .int _)]) (show decode cL_law 2925 = .ok (.iinc 5 4, 3) by decide +kernel) rfl rfl (Nat.le_of_ble_eq_true rfl) rfl ?_
        refine X_goto (tgt := 28) (show decode cL_law 2928 = .ok (.goto (-2900), 3) by decide +kernel) (by decide) ?_
        refine X_pick (ls' := [(0, .ref _), (1, .ref _), (2, .ref _), (3, .ref _), (4, .ref _), (5, .int _)]) [0, 1, 2, 3, 4, 5] rfl ?_
        exact hc28 _ _ _ _ _ _ _ w
      · have w := w.2 c711
        refine X_iconst (v := (nI 0)) (show decode cL_law 2573 = .ok (.iconst 0, 1) by decide +kernel) (by decide) ?_
        exact X_iret ⟨(show decode cL_law 2574 = .ok (.ireturn, 1) by decide +kernel), .boolean, rfl, (by decide)⟩ ⟨_, rfl, w⟩
  · have w := w.2 c707
    refine X_iconst (v := (nI 0)) (show decode cL_law 2556 = .ok (.iconst 0, 1) by decide +kernel) (by decide) ?_
    exact X_iret ⟨(show decode cL_law 2557 = .ok (.ireturn, 1) by decide +kernel), .boolean, rfl, (by decide)⟩ ⟨_, rfl, w⟩
set_option maxRecDepth 100000 in
set_option maxHeartbeats 4000000 in
theorem kL_law_J2578 {rc0 rs0 : Nat} {K : Int32 → AH → Prop} {c28 : Nat → Nat → Nat → Nat → Nat → Int32 → AH → Prop} (hc28 : ∀ x0 x1 x2 x3 x4 x5 h, c28 x0 x1 x2 x3 x4 x5 h → X mL_law 20 (KI K) T0 rc0 rs0 28 [(0, .ref x0), (1, .ref x1), (2, .ref x2), (3, .ref x3), (4, .ref x4), (5, .int x5)] [] h) (x0 : Nat) (x1 : Nat) (x2 : Nat) (x3 : Nat) (x4 : Nat) (x5 : Int32) (h : AH) (w : wL_law_J2578 K c28 x0 x1 x2 x3 x4 x5 h) : X mL_law 20 (KI K) T0 (rc0 + 1) (rs0 + 6) 2578 [(0, .ref x0), (1, .ref x1), (2, .ref x2), (3, .ref x3), (4, .ref x4), (5, .int x5)] [] h := by
  unfold wL_law_J2578 at w
  refine X_aload_n (j := 1) (show decode cL_law 2578 = .ok (.aload_n 1, 1) by decide +kernel) rfl rfl ?_
  refine X_aload_n (j := 0) (show decode cL_law 2579 = .ok (.aload_n 0, 1) by decide +kernel) rfl rfl ?_
  refine X_iload (j := 5) (show decode cL_law 2580 = .ok (.iload 5, 2) by decide +kernel) rfl ?_
  refine X_iconst (v := (nI 1)) (show decode cL_law 2582 = .ok (.iconst 1, 1) by decide +kernel) (by decide) ?_
  refine X_iadd (show decode cL_law 2583 = .ok (.iadd, 1) by decide +kernel) ?_
  obtain ⟨s714, w⟩ := w
  obtain ⟨s715, w⟩ := w
  refine X_iald (show decode cL_law 2584 = .ok (.iaload, 1) by decide +kernel) (isA_eq s714) s715 ?_
  refine X_aload_n (j := 3) (show decode cL_law 2585 = .ok (.aload_n 3, 1) by decide +kernel) rfl rfl ?_
  refine X_sH (rc' := rc0) (rs' := rs0) (as := [.ref _, .int _, .ref _]) msh_L_327 (show decode cL_law 2586 = .ok (.invokestatic 327, 3) by decide +kernel) (by decide) (by omega) (by omega) rfl rfl (Nat.le_of_ble_eq_true rfl) (kL_charAt w) (fun r717 h716 w => ?_)
  refine X_istore (ls' := [(0, .ref _), (1, .ref _), (2, .ref _), (3, .ref _), (4, .ref _), (5, .int _), (6, .int _)]) (show decode cL_law 2589 = .ok (.istore 6, 2) by decide +kernel) (by decide) rfl ?_
  refine X_aload_n (j := 2) (show decode cL_law 2591 = .ok (.aload_n 2, 1) by decide +kernel) rfl rfl ?_
  refine X_aload_n (j := 0) (show decode cL_law 2592 = .ok (.aload_n 0, 1) by decide +kernel) rfl rfl ?_
  refine X_iload (j := 5) (show decode cL_law 2593 = .ok (.iload 5, 2) by decide +kernel) rfl ?_
  refine X_iconst (v := (nI 1)) (show decode cL_law 2595 = .ok (.iconst 1, 1) by decide +kernel) (by decide) ?_
  refine X_iadd (show decode cL_law 2596 = .ok (.iadd, 1) by decide +kernel) ?_
  obtain ⟨s718, w⟩ := w
  obtain ⟨s719, w⟩ := w
  refine X_iald (show decode cL_law 2597 = .ok (.iaload, 1) by decide +kernel) (isA_eq s718) s719 ?_
  obtain ⟨s730, w⟩ := w
  refine X_vI (rc' := rc0) (rs' := rs0) (as := [.int _]) mv_L_329 (show decode cL_law 2598 = .ok (.invokevirtual 329, 3) by decide +kernel) (by decide) (by omega) (by omega) rfl rfl (Nat.le_of_ble_eq_true rfl) (rcvD s730 (by decide) rfl) (kX10_charAt w) (fun E h hk => hk.elim) (fun r721 h720 w => ?_)
  refine X_istore (ls' := [(0, .ref _), (1, .ref _), (2, .ref _), (3, .ref _), (4, .ref _), (5, .int _), (6, .int _), (7, .int _)]) (show decode cL_law 2601 = .ok (.istore 7, 2) by decide +kernel) (by decide) rfl ?_
  refine X_aload_n (j := 2) (show decode cL_law 2603 = .ok (.aload_n 2, 1) by decide +kernel) rfl rfl ?_
  obtain ⟨s729, w⟩ := w
  refine X_vI (rc' := rc0) (rs' := rs0) (as := []) mv_L_168 (show decode cL_law 2604 = .ok (.invokevirtual 168, 3) by decide +kernel) (by decide) (by omega) (by omega) rfl rfl (Nat.le_of_ble_eq_true rfl) (rcvD s729 (by decide) rfl) (kX10_thrown w) (fun E h hk => hk.elim) (fun r723 h722 w => ?_)
  refine X_iload (j := 6) (show decode cL_law 2607 = .ok (.iload 6, 2) by decide +kernel) rfl ?_
  refine X_icmp_eq (tgt := 2614) (show decode cL_law 2609 = .ok (.if_icmp .eq 5, 3) by decide +kernel) (by decide) ⟨fun c724 => ?_, fun c724 => ?_⟩
  · have w := w.1 c724
    refine X_iload (j := 6) (show decode cL_law 2614 = .ok (.iload 6, 2) by decide +kernel) rfl ?_
    refine X_if_ne (tgt := 2631) (show decode cL_law 2616 = .ok (.ifCond .ne 15, 3) by decide +kernel) (by decide) ⟨fun c725 => ?_, fun c725 => ?_⟩
    · have w := w.1 c725
      refine X_goto (tgt := 2925) (show decode cL_law 2631 = .ok (.goto 294, 3) by decide +kernel) (by decide) ?_
      refine X_iinc (j := 5) (v := _ + (nI 4)) (ls' := [(0, .ref _), (1, .ref _), (2, .ref _), (3, .ref _), (4, .ref _), (5, .int _), (6, .int _), (7, .int _)]) (show decode cL_law 2925 = .ok (.iinc 5 4, 3) by decide +kernel) rfl rfl (Nat.le_of_ble_eq_true rfl) rfl ?_
      refine X_goto (tgt := 28) (show decode cL_law 2928 = .ok (.goto (-2900), 3) by decide +kernel) (by decide) ?_
      refine X_pick (ls' := [(0, .ref _), (1, .ref _), (2, .ref _), (3, .ref _), (4, .ref _), (5, .int _)]) [0, 1, 2, 3, 4, 5] rfl ?_
      exact hc28 _ _ _ _ _ _ _ w
    · have w := w.2 c725
      refine X_aload_n (j := 3) (show decode cL_law 2619 = .ok (.aload_n 3, 1) by decide +kernel) rfl rfl ?_
      refine X_iconst (v := (nI 0)) (show decode cL_law 2620 = .ok (.iconst 0, 1) by decide +kernel) (by decide) ?_
      obtain ⟨s726, w⟩ := w
      obtain ⟨s727, w⟩ := w
      refine X_lald (show decode cL_law 2621 = .ok (.laload, 1) by decide +kernel) (isA_eq s726) s727 ?_
      refine X_iload (j := 7) (show decode cL_law 2622 = .ok (.iload 7, 2) by decide +kernel) rfl ?_
      refine X_i2l (show decode cL_law 2624 = .ok (.i2l, 1) by decide +kernel) ?_
      refine X_lcmp (show decode cL_law 2625 = .ok (.lcmp, 1) by decide +kernel) ?_
      refine X_if_eq (tgt := 2631) (show decode cL_law 2626 = .ok (.ifCond .eq 5, 3) by decide +kernel) (by decide) ⟨fun c728 => ?_, fun c728 => ?_⟩
      · have w := w.1 c728
        refine X_goto (tgt := 2925) (show decode cL_law 2631 = .ok (.goto 294, 3) by decide +kernel) (by decide) ?_
        refine X_iinc (j := 5) (v := _ + (nI 4)) (ls' := [(0, .ref _), (1, .ref _), (2, .ref _), (3, .ref _), (4, .ref _), (5, .int _), (6, .int _), (7, .int _)]) (show decode cL_law 2925 = .ok (.iinc 5 4, 3) by decide +kernel) rfl rfl (Nat.le_of_ble_eq_true rfl) rfl ?_
        refine X_goto (tgt := 28) (show decode cL_law 2928 = .ok (.goto (-2900), 3) by decide +kernel) (by decide) ?_
        refine X_pick (ls' := [(0, .ref _), (1, .ref _), (2, .ref _), (3, .ref _), (4, .ref _), (5, .int _)]) [0, 1, 2, 3, 4, 5] rfl ?_
        exact hc28 _ _ _ _ _ _ _ w
      · have w := w.2 c728
        refine X_iconst (v := (nI 0)) (show decode cL_law 2629 = .ok (.iconst 0, 1) by decide +kernel) (by decide) ?_
        exact X_iret ⟨(show decode cL_law 2630 = .ok (.ireturn, 1) by decide +kernel), .boolean, rfl, (by decide)⟩ ⟨_, rfl, w⟩
  · have w := w.2 c724
    refine X_iconst (v := (nI 0)) (show decode cL_law 2612 = .ok (.iconst 0, 1) by decide +kernel) (by decide) ?_
    exact X_iret ⟨(show decode cL_law 2613 = .ok (.ireturn, 1) by decide +kernel), .boolean, rfl, (by decide)⟩ ⟨_, rfl, w⟩
set_option maxRecDepth 100000 in
set_option maxHeartbeats 4000000 in
theorem kL_law_J2634 {rc0 rs0 : Nat} {K : Int32 → AH → Prop} {c28 : Nat → Nat → Nat → Nat → Nat → Int32 → AH → Prop} (hc28 : ∀ x0 x1 x2 x3 x4 x5 h, c28 x0 x1 x2 x3 x4 x5 h → X mL_law 20 (KI K) T0 rc0 rs0 28 [(0, .ref x0), (1, .ref x1), (2, .ref x2), (3, .ref x3), (4, .ref x4), (5, .int x5)] [] h) (x0 : Nat) (x1 : Nat) (x2 : Nat) (x3 : Nat) (x4 : Nat) (x5 : Int32) (h : AH) (w : wL_law_J2634 K c28 x0 x1 x2 x3 x4 x5 h) : X mL_law 20 (KI K) T0 (rc0 + 1) (rs0 + 6) 2634 [(0, .ref x0), (1, .ref x1), (2, .ref x2), (3, .ref x3), (4, .ref x4), (5, .int x5)] [] h := by
  unfold wL_law_J2634 at w
  refine X_aload_n (j := 1) (show decode cL_law 2634 = .ok (.aload_n 1, 1) by decide +kernel) rfl rfl ?_
  refine X_aload_n (j := 0) (show decode cL_law 2635 = .ok (.aload_n 0, 1) by decide +kernel) rfl rfl ?_
  refine X_iload (j := 5) (show decode cL_law 2636 = .ok (.iload 5, 2) by decide +kernel) rfl ?_
  refine X_iconst (v := (nI 1)) (show decode cL_law 2638 = .ok (.iconst 1, 1) by decide +kernel) (by decide) ?_
  refine X_iadd (show decode cL_law 2639 = .ok (.iadd, 1) by decide +kernel) ?_
  obtain ⟨s731, w⟩ := w
  obtain ⟨s732, w⟩ := w
  refine X_iald (show decode cL_law 2640 = .ok (.iaload, 1) by decide +kernel) (isA_eq s731) s732 ?_
  refine X_i2c (show decode cL_law 2641 = .ok (.i2c, 1) by decide +kernel) ?_
  refine X_aload_n (j := 3) (show decode cL_law 2642 = .ok (.aload_n 3, 1) by decide +kernel) rfl rfl ?_
  refine X_sH (rc' := rc0) (rs' := rs0) (as := [.ref _, .int _, .ref _]) msh_L_330 (show decode cL_law 2643 = .ok (.invokestatic 330, 3) by decide +kernel) (by decide) (by omega) (by omega) rfl rfl (Nat.le_of_ble_eq_true rfl) (kL_type w) (fun r734 h733 w => ?_)
  refine X_istore (ls' := [(0, .ref _), (1, .ref _), (2, .ref _), (3, .ref _), (4, .ref _), (5, .int _), (6, .int _)]) (show decode cL_law 2646 = .ok (.istore 6, 2) by decide +kernel) (by decide) rfl ?_
  refine X_aload_n (j := 2) (show decode cL_law 2648 = .ok (.aload_n 2, 1) by decide +kernel) rfl rfl ?_
  refine X_aload_n (j := 0) (show decode cL_law 2649 = .ok (.aload_n 0, 1) by decide +kernel) rfl rfl ?_
  refine X_iload (j := 5) (show decode cL_law 2650 = .ok (.iload 5, 2) by decide +kernel) rfl ?_
  refine X_iconst (v := (nI 1)) (show decode cL_law 2652 = .ok (.iconst 1, 1) by decide +kernel) (by decide) ?_
  refine X_iadd (show decode cL_law 2653 = .ok (.iadd, 1) by decide +kernel) ?_
  obtain ⟨s735, w⟩ := w
  obtain ⟨s736, w⟩ := w
  refine X_iald (show decode cL_law 2654 = .ok (.iaload, 1) by decide +kernel) (isA_eq s735) s736 ?_
  refine X_i2c (show decode cL_law 2655 = .ok (.i2c, 1) by decide +kernel) ?_
  obtain ⟨s747, w⟩ := w
  refine X_vI (rc' := rc0) (rs' := rs0) (as := [.int _]) mv_L_333 (show decode cL_law 2656 = .ok (.invokevirtual 333, 3) by decide +kernel) (by decide) (by omega) (by omega) rfl rfl (Nat.le_of_ble_eq_true rfl) (rcvD s747 (by decide) rfl) (kX10_type w) (fun E h hk => hk.elim) (fun r738 h737 w => ?_)
  refine X_istore (ls' := [(0, .ref _), (1, .ref _), (2, .ref _), (3, .ref _), (4, .ref _), (5, .int _), (6, .int _), (7, .int _)]) (show decode cL_law 2659 = .ok (.istore 7, 2) by decide +kernel) (by decide) rfl ?_
  refine X_aload_n (j := 2) (show decode cL_law 2661 = .ok (.aload_n 2, 1) by decide +kernel) rfl rfl ?_
  obtain ⟨s746, w⟩ := w
  refine X_vI (rc' := rc0) (rs' := rs0) (as := []) mv_L_168 (show decode cL_law 2662 = .ok (.invokevirtual 168, 3) by decide +kernel) (by decide) (by omega) (by omega) rfl rfl (Nat.le_of_ble_eq_true rfl) (rcvD s746 (by decide) rfl) (kX10_thrown w) (fun E h hk => hk.elim) (fun r740 h739 w => ?_)
  refine X_iload (j := 6) (show decode cL_law 2665 = .ok (.iload 6, 2) by decide +kernel) rfl ?_
  refine X_icmp_eq (tgt := 2672) (show decode cL_law 2667 = .ok (.if_icmp .eq 5, 3) by decide +kernel) (by decide) ⟨fun c741 => ?_, fun c741 => ?_⟩
  · have w := w.1 c741
    refine X_iload (j := 6) (show decode cL_law 2672 = .ok (.iload 6, 2) by decide +kernel) rfl ?_
    refine X_if_ne (tgt := 2689) (show decode cL_law 2674 = .ok (.ifCond .ne 15, 3) by decide +kernel) (by decide) ⟨fun c742 => ?_, fun c742 => ?_⟩
    · have w := w.1 c742
      refine X_goto (tgt := 2925) (show decode cL_law 2689 = .ok (.goto 236, 3) by decide +kernel) (by decide) ?_
      refine X_iinc (j := 5) (v := _ + (nI 4)) (ls' := [(0, .ref _), (1, .ref _), (2, .ref _), (3, .ref _), (4, .ref _), (5, .int _), (6, .int _), (7, .int _)]) (show decode cL_law 2925 = .ok (.iinc 5 4, 3) by decide +kernel) rfl rfl (Nat.le_of_ble_eq_true rfl) rfl ?_
      refine X_goto (tgt := 28) (show decode cL_law 2928 = .ok (.goto (-2900), 3) by decide +kernel) (by decide) ?_
      refine X_pick (ls' := [(0, .ref _), (1, .ref _), (2, .ref _), (3, .ref _), (4, .ref _), (5, .int _)]) [0, 1, 2, 3, 4, 5] rfl ?_
      exact hc28 _ _ _ _ _ _ _ w
    · have w := w.2 c742
      refine X_aload_n (j := 3) (show decode cL_law 2677 = .ok (.aload_n 3, 1) by decide +kernel) rfl rfl ?_
      refine X_iconst (v := (nI 0)) (show decode cL_law 2678 = .ok (.iconst 0, 1) by decide +kernel) (by decide) ?_
      obtain ⟨s743, w⟩ := w
      obtain ⟨s744, w⟩ := w
      refine X_lald (show decode cL_law 2679 = .ok (.laload, 1) by decide +kernel) (isA_eq s743) s744 ?_
      refine X_iload (j := 7) (show decode cL_law 2680 = .ok (.iload 7, 2) by decide +kernel) rfl ?_
      refine X_i2l (show decode cL_law 2682 = .ok (.i2l, 1) by decide +kernel) ?_
      refine X_lcmp (show decode cL_law 2683 = .ok (.lcmp, 1) by decide +kernel) ?_
      refine X_if_eq (tgt := 2689) (show decode cL_law 2684 = .ok (.ifCond .eq 5, 3) by decide +kernel) (by decide) ⟨fun c745 => ?_, fun c745 => ?_⟩
      · have w := w.1 c745
        refine X_goto (tgt := 2925) (show decode cL_law 2689 = .ok (.goto 236, 3) by decide +kernel) (by decide) ?_
        refine X_iinc (j := 5) (v := _ + (nI 4)) (ls' := [(0, .ref _), (1, .ref _), (2, .ref _), (3, .ref _), (4, .ref _), (5, .int _), (6, .int _), (7, .int _)]) (show decode cL_law 2925 = .ok (.iinc 5 4, 3) by decide +kernel) rfl rfl (Nat.le_of_ble_eq_true rfl) rfl ?_
        refine X_goto (tgt := 28) (show decode cL_law 2928 = .ok (.goto (-2900), 3) by decide +kernel) (by decide) ?_
        refine X_pick (ls' := [(0, .ref _), (1, .ref _), (2, .ref _), (3, .ref _), (4, .ref _), (5, .int _)]) [0, 1, 2, 3, 4, 5] rfl ?_
        exact hc28 _ _ _ _ _ _ _ w
      · have w := w.2 c745
        refine X_iconst (v := (nI 0)) (show decode cL_law 2687 = .ok (.iconst 0, 1) by decide +kernel) (by decide) ?_
        exact X_iret ⟨(show decode cL_law 2688 = .ok (.ireturn, 1) by decide +kernel), .boolean, rfl, (by decide)⟩ ⟨_, rfl, w⟩
  · have w := w.2 c741
    refine X_iconst (v := (nI 0)) (show decode cL_law 2670 = .ok (.iconst 0, 1) by decide +kernel) (by decide) ?_
    exact X_iret ⟨(show decode cL_law 2671 = .ok (.ireturn, 1) by decide +kernel), .boolean, rfl, (by decide)⟩ ⟨_, rfl, w⟩
set_option maxRecDepth 100000 in
set_option maxHeartbeats 4000000 in
theorem kL_law_J2692 {rc0 rs0 : Nat} {K : Int32 → AH → Prop} {c28 : Nat → Nat → Nat → Nat → Nat → Int32 → AH → Prop} (hc28 : ∀ x0 x1 x2 x3 x4 x5 h, c28 x0 x1 x2 x3 x4 x5 h → X mL_law 20 (KI K) T0 rc0 rs0 28 [(0, .ref x0), (1, .ref x1), (2, .ref x2), (3, .ref x3), (4, .ref x4), (5, .int x5)] [] h) (x0 : Nat) (x1 : Nat) (x2 : Nat) (x3 : Nat) (x4 : Nat) (x5 : Int32) (h : AH) (w : wL_law_J2692 K c28 x0 x1 x2 x3 x4 x5 h) : X mL_law 20 (KI K) T0 (rc0 + 1) (rs0 + 6) 2692 [(0, .ref x0), (1, .ref x1), (2, .ref x2), (3, .ref x3), (4, .ref x4), (5, .int x5)] [] h := by
  unfold wL_law_J2692 at w
  refine X_aload_n (j := 1) (show decode cL_law 2692 = .ok (.aload_n 1, 1) by decide +kernel) rfl rfl ?_
  refine X_aload_n (j := 3) (show decode cL_law 2693 = .ok (.aload_n 3, 1) by decide +kernel) rfl rfl ?_
  refine X_sH (rc' := rc0) (rs' := rs0) (as := [.ref _, .ref _]) msh_L_334 (show decode cL_law 2694 = .ok (.invokestatic 334, 3) by decide +kernel) (by decide) (by omega) (by omega) rfl rfl (Nat.le_of_ble_eq_true rfl) (kL_run w) (fun r749 h748 w => ?_)
  refine X_istore (ls' := [(0, .ref _), (1, .ref _), (2, .ref _), (3, .ref _), (4, .ref _), (5, .int _), (6, .int _)]) (show decode cL_law 2697 = .ok (.istore 6, 2) by decide +kernel) (by decide) rfl ?_
  refine X_aload_n (j := 2) (show decode cL_law 2699 = .ok (.aload_n 2, 1) by decide +kernel) rfl rfl ?_
  obtain ⟨s760, w⟩ := w
  refine X_vI (rc' := rc0) (rs' := rs0) (as := []) mv_L_336 (show decode cL_law 2700 = .ok (.invokevirtual 336, 3) by decide +kernel) (by decide) (by omega) (by omega) rfl rfl (Nat.le_of_ble_eq_true rfl) (rcvD s760 (by decide) rfl) (kX10_run w) (fun E h hk => hk.elim) (fun r751 h750 w => ?_)
  refine X_istore (ls' := [(0, .ref _), (1, .ref _), (2, .ref _), (3, .ref _), (4, .ref _), (5, .int _), (6, .int _), (7, .int _)]) (show decode cL_law 2703 = .ok (.istore 7, 2) by decide +kernel) (by decide) rfl ?_
  refine X_aload_n (j := 2) (show decode cL_law 2705 = .ok (.aload_n 2, 1) by decide +kernel) rfl rfl ?_
  obtain ⟨s759, w⟩ := w
  refine X_vI (rc' := rc0) (rs' := rs0) (as := []) mv_L_168 (show decode cL_law 2706 = .ok (.invokevirtual 168, 3) by decide +kernel) (by decide) (by omega) (by omega) rfl rfl (Nat.le_of_ble_eq_true rfl) (rcvD s759 (by decide) rfl) (kX10_thrown w) (fun E h hk => hk.elim) (fun r753 h752 w => ?_)
  refine X_iload (j := 6) (show decode cL_law 2709 = .ok (.iload 6, 2) by decide +kernel) rfl ?_
  refine X_icmp_eq (tgt := 2716) (show decode cL_law 2711 = .ok (.if_icmp .eq 5, 3) by decide +kernel) (by decide) ⟨fun c754 => ?_, fun c754 => ?_⟩
  · have w := w.1 c754
    refine X_iload (j := 6) (show decode cL_law 2716 = .ok (.iload 6, 2) by decide +kernel) rfl ?_
    refine X_if_ne (tgt := 2733) (show decode cL_law 2718 = .ok (.ifCond .ne 15, 3) by decide +kernel) (by decide) ⟨fun c755 => ?_, fun c755 => ?_⟩
    · have w := w.1 c755
      refine X_goto (tgt := 2925) (show decode cL_law 2733 = .ok (.goto 192, 3) by decide +kernel) (by decide) ?_
      refine X_iinc (j := 5) (v := _ + (nI 4)) (ls' := [(0, .ref _), (1, .ref _), (2, .ref _), (3, .ref _), (4, .ref _), (5, .int _), (6, .int _), (7, .int _)]) (show decode cL_law 2925 = .ok (.iinc 5 4, 3) by decide +kernel) rfl rfl (Nat.le_of_ble_eq_true rfl) rfl ?_
      refine X_goto (tgt := 28) (show decode cL_law 2928 = .ok (.goto (-2900), 3) by decide +kernel) (by decide) ?_
      refine X_pick (ls' := [(0, .ref _), (1, .ref _), (2, .ref _), (3, .ref _), (4, .ref _), (5, .int _)]) [0, 1, 2, 3, 4, 5] rfl ?_
      exact hc28 _ _ _ _ _ _ _ w
    · have w := w.2 c755
      refine X_aload_n (j := 3) (show decode cL_law 2721 = .ok (.aload_n 3, 1) by decide +kernel) rfl rfl ?_
      refine X_iconst (v := (nI 0)) (show decode cL_law 2722 = .ok (.iconst 0, 1) by decide +kernel) (by decide) ?_
      obtain ⟨s756, w⟩ := w
      obtain ⟨s757, w⟩ := w
      refine X_lald (show decode cL_law 2723 = .ok (.laload, 1) by decide +kernel) (isA_eq s756) s757 ?_
      refine X_iload (j := 7) (show decode cL_law 2724 = .ok (.iload 7, 2) by decide +kernel) rfl ?_
      refine X_i2l (show decode cL_law 2726 = .ok (.i2l, 1) by decide +kernel) ?_
      refine X_lcmp (show decode cL_law 2727 = .ok (.lcmp, 1) by decide +kernel) ?_
      refine X_if_eq (tgt := 2733) (show decode cL_law 2728 = .ok (.ifCond .eq 5, 3) by decide +kernel) (by decide) ⟨fun c758 => ?_, fun c758 => ?_⟩
      · have w := w.1 c758
        refine X_goto (tgt := 2925) (show decode cL_law 2733 = .ok (.goto 192, 3) by decide +kernel) (by decide) ?_
        refine X_iinc (j := 5) (v := _ + (nI 4)) (ls' := [(0, .ref _), (1, .ref _), (2, .ref _), (3, .ref _), (4, .ref _), (5, .int _), (6, .int _), (7, .int _)]) (show decode cL_law 2925 = .ok (.iinc 5 4, 3) by decide +kernel) rfl rfl (Nat.le_of_ble_eq_true rfl) rfl ?_
        refine X_goto (tgt := 28) (show decode cL_law 2928 = .ok (.goto (-2900), 3) by decide +kernel) (by decide) ?_
        refine X_pick (ls' := [(0, .ref _), (1, .ref _), (2, .ref _), (3, .ref _), (4, .ref _), (5, .int _)]) [0, 1, 2, 3, 4, 5] rfl ?_
        exact hc28 _ _ _ _ _ _ _ w
      · have w := w.2 c758
        refine X_iconst (v := (nI 0)) (show decode cL_law 2731 = .ok (.iconst 0, 1) by decide +kernel) (by decide) ?_
        exact X_iret ⟨(show decode cL_law 2732 = .ok (.ireturn, 1) by decide +kernel), .boolean, rfl, (by decide)⟩ ⟨_, rfl, w⟩
  · have w := w.2 c754
    refine X_iconst (v := (nI 0)) (show decode cL_law 2714 = .ok (.iconst 0, 1) by decide +kernel) (by decide) ?_
    exact X_iret ⟨(show decode cL_law 2715 = .ok (.ireturn, 1) by decide +kernel), .boolean, rfl, (by decide)⟩ ⟨_, rfl, w⟩
set_option maxRecDepth 100000 in
set_option maxHeartbeats 4000000 in
theorem kL_law_J2736 {rc0 rs0 : Nat} {K : Int32 → AH → Prop} {c28 : Nat → Nat → Nat → Nat → Nat → Int32 → AH → Prop} (hc28 : ∀ x0 x1 x2 x3 x4 x5 h, c28 x0 x1 x2 x3 x4 x5 h → X mL_law 20 (KI K) T0 rc0 rs0 28 [(0, .ref x0), (1, .ref x1), (2, .ref x2), (3, .ref x3), (4, .ref x4), (5, .int x5)] [] h) (x0 : Nat) (x1 : Nat) (x2 : Nat) (x3 : Nat) (x4 : Nat) (x5 : Int32) (h : AH) (w : wL_law_J2736 K c28 x0 x1 x2 x3 x4 x5 h) : X mL_law 20 (KI K) T0 (rc0 + 1) (rs0 + 6) 2736 [(0, .ref x0), (1, .ref x1), (2, .ref x2), (3, .ref x3), (4, .ref x4), (5, .int x5)] [] h := by
  unfold wL_law_J2736 at w
  refine X_aload_n (j := 1) (show decode cL_law 2736 = .ok (.aload_n 1, 1) by decide +kernel) rfl rfl ?_
  refine X_aload_n (j := 3) (show decode cL_law 2737 = .ok (.aload_n 3, 1) by decide +kernel) rfl rfl ?_
  refine X_sH (rc' := rc0) (rs' := rs0) (as := [.ref _, .ref _]) msh_L_337 (show decode cL_law 2738 = .ok (.invokestatic 337, 3) by decide +kernel) (by decide) (by omega) (by omega) rfl rfl (Nat.le_of_ble_eq_true rfl) (kL_errorPosition w) (fun r762 h761 w => ?_)
  refine X_istore (ls' := [(0, .ref _), (1, .ref _), (2, .ref _), (3, .ref _), (4, .ref _), (5, .int _), (6, .int _)]) (show decode cL_law 2741 = .ok (.istore 6, 2) by decide +kernel) (by decide) rfl ?_
  refine X_aload_n (j := 2) (show decode cL_law 2743 = .ok (.aload_n 2, 1) by decide +kernel) rfl rfl ?_
  obtain ⟨s773, w⟩ := w
  refine X_vI (rc' := rc0) (rs' := rs0) (as := []) mv_L_339 (show decode cL_law 2744 = .ok (.invokevirtual 339, 3) by decide +kernel) (by decide) (by omega) (by omega) rfl rfl (Nat.le_of_ble_eq_true rfl) (rcvD s773 (by decide) rfl) (kX10_errorPosition w) (fun E h hk => hk.elim) (fun r764 h763 w => ?_)
  refine X_istore (ls' := [(0, .ref _), (1, .ref _), (2, .ref _), (3, .ref _), (4, .ref _), (5, .int _), (6, .int _), (7, .int _)]) (show decode cL_law 2747 = .ok (.istore 7, 2) by decide +kernel) (by decide) rfl ?_
  refine X_aload_n (j := 2) (show decode cL_law 2749 = .ok (.aload_n 2, 1) by decide +kernel) rfl rfl ?_
  obtain ⟨s772, w⟩ := w
  refine X_vI (rc' := rc0) (rs' := rs0) (as := []) mv_L_168 (show decode cL_law 2750 = .ok (.invokevirtual 168, 3) by decide +kernel) (by decide) (by omega) (by omega) rfl rfl (Nat.le_of_ble_eq_true rfl) (rcvD s772 (by decide) rfl) (kX10_thrown w) (fun E h hk => hk.elim) (fun r766 h765 w => ?_)
  refine X_iload (j := 6) (show decode cL_law 2753 = .ok (.iload 6, 2) by decide +kernel) rfl ?_
  refine X_icmp_eq (tgt := 2760) (show decode cL_law 2755 = .ok (.if_icmp .eq 5, 3) by decide +kernel) (by decide) ⟨fun c767 => ?_, fun c767 => ?_⟩
  · have w := w.1 c767
    refine X_iload (j := 6) (show decode cL_law 2760 = .ok (.iload 6, 2) by decide +kernel) rfl ?_
    refine X_if_ne (tgt := 2777) (show decode cL_law 2762 = .ok (.ifCond .ne 15, 3) by decide +kernel) (by decide) ⟨fun c768 => ?_, fun c768 => ?_⟩
    · have w := w.1 c768
      refine X_goto (tgt := 2925) (show decode cL_law 2777 = .ok (.goto 148, 3) by decide +kernel) (by decide) ?_
      refine X_iinc (j := 5) (v := _ + (nI 4)) (ls' := [(0, .ref _), (1, .ref _), (2, .ref _), (3, .ref _), (4, .ref _), (5, .int _), (6, .int _), (7, .int _)]) (show decode cL_law 2925 = .ok (.iinc 5 4, 3) by decide +kernel) rfl rfl (Nat.le_of_ble_eq_true rfl) rfl ?_
      refine X_goto (tgt := 28) (show decode cL_law 2928 = .ok (.goto (-2900), 3) by decide +kernel) (by decide) ?_
      refine X_pick (ls' := [(0, .ref _), (1, .ref _), (2, .ref _), (3, .ref _), (4, .ref _), (5, .int _)]) [0, 1, 2, 3, 4, 5] rfl ?_
      exact hc28 _ _ _ _ _ _ _ w
    · have w := w.2 c768
      refine X_aload_n (j := 3) (show decode cL_law 2765 = .ok (.aload_n 3, 1) by decide +kernel) rfl rfl ?_
      refine X_iconst (v := (nI 0)) (show decode cL_law 2766 = .ok (.iconst 0, 1) by decide +kernel) (by decide) ?_
      obtain ⟨s769, w⟩ := w
      obtain ⟨s770, w⟩ := w
      refine X_lald (show decode cL_law 2767 = .ok (.laload, 1) by decide +kernel) (isA_eq s769) s770 ?_
      refine X_iload (j := 7) (show decode cL_law 2768 = .ok (.iload 7, 2) by decide +kernel) rfl ?_
      refine X_i2l (show decode cL_law 2770 = .ok (.i2l, 1) by decide +kernel) ?_
      refine X_lcmp (show decode cL_law 2771 = .ok (.lcmp, 1) by decide +kernel) ?_
      refine X_if_eq (tgt := 2777) (show decode cL_law 2772 = .ok (.ifCond .eq 5, 3) by decide +kernel) (by decide) ⟨fun c771 => ?_, fun c771 => ?_⟩
      · have w := w.1 c771
        refine X_goto (tgt := 2925) (show decode cL_law 2777 = .ok (.goto 148, 3) by decide +kernel) (by decide) ?_
        refine X_iinc (j := 5) (v := _ + (nI 4)) (ls' := [(0, .ref _), (1, .ref _), (2, .ref _), (3, .ref _), (4, .ref _), (5, .int _), (6, .int _), (7, .int _)]) (show decode cL_law 2925 = .ok (.iinc 5 4, 3) by decide +kernel) rfl rfl (Nat.le_of_ble_eq_true rfl) rfl ?_
        refine X_goto (tgt := 28) (show decode cL_law 2928 = .ok (.goto (-2900), 3) by decide +kernel) (by decide) ?_
        refine X_pick (ls' := [(0, .ref _), (1, .ref _), (2, .ref _), (3, .ref _), (4, .ref _), (5, .int _)]) [0, 1, 2, 3, 4, 5] rfl ?_
        exact hc28 _ _ _ _ _ _ _ w
      · have w := w.2 c771
        refine X_iconst (v := (nI 0)) (show decode cL_law 2775 = .ok (.iconst 0, 1) by decide +kernel) (by decide) ?_
        exact X_iret ⟨(show decode cL_law 2776 = .ok (.ireturn, 1) by decide +kernel), .boolean, rfl, (by decide)⟩ ⟨_, rfl, w⟩
  · have w := w.2 c767
    refine X_iconst (v := (nI 0)) (show decode cL_law 2758 = .ok (.iconst 0, 1) by decide +kernel) (by decide) ?_
    exact X_iret ⟨(show decode cL_law 2759 = .ok (.ireturn, 1) by decide +kernel), .boolean, rfl, (by decide)⟩ ⟨_, rfl, w⟩
set_option maxRecDepth 100000 in
set_option maxHeartbeats 4000000 in
theorem kL_law_J2780 {rc0 rs0 : Nat} {K : Int32 → AH → Prop} {c28 : Nat → Nat → Nat → Nat → Nat → Int32 → AH → Prop} (hc28 : ∀ x0 x1 x2 x3 x4 x5 h, c28 x0 x1 x2 x3 x4 x5 h → X mL_law 20 (KI K) T0 rc0 rs0 28 [(0, .ref x0), (1, .ref x1), (2, .ref x2), (3, .ref x3), (4, .ref x4), (5, .int x5)] [] h) (x0 : Nat) (x1 : Nat) (x2 : Nat) (x3 : Nat) (x4 : Nat) (x5 : Int32) (h : AH) (w : wL_law_J2780 K c28 x0 x1 x2 x3 x4 x5 h) : X mL_law 20 (KI K) T0 (rc0 + 1) (rs0 + 6) 2780 [(0, .ref x0), (1, .ref x1), (2, .ref x2), (3, .ref x3), (4, .ref x4), (5, .int x5)] [] h := by
  unfold wL_law_J2780 at w
  refine X_aload_n (j := 1) (show decode cL_law 2780 = .ok (.aload_n 1, 1) by decide +kernel) rfl rfl ?_
  refine X_aload_n (j := 3) (show decode cL_law 2781 = .ok (.aload_n 3, 1) by decide +kernel) rfl rfl ?_
  refine X_sH (rc' := rc0) (rs' := rs0) (as := [.ref _, .ref _]) msh_L_340 (show decode cL_law 2782 = .ok (.invokestatic 340, 3) by decide +kernel) (by decide) (by omega) (by omega) rfl rfl (Nat.le_of_ble_eq_true rfl) (kL_failedCommand w) (fun r775 h774 w => ?_)
  refine X_istore (ls' := [(0, .ref _), (1, .ref _), (2, .ref _), (3, .ref _), (4, .ref _), (5, .int _), (6, .int _)]) (show decode cL_law 2785 = .ok (.istore 6, 2) by decide +kernel) (by decide) rfl ?_
  refine X_aload_n (j := 2) (show decode cL_law 2787 = .ok (.aload_n 2, 1) by decide +kernel) rfl rfl ?_
  obtain ⟨s786, w⟩ := w
  refine X_vI (rc' := rc0) (rs' := rs0) (as := []) mv_L_342 (show decode cL_law 2788 = .ok (.invokevirtual 342, 3) by decide +kernel) (by decide) (by omega) (by omega) rfl rfl (Nat.le_of_ble_eq_true rfl) (rcvD s786 (by decide) rfl) (kX10_failedCommand w) (fun E h hk => hk.elim) (fun r777 h776 w => ?_)
  refine X_istore (ls' := [(0, .ref _), (1, .ref _), (2, .ref _), (3, .ref _), (4, .ref _), (5, .int _), (6, .int _), (7, .int _)]) (show decode cL_law 2791 = .ok (.istore 7, 2) by decide +kernel) (by decide) rfl ?_
  refine X_aload_n (j := 2) (show decode cL_law 2793 = .ok (.aload_n 2, 1) by decide +kernel) rfl rfl ?_
  obtain ⟨s785, w⟩ := w
  refine X_vI (rc' := rc0) (rs' := rs0) (as := []) mv_L_168 (show decode cL_law 2794 = .ok (.invokevirtual 168, 3) by decide +kernel) (by decide) (by omega) (by omega) rfl rfl (Nat.le_of_ble_eq_true rfl) (rcvD s785 (by decide) rfl) (kX10_thrown w) (fun E h hk => hk.elim) (fun r779 h778 w => ?_)
  refine X_iload (j := 6) (show decode cL_law 2797 = .ok (.iload 6, 2) by decide +kernel) rfl ?_
  refine X_icmp_eq (tgt := 2804) (show decode cL_law 2799 = .ok (.if_icmp .eq 5, 3) by decide +kernel) (by decide) ⟨fun c780 => ?_, fun c780 => ?_⟩
  · have w := w.1 c780
    refine X_iload (j := 6) (show decode cL_law 2804 = .ok (.iload 6, 2) by decide +kernel) rfl ?_
    refine X_if_ne (tgt := 2821) (show decode cL_law 2806 = .ok (.ifCond .ne 15, 3) by decide +kernel) (by decide) ⟨fun c781 => ?_, fun c781 => ?_⟩
    · have w := w.1 c781
      refine X_goto (tgt := 2925) (show decode cL_law 2821 = .ok (.goto 104, 3) by decide +kernel) (by decide) ?_
      refine X_iinc (j := 5) (v := _ + (nI 4)) (ls' := [(0, .ref _), (1, .ref _), (2, .ref _), (3, .ref _), (4, .ref _), (5, .int _), (6, .int _), (7, .int _)]) (show decode cL_law 2925 = .ok (.iinc 5 4, 3) by decide +kernel) rfl rfl (Nat.le_of_ble_eq_true rfl) rfl ?_
      refine X_goto (tgt := 28) (show decode cL_law 2928 = .ok (.goto (-2900), 3) by decide +kernel) (by decide) ?_
      refine X_pick (ls' := [(0, .ref _), (1, .ref _), (2, .ref _), (3, .ref _), (4, .ref _), (5, .int _)]) [0, 1, 2, 3, 4, 5] rfl ?_
      exact hc28 _ _ _ _ _ _ _ w
    · have w := w.2 c781
      refine X_aload_n (j := 3) (show decode cL_law 2809 = .ok (.aload_n 3, 1) by decide +kernel) rfl rfl ?_
      refine X_iconst (v := (nI 0)) (show decode cL_law 2810 = .ok (.iconst 0, 1) by decide +kernel) (by decide) ?_
      obtain ⟨s782, w⟩ := w
      obtain ⟨s783, w⟩ := w
      refine X_lald (show decode cL_law 2811 = .ok (.laload, 1) by decide +kernel) (isA_eq s782) s783 ?_
      refine X_iload (j := 7) (show decode cL_law 2812 = .ok (.iload 7, 2) by decide +kernel) rfl ?_
      refine X_i2l (show decode cL_law 2814 = .ok (.i2l, 1) by decide +kernel) ?_
      refine X_lcmp (show decode cL_law 2815 = .ok (.lcmp, 1) by decide +kernel) ?_
      refine X_if_eq (tgt := 2821) (show decode cL_law 2816 = .ok (.ifCond .eq 5, 3) by decide +kernel) (by decide) ⟨fun c784 => ?_, fun c784 => ?_⟩
      · have w := w.1 c784
        refine X_goto (tgt := 2925) (show decode cL_law 2821 = .ok (.goto 104, 3) by decide +kernel) (by decide) ?_
        refine X_iinc (j := 5) (v := _ + (nI 4)) (ls' := [(0, .ref _), (1, .ref _), (2, .ref _), (3, .ref _), (4, .ref _), (5, .int _), (6, .int _), (7, .int _)]) (show decode cL_law 2925 = .ok (.iinc 5 4, 3) by decide +kernel) rfl rfl (Nat.le_of_ble_eq_true rfl) rfl ?_
        refine X_goto (tgt := 28) (show decode cL_law 2928 = .ok (.goto (-2900), 3) by decide +kernel) (by decide) ?_
        refine X_pick (ls' := [(0, .ref _), (1, .ref _), (2, .ref _), (3, .ref _), (4, .ref _), (5, .int _)]) [0, 1, 2, 3, 4, 5] rfl ?_
        exact hc28 _ _ _ _ _ _ _ w
      · have w := w.2 c784
        refine X_iconst (v := (nI 0)) (show decode cL_law 2819 = .ok (.iconst 0, 1) by decide +kernel) (by decide) ?_
        exact X_iret ⟨(show decode cL_law 2820 = .ok (.ireturn, 1) by decide +kernel), .boolean, rfl, (by decide)⟩ ⟨_, rfl, w⟩
  · have w := w.2 c780
    refine X_iconst (v := (nI 0)) (show decode cL_law 2802 = .ok (.iconst 0, 1) by decide +kernel) (by decide) ?_
    exact X_iret ⟨(show decode cL_law 2803 = .ok (.ireturn, 1) by decide +kernel), .boolean, rfl, (by decide)⟩ ⟨_, rfl, w⟩
set_option maxRecDepth 100000 in
set_option maxHeartbeats 4000000 in
theorem kL_law_J2824 {rc0 rs0 : Nat} {K : Int32 → AH → Prop} {c28 : Nat → Nat → Nat → Nat → Nat → Int32 → AH → Prop} (hc28 : ∀ x0 x1 x2 x3 x4 x5 h, c28 x0 x1 x2 x3 x4 x5 h → X mL_law 20 (KI K) T0 rc0 rs0 28 [(0, .ref x0), (1, .ref x1), (2, .ref x2), (3, .ref x3), (4, .ref x4), (5, .int x5)] [] h) (x0 : Nat) (x1 : Nat) (x2 : Nat) (x3 : Nat) (x4 : Nat) (x5 : Int32) (h : AH) (w : wL_law_J2824 K c28 x0 x1 x2 x3 x4 x5 h) : X mL_law 20 (KI K) T0 (rc0 + 1) (rs0 + 6) 2824 [(0, .ref x0), (1, .ref x1), (2, .ref x2), (3, .ref x3), (4, .ref x4), (5, .int x5)] [] h := by
  unfold wL_law_J2824 at w
  refine X_aload_n (j := 1) (show decode cL_law 2824 = .ok (.aload_n 1, 1) by decide +kernel) rfl rfl ?_
  refine X_aload_n (j := 3) (show decode cL_law 2825 = .ok (.aload_n 3, 1) by decide +kernel) rfl rfl ?_
  refine X_sH (rc' := rc0) (rs' := rs0) (as := [.ref _, .ref _]) msh_L_343 (show decode cL_law 2826 = .ok (.invokestatic 343, 3) by decide +kernel) (by decide) (by omega) (by omega) rfl rfl (Nat.le_of_ble_eq_true rfl) (kL_undo w) (fun r788 h787 w => ?_)
  refine X_istore (ls' := [(0, .ref _), (1, .ref _), (2, .ref _), (3, .ref _), (4, .ref _), (5, .int _), (6, .int _)]) (show decode cL_law 2829 = .ok (.istore 6, 2) by decide +kernel) (by decide) rfl ?_
  refine X_aload_n (j := 2) (show decode cL_law 2831 = .ok (.aload_n 2, 1) by decide +kernel) rfl rfl ?_
  obtain ⟨s799, w⟩ := w
  refine X_vI (rc' := rc0) (rs' := rs0) (as := []) mv_L_345 (show decode cL_law 2832 = .ok (.invokevirtual 345, 3) by decide +kernel) (by decide) (by omega) (by omega) rfl rfl (Nat.le_of_ble_eq_true rfl) (rcvD s799 (by decide) rfl) (kX10_undo w) (fun E h hk => hk.elim) (fun r790 h789 w => ?_)
  refine X_istore (ls' := [(0, .ref _), (1, .ref _), (2, .ref _), (3, .ref _), (4, .ref _), (5, .int _), (6, .int _), (7, .int _)]) (show decode cL_law 2835 = .ok (.istore 7, 2) by decide +kernel) (by decide) rfl ?_
  refine X_aload_n (j := 2) (show decode cL_law 2837 = .ok (.aload_n 2, 1) by decide +kernel) rfl rfl ?_
  obtain ⟨s798, w⟩ := w
  refine X_vI (rc' := rc0) (rs' := rs0) (as := []) mv_L_168 (show decode cL_law 2838 = .ok (.invokevirtual 168, 3) by decide +kernel) (by decide) (by omega) (by omega) rfl rfl (Nat.le_of_ble_eq_true rfl) (rcvD s798 (by decide) rfl) (kX10_thrown w) (fun E h hk => hk.elim) (fun r792 h791 w => ?_)
  refine X_iload (j := 6) (show decode cL_law 2841 = .ok (.iload 6, 2) by decide +kernel) rfl ?_
  refine X_icmp_eq (tgt := 2848) (show decode cL_law 2843 = .ok (.if_icmp .eq 5, 3) by decide +kernel) (by decide) ⟨fun c793 => ?_, fun c793 => ?_⟩
  · have w := w.1 c793
    refine X_iload (j := 6) (show decode cL_law 2848 = .ok (.iload 6, 2) by decide +kernel) rfl ?_
    refine X_if_ne (tgt := 2865) (show decode cL_law 2850 = .ok (.ifCond .ne 15, 3) by decide +kernel) (by decide) ⟨fun c794 => ?_, fun c794 => ?_⟩
    · have w := w.1 c794
      refine X_goto (tgt := 2925) (show decode cL_law 2865 = .ok (.goto 60, 3) by decide +kernel) (by decide) ?_
      refine X_iinc (j := 5) (v := _ + (nI 4)) (ls' := [(0, .ref _), (1, .ref _), (2, .ref _), (3, .ref _), (4, .ref _), (5, .int _), (6, .int _), (7, .int _)]) (show decode cL_law 2925 = .ok (.iinc 5 4, 3) by decide +kernel) rfl rfl (Nat.le_of_ble_eq_true rfl) rfl ?_
      refine X_goto (tgt := 28) (show decode cL_law 2928 = .ok (.goto (-2900), 3) by decide +kernel) (by decide) ?_
      refine X_pick (ls' := [(0, .ref _), (1, .ref _), (2, .ref _), (3, .ref _), (4, .ref _), (5, .int _)]) [0, 1, 2, 3, 4, 5] rfl ?_
      exact hc28 _ _ _ _ _ _ _ w
    · have w := w.2 c794
      refine X_aload_n (j := 3) (show decode cL_law 2853 = .ok (.aload_n 3, 1) by decide +kernel) rfl rfl ?_
      refine X_iconst (v := (nI 0)) (show decode cL_law 2854 = .ok (.iconst 0, 1) by decide +kernel) (by decide) ?_
      obtain ⟨s795, w⟩ := w
      obtain ⟨s796, w⟩ := w
      refine X_lald (show decode cL_law 2855 = .ok (.laload, 1) by decide +kernel) (isA_eq s795) s796 ?_
      refine X_iload (j := 7) (show decode cL_law 2856 = .ok (.iload 7, 2) by decide +kernel) rfl ?_
      refine X_i2l (show decode cL_law 2858 = .ok (.i2l, 1) by decide +kernel) ?_
      refine X_lcmp (show decode cL_law 2859 = .ok (.lcmp, 1) by decide +kernel) ?_
      refine X_if_eq (tgt := 2865) (show decode cL_law 2860 = .ok (.ifCond .eq 5, 3) by decide +kernel) (by decide) ⟨fun c797 => ?_, fun c797 => ?_⟩
      · have w := w.1 c797
        refine X_goto (tgt := 2925) (show decode cL_law 2865 = .ok (.goto 60, 3) by decide +kernel) (by decide) ?_
        refine X_iinc (j := 5) (v := _ + (nI 4)) (ls' := [(0, .ref _), (1, .ref _), (2, .ref _), (3, .ref _), (4, .ref _), (5, .int _), (6, .int _), (7, .int _)]) (show decode cL_law 2925 = .ok (.iinc 5 4, 3) by decide +kernel) rfl rfl (Nat.le_of_ble_eq_true rfl) rfl ?_
        refine X_goto (tgt := 28) (show decode cL_law 2928 = .ok (.goto (-2900), 3) by decide +kernel) (by decide) ?_
        refine X_pick (ls' := [(0, .ref _), (1, .ref _), (2, .ref _), (3, .ref _), (4, .ref _), (5, .int _)]) [0, 1, 2, 3, 4, 5] rfl ?_
        exact hc28 _ _ _ _ _ _ _ w
      · have w := w.2 c797
        refine X_iconst (v := (nI 0)) (show decode cL_law 2863 = .ok (.iconst 0, 1) by decide +kernel) (by decide) ?_
        exact X_iret ⟨(show decode cL_law 2864 = .ok (.ireturn, 1) by decide +kernel), .boolean, rfl, (by decide)⟩ ⟨_, rfl, w⟩
  · have w := w.2 c793
    refine X_iconst (v := (nI 0)) (show decode cL_law 2846 = .ok (.iconst 0, 1) by decide +kernel) (by decide) ?_
    exact X_iret ⟨(show decode cL_law 2847 = .ok (.ireturn, 1) by decide +kernel), .boolean, rfl, (by decide)⟩ ⟨_, rfl, w⟩
set_option maxRecDepth 100000 in
set_option maxHeartbeats 4000000 in
theorem kL_law_J2868 {rc0 rs0 : Nat} {K : Int32 → AH → Prop} {c28 : Nat → Nat → Nat → Nat → Nat → Int32 → AH → Prop} (hc28 : ∀ x0 x1 x2 x3 x4 x5 h, c28 x0 x1 x2 x3 x4 x5 h → X mL_law 20 (KI K) T0 rc0 rs0 28 [(0, .ref x0), (1, .ref x1), (2, .ref x2), (3, .ref x3), (4, .ref x4), (5, .int x5)] [] h) (x0 : Nat) (x1 : Nat) (x2 : Nat) (x3 : Nat) (x4 : Nat) (x5 : Int32) (h : AH) (w : wL_law_J2868 K c28 x0 x1 x2 x3 x4 x5 h) : X mL_law 20 (KI K) T0 rc0 rs0 2868 [(0, .ref x0), (1, .ref x1), (2, .ref x2), (3, .ref x3), (4, .ref x4), (5, .int x5)] [] h := by
  unfold wL_law_J2868 at w
  refine X_aload_n (j := 1) (show decode cL_law 2868 = .ok (.aload_n 1, 1) by decide +kernel) rfl rfl ?_
  obtain ⟨s806, w⟩ := w
  refine X_vI (rc' := rc0) (rs' := rs0) (as := []) mv_L_346 (show decode cL_law 2869 = .ok (.invokevirtual 346, 3) by decide +kernel) (by decide) (by omega) (by omega) rfl rfl (Nat.le_of_ble_eq_true rfl) (rcvD s806 (by decide) rfl) (kX9_save w) (fun E h hk => hk.elim) (fun r801 h800 w => ?_)
  refine X_aload_n (j := 2) (show decode cL_law 2872 = .ok (.aload_n 2, 1) by decide +kernel) rfl rfl ?_
  obtain ⟨s805, w⟩ := w
  refine X_vI (rc' := rc0) (rs' := rs0) (as := []) mv_L_349 (show decode cL_law 2873 = .ok (.invokevirtual 349, 3) by decide +kernel) (by decide) (by omega) (by omega) rfl rfl (Nat.le_of_ble_eq_true rfl) (rcvD s805 (by decide) rfl) (kX10_save w) (fun E h hk => hk.elim) (fun r803 h802 w => ?_)
  refine X_icmp_eq (tgt := 2925) (show decode cL_law 2876 = .ok (.if_icmp .eq 49, 3) by decide +kernel) (by decide) ⟨fun c804 => ?_, fun c804 => ?_⟩
  · have w := w.1 c804
    refine X_iinc (j := 5) (v := _ + (nI 4)) (ls' := [(0, .ref _), (1, .ref _), (2, .ref _), (3, .ref _), (4, .ref _), (5, .int _)]) (show decode cL_law 2925 = .ok (.iinc 5 4, 3) by decide +kernel) rfl rfl (Nat.le_of_ble_eq_true rfl) rfl ?_
    refine X_goto (tgt := 28) (show decode cL_law 2928 = .ok (.goto (-2900), 3) by decide +kernel) (by decide) ?_
    exact hc28 _ _ _ _ _ _ _ w
  · have w := w.2 c804
    refine X_iconst (v := (nI 0)) (show decode cL_law 2879 = .ok (.iconst 0, 1) by decide +kernel) (by decide) ?_
    exact X_iret ⟨(show decode cL_law 2880 = .ok (.ireturn, 1) by decide +kernel), .boolean, rfl, (by decide)⟩ ⟨_, rfl, w⟩
set_option maxRecDepth 100000 in
set_option maxHeartbeats 4000000 in
theorem kL_law_J2881 {rc0 rs0 : Nat} {K : Int32 → AH → Prop} {c28 : Nat → Nat → Nat → Nat → Nat → Int32 → AH → Prop} (hc28 : ∀ x0 x1 x2 x3 x4 x5 h, c28 x0 x1 x2 x3 x4 x5 h → X mL_law 20 (KI K) T0 rc0 rs0 28 [(0, .ref x0), (1, .ref x1), (2, .ref x2), (3, .ref x3), (4, .ref x4), (5, .int x5)] [] h) (x0 : Nat) (x1 : Nat) (x2 : Nat) (x3 : Nat) (x4 : Nat) (x5 : Int32) (h : AH) (w : wL_law_J2881 K c28 x0 x1 x2 x3 x4 x5 h) : X mL_law 20 (KI K) T0 (rc0 + 1) (rs0 + 6) 2881 [(0, .ref x0), (1, .ref x1), (2, .ref x2), (3, .ref x3), (4, .ref x4), (5, .int x5)] [] h := by
  unfold wL_law_J2881 at w
  refine X_aload_n (j := 1) (show decode cL_law 2881 = .ok (.aload_n 1, 1) by decide +kernel) rfl rfl ?_
  refine X_aload_n (j := 3) (show decode cL_law 2882 = .ok (.aload_n 3, 1) by decide +kernel) rfl rfl ?_
  refine X_sH (rc' := rc0) (rs' := rs0) (as := [.ref _, .ref _]) msh_L_350 (show decode cL_law 2883 = .ok (.invokestatic 350, 3) by decide +kernel) (by decide) (by omega) (by omega) rfl rfl (Nat.le_of_ble_eq_true rfl) (kL_restore w) (fun r808 h807 w => ?_)
  refine X_istore (ls' := [(0, .ref _), (1, .ref _), (2, .ref _), (3, .ref _), (4, .ref _), (5, .int _), (6, .int _)]) (show decode cL_law 2886 = .ok (.istore 6, 2) by decide +kernel) (by decide) rfl ?_
  refine X_aload_n (j := 2) (show decode cL_law 2888 = .ok (.aload_n 2, 1) by decide +kernel) rfl rfl ?_
  obtain ⟨s819, w⟩ := w
  refine X_vI (rc' := rc0) (rs' := rs0) (as := []) mv_L_352 (show decode cL_law 2889 = .ok (.invokevirtual 352, 3) by decide +kernel) (by decide) (by omega) (by omega) rfl rfl (Nat.le_of_ble_eq_true rfl) (rcvD s819 (by decide) rfl) (kX10_restore w) (fun E h hk => hk.elim) (fun r810 h809 w => ?_)
  refine X_istore (ls' := [(0, .ref _), (1, .ref _), (2, .ref _), (3, .ref _), (4, .ref _), (5, .int _), (6, .int _), (7, .int _)]) (show decode cL_law 2892 = .ok (.istore 7, 2) by decide +kernel) (by decide) rfl ?_
  refine X_aload_n (j := 2) (show decode cL_law 2894 = .ok (.aload_n 2, 1) by decide +kernel) rfl rfl ?_
  obtain ⟨s818, w⟩ := w
  refine X_vI (rc' := rc0) (rs' := rs0) (as := []) mv_L_168 (show decode cL_law 2895 = .ok (.invokevirtual 168, 3) by decide +kernel) (by decide) (by omega) (by omega) rfl rfl (Nat.le_of_ble_eq_true rfl) (rcvD s818 (by decide) rfl) (kX10_thrown w) (fun E h hk => hk.elim) (fun r812 h811 w => ?_)
  refine X_iload (j := 6) (show decode cL_law 2898 = .ok (.iload 6, 2) by decide +kernel) rfl ?_
  refine X_icmp_eq (tgt := 2905) (show decode cL_law 2900 = .ok (.if_icmp .eq 5, 3) by decide +kernel) (by decide) ⟨fun c813 => ?_, fun c813 => ?_⟩
  · have w := w.1 c813
    refine X_iload (j := 6) (show decode cL_law 2905 = .ok (.iload 6, 2) by decide +kernel) rfl ?_
    refine X_if_ne (tgt := 2922) (show decode cL_law 2907 = .ok (.ifCond .ne 15, 3) by decide +kernel) (by decide) ⟨fun c814 => ?_, fun c814 => ?_⟩
    · have w := w.1 c814
      refine X_goto (tgt := 2925) (show decode cL_law 2922 = .ok (.goto 3, 3) by decide +kernel) (by decide) ?_
      refine X_iinc (j := 5) (v := _ + (nI 4)) (ls' := [(0, .ref _), (1, .ref _), (2, .ref _), (3, .ref _), (4, .ref _), (5, .int _), (6, .int _), (7, .int _)]) (show decode cL_law 2925 = .ok (.iinc 5 4, 3) by decide +kernel) rfl rfl (Nat.le_of_ble_eq_true rfl) rfl ?_
      refine X_goto (tgt := 28) (show decode cL_law 2928 = .ok (.goto (-2900), 3) by decide +kernel) (by decide) ?_
      refine X_pick (ls' := [(0, .ref _), (1, .ref _), (2, .ref _), (3, .ref _), (4, .ref _), (5, .int _)]) [0, 1, 2, 3, 4, 5] rfl ?_
      exact hc28 _ _ _ _ _ _ _ w
    · have w := w.2 c814
      refine X_aload_n (j := 3) (show decode cL_law 2910 = .ok (.aload_n 3, 1) by decide +kernel) rfl rfl ?_
      refine X_iconst (v := (nI 0)) (show decode cL_law 2911 = .ok (.iconst 0, 1) by decide +kernel) (by decide) ?_
      obtain ⟨s815, w⟩ := w
      obtain ⟨s816, w⟩ := w
      refine X_lald (show decode cL_law 2912 = .ok (.laload, 1) by decide +kernel) (isA_eq s815) s816 ?_
      refine X_iload (j := 7) (show decode cL_law 2913 = .ok (.iload 7, 2) by decide +kernel) rfl ?_
      refine X_i2l (show decode cL_law 2915 = .ok (.i2l, 1) by decide +kernel) ?_
      refine X_lcmp (show decode cL_law 2916 = .ok (.lcmp, 1) by decide +kernel) ?_
      refine X_if_eq (tgt := 2922) (show decode cL_law 2917 = .ok (.ifCond .eq 5, 3) by decide +kernel) (by decide) ⟨fun c817 => ?_, fun c817 => ?_⟩
      · have w := w.1 c817
        refine X_goto (tgt := 2925) (show decode cL_law 2922 = .ok (.goto 3, 3) by decide +kernel) (by decide) ?_
        refine X_iinc (j := 5) (v := _ + (nI 4)) (ls' := [(0, .ref _), (1, .ref _), (2, .ref _), (3, .ref _), (4, .ref _), (5, .int _), (6, .int _), (7, .int _)]) (show decode cL_law 2925 = .ok (.iinc 5 4, 3) by decide +kernel) rfl rfl (Nat.le_of_ble_eq_true rfl) rfl ?_
        refine X_goto (tgt := 28) (show decode cL_law 2928 = .ok (.goto (-2900), 3) by decide +kernel) (by decide) ?_
        refine X_pick (ls' := [(0, .ref _), (1, .ref _), (2, .ref _), (3, .ref _), (4, .ref _), (5, .int _)]) [0, 1, 2, 3, 4, 5] rfl ?_
        exact hc28 _ _ _ _ _ _ _ w
      · have w := w.2 c817
        refine X_iconst (v := (nI 0)) (show decode cL_law 2920 = .ok (.iconst 0, 1) by decide +kernel) (by decide) ?_
        exact X_iret ⟨(show decode cL_law 2921 = .ok (.ireturn, 1) by decide +kernel), .boolean, rfl, (by decide)⟩ ⟨_, rfl, w⟩
  · have w := w.2 c813
    refine X_iconst (v := (nI 0)) (show decode cL_law 2903 = .ok (.iconst 0, 1) by decide +kernel) (by decide) ?_
    exact X_iret ⟨(show decode cL_law 2904 = .ok (.ireturn, 1) by decide +kernel), .boolean, rfl, (by decide)⟩ ⟨_, rfl, w⟩
set_option maxRecDepth 100000 in
set_option maxHeartbeats 4000000 in
theorem kL_law_L28 {K : Int32 → AH → Prop}    : ∀ (n : Nat) (x0 : Nat) (x1 : Nat) (x2 : Nat) (x3 : Nat) (x4 : Nat) (x5 : Int32) (h : AH), wL_law_L28 K   n x0 x1 x2 x3 x4 x5 h → X mL_law 20 (KI K) T0 (n * 33 + 33) (n * 8198 + 8198) 28 [(0, .ref x0), (1, .ref x1), (2, .ref x2), (3, .ref x3), (4, .ref x4), (5, .int x5)] [] h := by
  intro n
  induction n with
  | zero => intro _ _ _ _ _ _ _ w; exact w.elim
  | succ n ih =>
    intro x0 x1 x2 x3 x4 x5 h w
    rw [wL_law_L28] at w
    refine X_room (rc' := (n * 33 + 66)) (rs' := (n * 8198 + 16396)) (by omega) (by omega) ?_
    refine X_iload (j := 5) (show decode cL_law 28 = .ok (.iload 5, 2) by decide +kernel) rfl ?_
    refine X_aload_n (j := 0) (show decode cL_law 30 = .ok (.aload_n 0, 1) by decide +kernel) rfl rfl ?_
    obtain ⟨s9, w⟩ := w
    refine X_alen (v := nI (ln _ _)) (show decode cL_law 31 = .ok (.arraylength, 1) by decide +kernel) (by decide) (isA_eq s9) rfl ?_
    refine X_iconst (v := (nI 4)) (show decode cL_law 32 = .ok (.iconst 4, 1) by decide +kernel) (by decide) ?_
    refine X_isub (show decode cL_law 33 = .ok (.isub, 1) by decide +kernel) ?_
    refine X_icmp_gt (tgt := 2931) (show decode cL_law 34 = .ok (.if_icmp .gt 2897, 3) by decide +kernel) (by decide) ⟨fun c10 => ?_, fun c10 => ?_⟩
    · have w := w.1 c10
      refine X_iconst (v := (nI 1)) (show decode cL_law 2931 = .ok (.iconst 1, 1) by decide +kernel) (by decide) ?_
      exact X_iret ⟨(show decode cL_law 2932 = .ok (.ireturn, 1) by decide +kernel), .boolean, rfl, (by decide)⟩ ⟨_, rfl, w⟩
    · have w := w.2 c10
      refine X_aload_n (j := 0) (show decode cL_law 37 = .ok (.aload_n 0, 1) by decide +kernel) rfl rfl ?_
      refine X_iload (j := 5) (show decode cL_law 38 = .ok (.iload 5, 2) by decide +kernel) rfl ?_
      obtain ⟨s11, w⟩ := w
      refine X_iald (show decode cL_law 40 = .ok (.iaload, 1) by decide +kernel) (isA_eq s9) s11 ?_
      refine X_bipush (v := (nI 63)) (show decode cL_law 41 = .ok (.bipush 63, 2) by decide +kernel) (by decide) ?_
      refine X_iand (show decode cL_law 43 = .ok (.iand, 1) by decide +kernel) ?_
      by_cases z0 : (mI h x0 x5.toNatClampNeg &&& (nI 63)) = (nI 0)
      · have w := w.1 z0
        refine X_tableIn (tgt := 280) (show decode cL_law 44 = .ok (.tableswitch 2881 0 54 #[236, 292, 372, 440, 496, 552, 615, 683, 739, 795, 851, 864, 920, 976, 1032, 1095, 1151, 1219, 1287, 1367, 1435, 1448, 1473, 1529, 1585, 1648, 1711, 1767, 1823, 1879, 1935, 1991, 2066, 2079, 2092, 2167, 2180, 2193, 2237, 2281, 2294, 2307, 2321, 2386, 2452, 2465, 2478, 2534, 2590, 2648, 2692, 2736, 2780, 2824, 2837], 236) by decide +kernel) (by rw [z0]; decide) (by rw [z0]; decide) (by rw [z0] <;> rfl) (by decide) ?_
        refine X_room (rc' := (n * 33 + 34)) (rs' := (n * 8198 + 8204)) (by omega) (by omega) ?_
        exact kL_law_J280 ih _ _ _ _ _ _ _ w
      by_cases z1 : (mI h x0 x5.toNatClampNeg &&& (nI 63)) = (nI 1)
      · have w := w.2.1 z1
        refine X_tableIn (tgt := 336) (show decode cL_law 44 = .ok (.tableswitch 2881 0 54 #[236, 292, 372, 440, 496, 552, 615, 683, 739, 795, 851, 864, 920, 976, 1032, 1095, 1151, 1219, 1287, 1367, 1435, 1448, 1473, 1529, 1585, 1648, 1711, 1767, 1823, 1879, 1935, 1991, 2066, 2079, 2092, 2167, 2180, 2193, 2237, 2281, 2294, 2307, 2321, 2386, 2452, 2465, 2478, 2534, 2590, 2648, 2692, 2736, 2780, 2824, 2837], 236) by decide +kernel) (by rw [z1]; decide) (by rw [z1]; decide) (by rw [z1] <;> rfl) (by decide) ?_
        refine X_room (rc' := (n * 33 + 34)) (rs' := (n * 8198 + 8204)) (by omega) (by omega) ?_
        exact kL_law_J336 ih _ _ _ _ _ _ _ w
      by_cases z2 : (mI h x0 x5.toNatClampNeg &&& (nI 63)) = (nI 2)
      · have w := w.2.2.1 z2
        refine X_tableIn (tgt := 416) (show decode cL_law 44 = .ok (.tableswitch 2881 0 54 #[236, 292, 372, 440, 496, 552, 615, 683, 739, 795, 851, 864, 920, 976, 1032, 1095, 1151, 1219, 1287, 1367, 1435, 1448, 1473, 1529, 1585, 1648, 1711, 1767, 1823, 1879, 1935, 1991, 2066, 2079, 2092, 2167, 2180, 2193, 2237, 2281, 2294, 2307, 2321, 2386, 2452, 2465, 2478, 2534, 2590, 2648, 2692, 2736, 2780, 2824, 2837], 236) by decide +kernel) (by rw [z2]; decide) (by rw [z2]; decide) (by rw [z2] <;> rfl) (by decide) ?_
        refine X_room (rc' := (n * 33 + 34)) (rs' := (n * 8198 + 8204)) (by omega) (by omega) ?_
        exact kL_law_J416 ih _ _ _ _ _ _ _ w
      by_cases z3 : (mI h x0 x5.toNatClampNeg &&& (nI 63)) = (nI 3)
      · have w := w.2.2.2.1 z3
        refine X_tableIn (tgt := 484) (show decode cL_law 44 = .ok (.tableswitch 2881 0 54 #[236, 292, 372, 440, 496, 552, 615, 683, 739, 795, 851, 864, 920, 976, 1032, 1095, 1151, 1219, 1287, 1367, 1435, 1448, 1473, 1529, 1585, 1648, 1711, 1767, 1823, 1879, 1935, 1991, 2066, 2079, 2092, 2167, 2180, 2193, 2237, 2281, 2294, 2307, 2321, 2386, 2452, 2465, 2478, 2534, 2590, 2648, 2692, 2736, 2780, 2824, 2837], 236) by decide +kernel) (by rw [z3]; decide) (by rw [z3]; decide) (by rw [z3] <;> rfl) (by decide) ?_
        refine X_room (rc' := (n * 33 + 34)) (rs' := (n * 8198 + 8204)) (by omega) (by omega) ?_
        exact kL_law_J484 ih _ _ _ _ _ _ _ w
      by_cases z4 : (mI h x0 x5.toNatClampNeg &&& (nI 63)) = (nI 4)
      · have w := w.2.2.2.2.1 z4
        refine X_tableIn (tgt := 540) (show decode cL_law 44 = .ok (.tableswitch 2881 0 54 #[236, 292, 372, 440, 496, 552, 615, 683, 739, 795, 851, 864, 920, 976, 1032, 1095, 1151, 1219, 1287, 1367, 1435, 1448, 1473, 1529, 1585, 1648, 1711, 1767, 1823, 1879, 1935, 1991, 2066, 2079, 2092, 2167, 2180, 2193, 2237, 2281, 2294, 2307, 2321, 2386, 2452, 2465, 2478, 2534, 2590, 2648, 2692, 2736, 2780, 2824, 2837], 236) by decide +kernel) (by rw [z4]; decide) (by rw [z4]; decide) (by rw [z4] <;> rfl) (by decide) ?_
        refine X_room (rc' := (n * 33 + 34)) (rs' := (n * 8198 + 8204)) (by omega) (by omega) ?_
        exact kL_law_J540 ih _ _ _ _ _ _ _ w
      by_cases z5 : (mI h x0 x5.toNatClampNeg &&& (nI 63)) = (nI 5)
      · have w := w.2.2.2.2.2.1 z5
        refine X_tableIn (tgt := 596) (show decode cL_law 44 = .ok (.tableswitch 2881 0 54 #[236, 292, 372, 440, 496, 552, 615, 683, 739, 795, 851, 864, 920, 976, 1032, 1095, 1151, 1219, 1287, 1367, 1435, 1448, 1473, 1529, 1585, 1648, 1711, 1767, 1823, 1879, 1935, 1991, 2066, 2079, 2092, 2167, 2180, 2193, 2237, 2281, 2294, 2307, 2321, 2386, 2452, 2465, 2478, 2534, 2590, 2648, 2692, 2736, 2780, 2824, 2837], 236) by decide +kernel) (by rw [z5]; decide) (by rw [z5]; decide) (by rw [z5] <;> rfl) (by decide) ?_
        refine X_room (rc' := (n * 33 + 34)) (rs' := (n * 8198 + 8204)) (by omega) (by omega) ?_
        exact kL_law_J596 ih _ _ _ _ _ _ _ w
      by_cases z6 : (mI h x0 x5.toNatClampNeg &&& (nI 63)) = (nI 6)
      · have w := w.2.2.2.2.2.2.1 z6
        refine X_tableIn (tgt := 659) (show decode cL_law 44 = .ok (.tableswitch 2881 0 54 #[236, 292, 372, 440, 496, 552, 615, 683, 739, 795, 851, 864, 920, 976, 1032, 1095, 1151, 1219, 1287, 1367, 1435, 1448, 1473, 1529, 1585, 1648, 1711, 1767, 1823, 1879, 1935, 1991, 2066, 2079, 2092, 2167, 2180, 2193, 2237, 2281, 2294, 2307, 2321, 2386, 2452, 2465, 2478, 2534, 2590, 2648, 2692, 2736, 2780, 2824, 2837], 236) by decide +kernel) (by rw [z6]; decide) (by rw [z6]; decide) (by rw [z6] <;> rfl) (by decide) ?_
        refine X_room (rc' := (n * 33 + 34)) (rs' := (n * 8198 + 8204)) (by omega) (by omega) ?_
        exact kL_law_J659 ih _ _ _ _ _ _ _ w
      by_cases z7 : (mI h x0 x5.toNatClampNeg &&& (nI 63)) = (nI 7)
      · have w := w.2.2.2.2.2.2.2.1 z7
        refine X_tableIn (tgt := 727) (show decode cL_law 44 = .ok (.tableswitch 2881 0 54 #[236, 292, 372, 440, 496, 552, 615, 683, 739, 795, 851, 864, 920, 976, 1032, 1095, 1151, 1219, 1287, 1367, 1435, 1448, 1473, 1529, 1585, 1648, 1711, 1767, 1823, 1879, 1935, 1991, 2066, 2079, 2092, 2167, 2180, 2193, 2237, 2281, 2294, 2307, 2321, 2386, 2452, 2465, 2478, 2534, 2590, 2648, 2692, 2736, 2780, 2824, 2837], 236) by decide +kernel) (by rw [z7]; decide) (by rw [z7]; decide) (by rw [z7] <;> rfl) (by decide) ?_
        refine X_room (rc' := (n * 33 + 34)) (rs' := (n * 8198 + 8204)) (by omega) (by omega) ?_
        exact kL_law_J727 ih _ _ _ _ _ _ _ w
      by_cases z8 : (mI h x0 x5.toNatClampNeg &&& (nI 63)) = (nI 8)
      · have w := w.2.2.2.2.2.2.2.2.1 z8
        refine X_tableIn (tgt := 783) (show decode cL_law 44 = .ok (.tableswitch 2881 0 54 #[236, 292, 372, 440, 496, 552, 615, 683, 739, 795, 851, 864, 920, 976, 1032, 1095, 1151, 1219, 1287, 1367, 1435, 1448, 1473, 1529, 1585, 1648, 1711, 1767, 1823, 1879, 1935, 1991, 2066, 2079, 2092, 2167, 2180, 2193, 2237, 2281, 2294, 2307, 2321, 2386, 2452, 2465, 2478, 2534, 2590, 2648, 2692, 2736, 2780, 2824, 2837], 236) by decide +kernel) (by rw [z8]; decide) (by rw [z8]; decide) (by rw [z8] <;> rfl) (by decide) ?_
        refine X_room (rc' := (n * 33 + 34)) (rs' := (n * 8198 + 8204)) (by omega) (by omega) ?_
        exact kL_law_J783 ih _ _ _ _ _ _ _ w
      by_cases z9 : (mI h x0 x5.toNatClampNeg &&& (nI 63)) = (nI 9)
      · have w := w.2.2.2.2.2.2.2.2.2.1 z9
        refine X_tableIn (tgt := 839) (show decode cL_law 44 = .ok (.tableswitch 2881 0 54 #[236, 292, 372, 440, 496, 552, 615, 683, 739, 795, 851, 864, 920, 976, 1032, 1095, 1151, 1219, 1287, 1367, 1435, 1448, 1473, 1529, 1585, 1648, 1711, 1767, 1823, 1879, 1935, 1991, 2066, 2079, 2092, 2167, 2180, 2193, 2237, 2281, 2294, 2307, 2321, 2386, 2452, 2465, 2478, 2534, 2590, 2648, 2692, 2736, 2780, 2824, 2837], 236) by decide +kernel) (by rw [z9]; decide) (by rw [z9]; decide) (by rw [z9] <;> rfl) (by decide) ?_
        refine X_room (rc' := (n * 33 + 34)) (rs' := (n * 8198 + 8204)) (by omega) (by omega) ?_
        exact kL_law_J839 ih _ _ _ _ _ _ _ w
      by_cases z10 : (mI h x0 x5.toNatClampNeg &&& (nI 63)) = (nI 10)
      · have w := w.2.2.2.2.2.2.2.2.2.2.1 z10
        refine X_tableIn (tgt := 895) (show decode cL_law 44 = .ok (.tableswitch 2881 0 54 #[236, 292, 372, 440, 496, 552, 615, 683, 739, 795, 851, 864, 920, 976, 1032, 1095, 1151, 1219, 1287, 1367, 1435, 1448, 1473, 1529, 1585, 1648, 1711, 1767, 1823, 1879, 1935, 1991, 2066, 2079, 2092, 2167, 2180, 2193, 2237, 2281, 2294, 2307, 2321, 2386, 2452, 2465, 2478, 2534, 2590, 2648, 2692, 2736, 2780, 2824, 2837], 236) by decide +kernel) (by rw [z10]; decide) (by rw [z10]; decide) (by rw [z10] <;> rfl) (by decide) ?_
        refine X_room (rc' := (n * 33 + 33)) (rs' := (n * 8198 + 8198)) (by omega) (by omega) ?_
        exact kL_law_J895 ih _ _ _ _ _ _ _ w
      by_cases z11 : (mI h x0 x5.toNatClampNeg &&& (nI 63)) = (nI 11)
      · have w := w.2.2.2.2.2.2.2.2.2.2.2.1 z11
        refine X_tableIn (tgt := 908) (show decode cL_law 44 = .ok (.tableswitch 2881 0 54 #[236, 292, 372, 440, 496, 552, 615, 683, 739, 795, 851, 864, 920, 976, 1032, 1095, 1151, 1219, 1287, 1367, 1435, 1448, 1473, 1529, 1585, 1648, 1711, 1767, 1823, 1879, 1935, 1991, 2066, 2079, 2092, 2167, 2180, 2193, 2237, 2281, 2294, 2307, 2321, 2386, 2452, 2465, 2478, 2534, 2590, 2648, 2692, 2736, 2780, 2824, 2837], 236) by decide +kernel) (by rw [z11]; decide) (by rw [z11]; decide) (by rw [z11] <;> rfl) (by decide) ?_
        refine X_room (rc' := (n * 33 + 34)) (rs' := (n * 8198 + 8204)) (by omega) (by omega) ?_
        exact kL_law_J908 ih _ _ _ _ _ _ _ w
      by_cases z12 : (mI h x0 x5.toNatClampNeg &&& (nI 63)) = (nI 12)
      · have w := w.2.2.2.2.2.2.2.2.2.2.2.2.1 z12
        refine X_tableIn (tgt := 964) (show decode cL_law 44 = .ok (.tableswitch 2881 0 54 #[236, 292, 372, 440, 496, 552, 615, 683, 739, 795, 851, 864, 920, 976, 1032, 1095, 1151, 1219, 1287, 1367, 1435, 1448, 1473, 1529, 1585, 1648, 1711, 1767, 1823, 1879, 1935, 1991, 2066, 2079, 2092, 2167, 2180, 2193, 2237, 2281, 2294, 2307, 2321, 2386, 2452, 2465, 2478, 2534, 2590, 2648, 2692, 2736, 2780, 2824, 2837], 236) by decide +kernel) (by rw [z12]; decide) (by rw [z12]; decide) (by rw [z12] <;> rfl) (by decide) ?_
        refine X_room (rc' := (n * 33 + 34)) (rs' := (n * 8198 + 8204)) (by omega) (by omega) ?_
        exact kL_law_J964 ih _ _ _ _ _ _ _ w
      by_cases z13 : (mI h x0 x5.toNatClampNeg &&& (nI 63)) = (nI 13)
      · have w := w.2.2.2.2.2.2.2.2.2.2.2.2.2.1 z13
        refine X_tableIn (tgt := 1020) (show decode cL_law 44 = .ok (.tableswitch 2881 0 54 #[236, 292, 372, 440, 496, 552, 615, 683, 739, 795, 851, 864, 920, 976, 1032, 1095, 1151, 1219, 1287, 1367, 1435, 1448, 1473, 1529, 1585, 1648, 1711, 1767, 1823, 1879, 1935, 1991, 2066, 2079, 2092, 2167, 2180, 2193, 2237, 2281, 2294, 2307, 2321, 2386, 2452, 2465, 2478, 2534, 2590, 2648, 2692, 2736, 2780, 2824, 2837], 236) by decide +kernel) (by rw [z13]; decide) (by rw [z13]; decide) (by rw [z13] <;> rfl) (by decide) ?_
        refine X_room (rc' := (n * 33 + 35)) (rs' := (n * 8198 + 8210)) (by omega) (by omega) ?_
        exact kL_law_J1020 ih _ _ _ _ _ _ _ w
      by_cases z14 : (mI h x0 x5.toNatClampNeg &&& (nI 63)) = (nI 14)
      · have w := w.2.2.2.2.2.2.2.2.2.2.2.2.2.2.1 z14
        refine X_tableIn (tgt := 1076) (show decode cL_law 44 = .ok (.tableswitch 2881 0 54 #[236, 292, 372, 440, 496, 552, 615, 683, 739, 795, 851, 864, 920, 976, 1032, 1095, 1151, 1219, 1287, 1367, 1435, 1448, 1473, 1529, 1585, 1648, 1711, 1767, 1823, 1879, 1935, 1991, 2066, 2079, 2092, 2167, 2180, 2193, 2237, 2281, 2294, 2307, 2321, 2386, 2452, 2465, 2478, 2534, 2590, 2648, 2692, 2736, 2780, 2824, 2837], 236) by decide +kernel) (by rw [z14]; decide) (by rw [z14]; decide) (by rw [z14] <;> rfl) (by decide) ?_
        refine X_room (rc' := (n * 33 + 34)) (rs' := (n * 8198 + 8204)) (by omega) (by omega) ?_
        exact kL_law_J1076 ih _ _ _ _ _ _ _ w
      by_cases z15 : (mI h x0 x5.toNatClampNeg &&& (nI 63)) = (nI 15)
      · have w := w.2.2.2.2.2.2.2.2.2.2.2.2.2.2.2.1 z15
        refine X_tableIn (tgt := 1139) (show decode cL_law 44 = .ok (.tableswitch 2881 0 54 #[236, 292, 372, 440, 496, 552, 615, 683, 739, 795, 851, 864, 920, 976, 1032, 1095, 1151, 1219, 1287, 1367, 1435, 1448, 1473, 1529, 1585, 1648, 1711, 1767, 1823, 1879, 1935, 1991, 2066, 2079, 2092, 2167, 2180, 2193, 2237, 2281, 2294, 2307, 2321, 2386, 2452, 2465, 2478, 2534, 2590, 2648, 2692, 2736, 2780, 2824, 2837], 236) by decide +kernel) (by rw [z15]; decide) (by rw [z15]; decide) (by rw [z15] <;> rfl) (by decide) ?_
        refine X_room (rc' := (n * 33 + 35)) (rs' := (n * 8198 + 8210)) (by omega) (by omega) ?_
        exact kL_law_J1139 ih _ _ _ _ _ _ _ w
      by_cases z16 : (mI h x0 x5.toNatClampNeg &&& (nI 63)) = (nI 16)
      · have w := w.2.2.2.2.2.2.2.2.2.2.2.2.2.2.2.2.1 z16
        refine X_tableIn (tgt := 1195) (show decode cL_law 44 = .ok (.tableswitch 2881 0 54 #[236, 292, 372, 440, 496, 552, 615, 683, 739, 795, 851, 864, 920, 976, 1032, 1095, 1151, 1219, 1287, 1367, 1435, 1448, 1473, 1529, 1585, 1648, 1711, 1767, 1823, 1879, 1935, 1991, 2066, 2079, 2092, 2167, 2180, 2193, 2237, 2281, 2294, 2307, 2321, 2386, 2452, 2465, 2478, 2534, 2590, 2648, 2692, 2736, 2780, 2824, 2837], 236) by decide +kernel) (by rw [z16]; decide) (by rw [z16]; decide) (by rw [z16] <;> rfl) (by decide) ?_
        refine X_room (rc' := (n * 33 + 36)) (rs' := (n * 8198 + 8216)) (by omega) (by omega) ?_
        exact kL_law_J1195 ih _ _ _ _ _ _ _ w
      by_cases z17 : (mI h x0 x5.toNatClampNeg &&& (nI 63)) = (nI 17)
      · have w := w.2.2.2.2.2.2.2.2.2.2.2.2.2.2.2.2.2.1 z17
        refine X_tableIn (tgt := 1263) (show decode cL_law 44 = .ok (.tableswitch 2881 0 54 #[236, 292, 372, 440, 496, 552, 615, 683, 739, 795, 851, 864, 920, 976, 1032, 1095, 1151, 1219, 1287, 1367, 1435, 1448, 1473, 1529, 1585, 1648, 1711, 1767, 1823, 1879, 1935, 1991, 2066, 2079, 2092, 2167, 2180, 2193, 2237, 2281, 2294, 2307, 2321, 2386, 2452, 2465, 2478, 2534, 2590, 2648, 2692, 2736, 2780, 2824, 2837], 236) by decide +kernel) (by rw [z17]; decide) (by rw [z17]; decide) (by rw [z17] <;> rfl) (by decide) ?_
        refine X_room (rc' := (n * 33 + 36)) (rs' := (n * 8198 + 8216)) (by omega) (by omega) ?_
        exact kL_law_J1263 ih _ _ _ _ _ _ _ w
      by_cases z18 : (mI h x0 x5.toNatClampNeg &&& (nI 63)) = (nI 18)
      · have w := w.2.2.2.2.2.2.2.2.2.2.2.2.2.2.2.2.2.2.1 z18
        refine X_tableIn (tgt := 1331) (show decode cL_law 44 = .ok (.tableswitch 2881 0 54 #[236, 292, 372, 440, 496, 552, 615, 683, 739, 795, 851, 864, 920, 976, 1032, 1095, 1151, 1219, 1287, 1367, 1435, 1448, 1473, 1529, 1585, 1648, 1711, 1767, 1823, 1879, 1935, 1991, 2066, 2079, 2092, 2167, 2180, 2193, 2237, 2281, 2294, 2307, 2321, 2386, 2452, 2465, 2478, 2534, 2590, 2648, 2692, 2736, 2780, 2824, 2837], 236) by decide +kernel) (by rw [z18]; decide) (by rw [z18]; decide) (by rw [z18] <;> rfl) (by decide) ?_
        refine X_room (rc' := (n * 33 + 37)) (rs' := (n * 8198 + 8222)) (by omega) (by omega) ?_
        exact kL_law_J1331 ih _ _ _ _ _ _ _ w
      by_cases z19 : (mI h x0 x5.toNatClampNeg &&& (nI 63)) = (nI 19)
      · have w := w.2.2.2.2.2.2.2.2.2.2.2.2.2.2.2.2.2.2.2.1 z19
        refine X_tableIn (tgt := 1411) (show decode cL_law 44 = .ok (.tableswitch 2881 0 54 #[236, 292, 372, 440, 496, 552, 615, 683, 739, 795, 851, 864, 920, 976, 1032, 1095, 1151, 1219, 1287, 1367, 1435, 1448, 1473, 1529, 1585, 1648, 1711, 1767, 1823, 1879, 1935, 1991, 2066, 2079, 2092, 2167, 2180, 2193, 2237, 2281, 2294, 2307, 2321, 2386, 2452, 2465, 2478, 2534, 2590, 2648, 2692, 2736, 2780, 2824, 2837], 236) by decide +kernel) (by rw [z19]; decide) (by rw [z19]; decide) (by rw [z19] <;> rfl) (by decide) ?_
        refine X_room (rc' := (n * 33 + 35)) (rs' := (n * 8198 + 8210)) (by omega) (by omega) ?_
        exact kL_law_J1411 ih _ _ _ _ _ _ _ w
      by_cases z20 : (mI h x0 x5.toNatClampNeg &&& (nI 63)) = (nI 20)
      · have w := w.2.2.2.2.2.2.2.2.2.2.2.2.2.2.2.2.2.2.2.2.1 z20
        refine X_tableIn (tgt := 1479) (show decode cL_law 44 = .ok (.tableswitch 2881 0 54 #[236, 292, 372, 440, 496, 552, 615, 683, 739, 795, 851, 864, 920, 976, 1032, 1095, 1151, 1219, 1287, 1367, 1435, 1448, 1473, 1529, 1585, 1648, 1711, 1767, 1823, 1879, 1935, 1991, 2066, 2079, 2092, 2167, 2180, 2193, 2237, 2281, 2294, 2307, 2321, 2386, 2452, 2465, 2478, 2534, 2590, 2648, 2692, 2736, 2780, 2824, 2837], 236) by decide +kernel) (by rw [z20]; decide) (by rw [z20]; decide) (by rw [z20] <;> rfl) (by decide) ?_
        refine X_room (rc' := (n * 33 + 33)) (rs' := (n * 8198 + 8198)) (by omega) (by omega) ?_
        exact kL_law_J1479 ih _ _ _ _ _ _ _ w
      by_cases z21 : (mI h x0 x5.toNatClampNeg &&& (nI 63)) = (nI 21)
      · have w := w.2.2.2.2.2.2.2.2.2.2.2.2.2.2.2.2.2.2.2.2.2.1 z21
        refine X_tableIn (tgt := 1492) (show decode cL_law 44 = .ok (.tableswitch 2881 0 54 #[236, 292, 372, 440, 496, 552, 615, 683, 739, 795, 851, 864, 920, 976, 1032, 1095, 1151, 1219, 1287, 1367, 1435, 1448, 1473, 1529, 1585, 1648, 1711, 1767, 1823, 1879, 1935, 1991, 2066, 2079, 2092, 2167, 2180, 2193, 2237, 2281, 2294, 2307, 2321, 2386, 2452, 2465, 2478, 2534, 2590, 2648, 2692, 2736, 2780, 2824, 2837], 236) by decide +kernel) (by rw [z21]; decide) (by rw [z21]; decide) (by rw [z21] <;> rfl) (by decide) ?_
        refine X_room (rc' := (n * 33 + 33)) (rs' := (n * 8198 + 8198)) (by omega) (by omega) ?_
        exact kL_law_J1492 ih _ _ _ _ _ _ _ w
      by_cases z22 : (mI h x0 x5.toNatClampNeg &&& (nI 63)) = (nI 22)
      · have w := w.2.2.2.2.2.2.2.2.2.2.2.2.2.2.2.2.2.2.2.2.2.2.1 z22
        refine X_tableIn (tgt := 1517) (show decode cL_law 44 = .ok (.tableswitch 2881 0 54 #[236, 292, 372, 440, 496, 552, 615, 683, 739, 795, 851, 864, 920, 976, 1032, 1095, 1151, 1219, 1287, 1367, 1435, 1448, 1473, 1529, 1585, 1648, 1711, 1767, 1823, 1879, 1935, 1991, 2066, 2079, 2092, 2167, 2180, 2193, 2237, 2281, 2294, 2307, 2321, 2386, 2452, 2465, 2478, 2534, 2590, 2648, 2692, 2736, 2780, 2824, 2837], 236) by decide +kernel) (by rw [z22]; decide) (by rw [z22]; decide) (by rw [z22] <;> rfl) (by decide) ?_
        refine X_room (rc' := (n * 33 + 34)) (rs' := (n * 8198 + 8204)) (by omega) (by omega) ?_
        exact kL_law_J1517 ih _ _ _ _ _ _ _ w
      by_cases z23 : (mI h x0 x5.toNatClampNeg &&& (nI 63)) = (nI 23)
      · have w := w.2.2.2.2.2.2.2.2.2.2.2.2.2.2.2.2.2.2.2.2.2.2.2.1 z23
        refine X_tableIn (tgt := 1573) (show decode cL_law 44 = .ok (.tableswitch 2881 0 54 #[236, 292, 372, 440, 496, 552, 615, 683, 739, 795, 851, 864, 920, 976, 1032, 1095, 1151, 1219, 1287, 1367, 1435, 1448, 1473, 1529, 1585, 1648, 1711, 1767, 1823, 1879, 1935, 1991, 2066, 2079, 2092, 2167, 2180, 2193, 2237, 2281, 2294, 2307, 2321, 2386, 2452, 2465, 2478, 2534, 2590, 2648, 2692, 2736, 2780, 2824, 2837], 236) by decide +kernel) (by rw [z23]; decide) (by rw [z23]; decide) (by rw [z23] <;> rfl) (by decide) ?_
        refine X_room (rc' := (n * 33 + 34)) (rs' := (n * 8198 + 8204)) (by omega) (by omega) ?_
        exact kL_law_J1573 ih _ _ _ _ _ _ _ w
      by_cases z24 : (mI h x0 x5.toNatClampNeg &&& (nI 63)) = (nI 24)
      · have w := w.2.2.2.2.2.2.2.2.2.2.2.2.2.2.2.2.2.2.2.2.2.2.2.2.1 z24
        refine X_tableIn (tgt := 1629) (show decode cL_law 44 = .ok (.tableswitch 2881 0 54 #[236, 292, 372, 440, 496, 552, 615, 683, 739, 795, 851, 864, 920, 976, 1032, 1095, 1151, 1219, 1287, 1367, 1435, 1448, 1473, 1529, 1585, 1648, 1711, 1767, 1823, 1879, 1935, 1991, 2066, 2079, 2092, 2167, 2180, 2193, 2237, 2281, 2294, 2307, 2321, 2386, 2452, 2465, 2478, 2534, 2590, 2648, 2692, 2736, 2780, 2824, 2837], 236) by decide +kernel) (by rw [z24]; decide) (by rw [z24]; decide) (by rw [z24] <;> rfl) (by decide) ?_
        refine X_room (rc' := (n * 33 + 34)) (rs' := (n * 8198 + 8204)) (by omega) (by omega) ?_
        exact kL_law_J1629 ih _ _ _ _ _ _ _ w
      by_cases z25 : (mI h x0 x5.toNatClampNeg &&& (nI 63)) = (nI 25)
      · have w := w.2.2.2.2.2.2.2.2.2.2.2.2.2.2.2.2.2.2.2.2.2.2.2.2.2.1 z25
        refine X_tableIn (tgt := 1692) (show decode cL_law 44 = .ok (.tableswitch 2881 0 54 #[236, 292, 372, 440, 496, 552, 615, 683, 739, 795, 851, 864, 920, 976, 1032, 1095, 1151, 1219, 1287, 1367, 1435, 1448, 1473, 1529, 1585, 1648, 1711, 1767, 1823, 1879, 1935, 1991, 2066, 2079, 2092, 2167, 2180, 2193, 2237, 2281, 2294, 2307, 2321, 2386, 2452, 2465, 2478, 2534, 2590, 2648, 2692, 2736, 2780, 2824, 2837], 236) by decide +kernel) (by rw [z25]; decide) (by rw [z25]; decide) (by rw [z25] <;> rfl) (by decide) ?_
        refine X_room (rc' := (n * 33 + 34)) (rs' := (n * 8198 + 8204)) (by omega) (by omega) ?_
        exact kL_law_J1692 ih _ _ _ _ _ _ _ w
      by_cases z26 : (mI h x0 x5.toNatClampNeg &&& (nI 63)) = (nI 26)
      · have w := w.2.2.2.2.2.2.2.2.2.2.2.2.2.2.2.2.2.2.2.2.2.2.2.2.2.2.1 z26
        refine X_tableIn (tgt := 1755) (show decode cL_law 44 = .ok (.tableswitch 2881 0 54 #[236, 292, 372, 440, 496, 552, 615, 683, 739, 795, 851, 864, 920, 976, 1032, 1095, 1151, 1219, 1287, 1367, 1435, 1448, 1473, 1529, 1585, 1648, 1711, 1767, 1823, 1879, 1935, 1991, 2066, 2079, 2092, 2167, 2180, 2193, 2237, 2281, 2294, 2307, 2321, 2386, 2452, 2465, 2478, 2534, 2590, 2648, 2692, 2736, 2780, 2824, 2837], 236) by decide +kernel) (by rw [z26]; decide) (by rw [z26]; decide) (by rw [z26] <;> rfl) (by decide) ?_
        refine X_room (rc' := (n * 33 + 35)) (rs' := (n * 8198 + 8210)) (by omega) (by omega) ?_
        exact kL_law_J1755 ih _ _ _ _ _ _ _ w
      by_cases z27 : (mI h x0 x5.toNatClampNeg &&& (nI 63)) = (nI 27)
      · have w := w.2.2.2.2.2.2.2.2.2.2.2.2.2.2.2.2.2.2.2.2.2.2.2.2.2.2.2.1 z27
        refine X_tableIn (tgt := 1811) (show decode cL_law 44 = .ok (.tableswitch 2881 0 54 #[236, 292, 372, 440, 496, 552, 615, 683, 739, 795, 851, 864, 920, 976, 1032, 1095, 1151, 1219, 1287, 1367, 1435, 1448, 1473, 1529, 1585, 1648, 1711, 1767, 1823, 1879, 1935, 1991, 2066, 2079, 2092, 2167, 2180, 2193, 2237, 2281, 2294, 2307, 2321, 2386, 2452, 2465, 2478, 2534, 2590, 2648, 2692, 2736, 2780, 2824, 2837], 236) by decide +kernel) (by rw [z27]; decide) (by rw [z27]; decide) (by rw [z27] <;> rfl) (by decide) ?_
        refine X_room (rc' := (n * 33 + 35)) (rs' := (n * 8198 + 8210)) (by omega) (by omega) ?_
        exact kL_law_J1811 ih _ _ _ _ _ _ _ w
      by_cases z28 : (mI h x0 x5.toNatClampNeg &&& (nI 63)) = (nI 28)
      · have w := w.2.2.2.2.2.2.2.2.2.2.2.2.2.2.2.2.2.2.2.2.2.2.2.2.2.2.2.2.1 z28
        refine X_tableIn (tgt := 1867) (show decode cL_law 44 = .ok (.tableswitch 2881 0 54 #[236, 292, 372, 440, 496, 552, 615, 683, 739, 795, 851, 864, 920, 976, 1032, 1095, 1151, 1219, 1287, 1367, 1435, 1448, 1473, 1529, 1585, 1648, 1711, 1767, 1823, 1879, 1935, 1991, 2066, 2079, 2092, 2167, 2180, 2193, 2237, 2281, 2294, 2307, 2321, 2386, 2452, 2465, 2478, 2534, 2590, 2648, 2692, 2736, 2780, 2824, 2837], 236) by decide +kernel) (by rw [z28]; decide) (by rw [z28]; decide) (by rw [z28] <;> rfl) (by decide) ?_
        refine X_room (rc' := (n * 33 + 35)) (rs' := (n * 8198 + 8210)) (by omega) (by omega) ?_
        exact kL_law_J1867 ih _ _ _ _ _ _ _ w
      by_cases z29 : (mI h x0 x5.toNatClampNeg &&& (nI 63)) = (nI 29)
      · have w := w.2.2.2.2.2.2.2.2.2.2.2.2.2.2.2.2.2.2.2.2.2.2.2.2.2.2.2.2.2.1 z29
        refine X_tableIn (tgt := 1923) (show decode cL_law 44 = .ok (.tableswitch 2881 0 54 #[236, 292, 372, 440, 496, 552, 615, 683, 739, 795, 851, 864, 920, 976, 1032, 1095, 1151, 1219, 1287, 1367, 1435, 1448, 1473, 1529, 1585, 1648, 1711, 1767, 1823, 1879, 1935, 1991, 2066, 2079, 2092, 2167, 2180, 2193, 2237, 2281, 2294, 2307, 2321, 2386, 2452, 2465, 2478, 2534, 2590, 2648, 2692, 2736, 2780, 2824, 2837], 236) by decide +kernel) (by rw [z29]; decide) (by rw [z29]; decide) (by rw [z29] <;> rfl) (by decide) ?_
        refine X_room (rc' := (n * 33 + 34)) (rs' := (n * 8198 + 8204)) (by omega) (by omega) ?_
        exact kL_law_J1923 ih _ _ _ _ _ _ _ w
      by_cases z30 : (mI h x0 x5.toNatClampNeg &&& (nI 63)) = (nI 30)
      · have w := w.2.2.2.2.2.2.2.2.2.2.2.2.2.2.2.2.2.2.2.2.2.2.2.2.2.2.2.2.2.2.1 z30
        refine X_tableIn (tgt := 1979) (show decode cL_law 44 = .ok (.tableswitch 2881 0 54 #[236, 292, 372, 440, 496, 552, 615, 683, 739, 795, 851, 864, 920, 976, 1032, 1095, 1151, 1219, 1287, 1367, 1435, 1448, 1473, 1529, 1585, 1648, 1711, 1767, 1823, 1879, 1935, 1991, 2066, 2079, 2092, 2167, 2180, 2193, 2237, 2281, 2294, 2307, 2321, 2386, 2452, 2465, 2478, 2534, 2590, 2648, 2692, 2736, 2780, 2824, 2837], 236) by decide +kernel) (by rw [z30]; decide) (by rw [z30]; decide) (by rw [z30] <;> rfl) (by decide) ?_
        refine X_room (rc' := (n * 33 + 34)) (rs' := (n * 8198 + 8204)) (by omega) (by omega) ?_
        exact kL_law_J1979 ih _ _ _ _ _ _ _ w
      by_cases z31 : (mI h x0 x5.toNatClampNeg &&& (nI 63)) = (nI 31)
      · have w := w.2.2.2.2.2.2.2.2.2.2.2.2.2.2.2.2.2.2.2.2.2.2.2.2.2.2.2.2.2.2.2.1 z31
        refine X_tableIn (tgt := 2035) (show decode cL_law 44 = .ok (.tableswitch 2881 0 54 #[236, 292, 372, 440, 496, 552, 615, 683, 739, 795, 851, 864, 920, 976, 1032, 1095, 1151, 1219, 1287, 1367, 1435, 1448, 1473, 1529, 1585, 1648, 1711, 1767, 1823, 1879, 1935, 1991, 2066, 2079, 2092, 2167, 2180, 2193, 2237, 2281, 2294, 2307, 2321, 2386, 2452, 2465, 2478, 2534, 2590, 2648, 2692, 2736, 2780, 2824, 2837], 236) by decide +kernel) (by rw [z31]; decide) (by rw [z31]; decide) (by rw [z31] <;> rfl) (by decide) ?_
        refine X_room (rc' := (n * 33 + 35)) (rs' := (n * 8198 + 8210)) (by omega) (by omega) ?_
        exact kL_law_J2035 ih _ _ _ _ _ _ _ w
      by_cases z32 : (mI h x0 x5.toNatClampNeg &&& (nI 63)) = (nI 32)
      · have w := w.2.2.2.2.2.2.2.2.2.2.2.2.2.2.2.2.2.2.2.2.2.2.2.2.2.2.2.2.2.2.2.2.1 z32
        refine X_tableIn (tgt := 2110) (show decode cL_law 44 = .ok (.tableswitch 2881 0 54 #[236, 292, 372, 440, 496, 552, 615, 683, 739, 795, 851, 864, 920, 976, 1032, 1095, 1151, 1219, 1287, 1367, 1435, 1448, 1473, 1529, 1585, 1648, 1711, 1767, 1823, 1879, 1935, 1991, 2066, 2079, 2092, 2167, 2180, 2193, 2237, 2281, 2294, 2307, 2321, 2386, 2452, 2465, 2478, 2534, 2590, 2648, 2692, 2736, 2780, 2824, 2837], 236) by decide +kernel) (by rw [z32]; decide) (by rw [z32]; decide) (by rw [z32] <;> rfl) (by decide) ?_
        refine X_room (rc' := (n * 33 + 33)) (rs' := (n * 8198 + 8198)) (by omega) (by omega) ?_
        exact kL_law_J2110 ih _ _ _ _ _ _ _ w
      by_cases z33 : (mI h x0 x5.toNatClampNeg &&& (nI 63)) = (nI 33)
      · have w := w.2.2.2.2.2.2.2.2.2.2.2.2.2.2.2.2.2.2.2.2.2.2.2.2.2.2.2.2.2.2.2.2.2.1 z33
        refine X_tableIn (tgt := 2123) (show decode cL_law 44 = .ok (.tableswitch 2881 0 54 #[236, 292, 372, 440, 496, 552, 615, 683, 739, 795, 851, 864, 920, 976, 1032, 1095, 1151, 1219, 1287, 1367, 1435, 1448, 1473, 1529, 1585, 1648, 1711, 1767, 1823, 1879, 1935, 1991, 2066, 2079, 2092, 2167, 2180, 2193, 2237, 2281, 2294, 2307, 2321, 2386, 2452, 2465, 2478, 2534, 2590, 2648, 2692, 2736, 2780, 2824, 2837], 236) by decide +kernel) (by rw [z33]; decide) (by rw [z33]; decide) (by rw [z33] <;> rfl) (by decide) ?_
        refine X_room (rc' := (n * 33 + 33)) (rs' := (n * 8198 + 8198)) (by omega) (by omega) ?_
        exact kL_law_J2123 ih _ _ _ _ _ _ _ w
      by_cases z34 : (mI h x0 x5.toNatClampNeg &&& (nI 63)) = (nI 34)
      · have w := w.2.2.2.2.2.2.2.2.2.2.2.2.2.2.2.2.2.2.2.2.2.2.2.2.2.2.2.2.2.2.2.2.2.2.1 z34
        refine X_tableIn (tgt := 2136) (show decode cL_law 44 = .ok (.tableswitch 2881 0 54 #[236, 292, 372, 440, 496, 552, 615, 683, 739, 795, 851, 864, 920, 976, 1032, 1095, 1151, 1219, 1287, 1367, 1435, 1448, 1473, 1529, 1585, 1648, 1711, 1767, 1823, 1879, 1935, 1991, 2066, 2079, 2092, 2167, 2180, 2193, 2237, 2281, 2294, 2307, 2321, 2386, 2452, 2465, 2478, 2534, 2590, 2648, 2692, 2736, 2780, 2824, 2837], 236) by decide +kernel) (by rw [z34]; decide) (by rw [z34]; decide) (by rw [z34] <;> rfl) (by decide) ?_
        refine X_room (rc' := (n * 33 + 36)) (rs' := (n * 8198 + 8216)) (by omega) (by omega) ?_
        exact kL_law_J2136 ih _ _ _ _ _ _ _ w
      by_cases z35 : (mI h x0 x5.toNatClampNeg &&& (nI 63)) = (nI 35)
      · have w := w.2.2.2.2.2.2.2.2.2.2.2.2.2.2.2.2.2.2.2.2.2.2.2.2.2.2.2.2.2.2.2.2.2.2.2.1 z35
        refine X_tableIn (tgt := 2211) (show decode cL_law 44 = .ok (.tableswitch 2881 0 54 #[236, 292, 372, 440, 496, 552, 615, 683, 739, 795, 851, 864, 920, 976, 1032, 1095, 1151, 1219, 1287, 1367, 1435, 1448, 1473, 1529, 1585, 1648, 1711, 1767, 1823, 1879, 1935, 1991, 2066, 2079, 2092, 2167, 2180, 2193, 2237, 2281, 2294, 2307, 2321, 2386, 2452, 2465, 2478, 2534, 2590, 2648, 2692, 2736, 2780, 2824, 2837], 236) by decide +kernel) (by rw [z35]; decide) (by rw [z35]; decide) (by rw [z35] <;> rfl) (by decide) ?_
        refine X_room (rc' := (n * 33 + 33)) (rs' := (n * 8198 + 8198)) (by omega) (by omega) ?_
        exact kL_law_J2211 ih _ _ _ _ _ _ _ w
      by_cases z36 : (mI h x0 x5.toNatClampNeg &&& (nI 63)) = (nI 36)
      · have w := w.2.2.2.2.2.2.2.2.2.2.2.2.2.2.2.2.2.2.2.2.2.2.2.2.2.2.2.2.2.2.2.2.2.2.2.2.1 z36
        refine X_tableIn (tgt := 2224) (show decode cL_law 44 = .ok (.tableswitch 2881 0 54 #[236, 292, 372, 440, 496, 552, 615, 683, 739, 795, 851, 864, 920, 976, 1032, 1095, 1151, 1219, 1287, 1367, 1435, 1448, 1473, 1529, 1585, 1648, 1711, 1767, 1823, 1879, 1935, 1991, 2066, 2079, 2092, 2167, 2180, 2193, 2237, 2281, 2294, 2307, 2321, 2386, 2452, 2465, 2478, 2534, 2590, 2648, 2692, 2736, 2780, 2824, 2837], 236) by decide +kernel) (by rw [z36]; decide) (by rw [z36]; decide) (by rw [z36] <;> rfl) (by decide) ?_
        refine X_room (rc' := (n * 33 + 33)) (rs' := (n * 8198 + 8198)) (by omega) (by omega) ?_
        exact kL_law_J2224 ih _ _ _ _ _ _ _ w
      by_cases z37 : (mI h x0 x5.toNatClampNeg &&& (nI 63)) = (nI 37)
      · have w := w.2.2.2.2.2.2.2.2.2.2.2.2.2.2.2.2.2.2.2.2.2.2.2.2.2.2.2.2.2.2.2.2.2.2.2.2.2.1 z37
        refine X_tableIn (tgt := 2237) (show decode cL_law 44 = .ok (.tableswitch 2881 0 54 #[236, 292, 372, 440, 496, 552, 615, 683, 739, 795, 851, 864, 920, 976, 1032, 1095, 1151, 1219, 1287, 1367, 1435, 1448, 1473, 1529, 1585, 1648, 1711, 1767, 1823, 1879, 1935, 1991, 2066, 2079, 2092, 2167, 2180, 2193, 2237, 2281, 2294, 2307, 2321, 2386, 2452, 2465, 2478, 2534, 2590, 2648, 2692, 2736, 2780, 2824, 2837], 236) by decide +kernel) (by rw [z37]; decide) (by rw [z37]; decide) (by rw [z37] <;> rfl) (by decide) ?_
        refine X_room (rc' := (n * 33 + 34)) (rs' := (n * 8198 + 8204)) (by omega) (by omega) ?_
        exact kL_law_J2237 ih _ _ _ _ _ _ _ w
      by_cases z38 : (mI h x0 x5.toNatClampNeg &&& (nI 63)) = (nI 38)
      · have w := w.2.2.2.2.2.2.2.2.2.2.2.2.2.2.2.2.2.2.2.2.2.2.2.2.2.2.2.2.2.2.2.2.2.2.2.2.2.2.1 z38
        refine X_tableIn (tgt := 2281) (show decode cL_law 44 = .ok (.tableswitch 2881 0 54 #[236, 292, 372, 440, 496, 552, 615, 683, 739, 795, 851, 864, 920, 976, 1032, 1095, 1151, 1219, 1287, 1367, 1435, 1448, 1473, 1529, 1585, 1648, 1711, 1767, 1823, 1879, 1935, 1991, 2066, 2079, 2092, 2167, 2180, 2193, 2237, 2281, 2294, 2307, 2321, 2386, 2452, 2465, 2478, 2534, 2590, 2648, 2692, 2736, 2780, 2824, 2837], 236) by decide +kernel) (by rw [z38]; decide) (by rw [z38]; decide) (by rw [z38] <;> rfl) (by decide) ?_
        refine X_room (rc' := (n * 33 + 34)) (rs' := (n * 8198 + 8204)) (by omega) (by omega) ?_
        exact kL_law_J2281 ih _ _ _ _ _ _ _ w
      by_cases z39 : (mI h x0 x5.toNatClampNeg &&& (nI 63)) = (nI 39)
      · have w := w.2.2.2.2.2.2.2.2.2.2.2.2.2.2.2.2.2.2.2.2.2.2.2.2.2.2.2.2.2.2.2.2.2.2.2.2.2.2.2.1 z39
        refine X_tableIn (tgt := 2325) (show decode cL_law 44 = .ok (.tableswitch 2881 0 54 #[236, 292, 372, 440, 496, 552, 615, 683, 739, 795, 851, 864, 920, 976, 1032, 1095, 1151, 1219, 1287, 1367, 1435, 1448, 1473, 1529, 1585, 1648, 1711, 1767, 1823, 1879, 1935, 1991, 2066, 2079, 2092, 2167, 2180, 2193, 2237, 2281, 2294, 2307, 2321, 2386, 2452, 2465, 2478, 2534, 2590, 2648, 2692, 2736, 2780, 2824, 2837], 236) by decide +kernel) (by rw [z39]; decide) (by rw [z39]; decide) (by rw [z39] <;> rfl) (by decide) ?_
        refine X_room (rc' := (n * 33 + 33)) (rs' := (n * 8198 + 8198)) (by omega) (by omega) ?_
        exact kL_law_J2325 ih _ _ _ _ _ _ _ w
      by_cases z40 : (mI h x0 x5.toNatClampNeg &&& (nI 63)) = (nI 40)
      · have w := w.2.2.2.2.2.2.2.2.2.2.2.2.2.2.2.2.2.2.2.2.2.2.2.2.2.2.2.2.2.2.2.2.2.2.2.2.2.2.2.2.1 z40
        refine X_tableIn (tgt := 2338) (show decode cL_law 44 = .ok (.tableswitch 2881 0 54 #[236, 292, 372, 440, 496, 552, 615, 683, 739, 795, 851, 864, 920, 976, 1032, 1095, 1151, 1219, 1287, 1367, 1435, 1448, 1473, 1529, 1585, 1648, 1711, 1767, 1823, 1879, 1935, 1991, 2066, 2079, 2092, 2167, 2180, 2193, 2237, 2281, 2294, 2307, 2321, 2386, 2452, 2465, 2478, 2534, 2590, 2648, 2692, 2736, 2780, 2824, 2837], 236) by decide +kernel) (by rw [z40]; decide) (by rw [z40]; decide) (by rw [z40] <;> rfl) (by decide) ?_
        refine X_room (rc' := (n * 33 + 33)) (rs' := (n * 8198 + 8198)) (by omega) (by omega) ?_
        exact kL_law_J2338 ih _ _ _ _ _ _ _ w
      by_cases z41 : (mI h x0 x5.toNatClampNeg &&& (nI 63)) = (nI 41)
      · have w := w.2.2.2.2.2.2.2.2.2.2.2.2.2.2.2.2.2.2.2.2.2.2.2.2.2.2.2.2.2.2.2.2.2.2.2.2.2.2.2.2.2.1 z41
        refine X_tableIn (tgt := 2351) (show decode cL_law 44 = .ok (.tableswitch 2881 0 54 #[236, 292, 372, 440, 496, 552, 615, 683, 739, 795, 851, 864, 920, 976, 1032, 1095, 1151, 1219, 1287, 1367, 1435, 1448, 1473, 1529, 1585, 1648, 1711, 1767, 1823, 1879, 1935, 1991, 2066, 2079, 2092, 2167, 2180, 2193, 2237, 2281, 2294, 2307, 2321, 2386, 2452, 2465, 2478, 2534, 2590, 2648, 2692, 2736, 2780, 2824, 2837], 236) by decide +kernel) (by rw [z41]; decide) (by rw [z41]; decide) (by rw [z41] <;> rfl) (by decide) ?_
        refine X_room (rc' := (n * 33 + 33)) (rs' := (n * 8198 + 8198)) (by omega) (by omega) ?_
        exact kL_law_J2351 ih _ _ _ _ _ _ _ w
      by_cases z42 : (mI h x0 x5.toNatClampNeg &&& (nI 63)) = (nI 42)
      · have w := w.2.2.2.2.2.2.2.2.2.2.2.2.2.2.2.2.2.2.2.2.2.2.2.2.2.2.2.2.2.2.2.2.2.2.2.2.2.2.2.2.2.2.1 z42
        refine X_tableIn (tgt := 2365) (show decode cL_law 44 = .ok (.tableswitch 2881 0 54 #[236, 292, 372, 440, 496, 552, 615, 683, 739, 795, 851, 864, 920, 976, 1032, 1095, 1151, 1219, 1287, 1367, 1435, 1448, 1473, 1529, 1585, 1648, 1711, 1767, 1823, 1879, 1935, 1991, 2066, 2079, 2092, 2167, 2180, 2193, 2237, 2281, 2294, 2307, 2321, 2386, 2452, 2465, 2478, 2534, 2590, 2648, 2692, 2736, 2780, 2824, 2837], 236) by decide +kernel) (by rw [z42]; decide) (by rw [z42]; decide) (by rw [z42] <;> rfl) (by decide) ?_
        refine X_room (rc' := (n * 33 + 34)) (rs' := (n * 8198 + 8204)) (by omega) (by omega) ?_
        exact kL_law_J2365 ih _ _ _ _ _ _ _ w
      by_cases z43 : (mI h x0 x5.toNatClampNeg &&& (nI 63)) = (nI 43)
      · have w := w.2.2.2.2.2.2.2.2.2.2.2.2.2.2.2.2.2.2.2.2.2.2.2.2.2.2.2.2.2.2.2.2.2.2.2.2.2.2.2.2.2.2.2.1 z43
        refine X_tableIn (tgt := 2430) (show decode cL_law 44 = .ok (.tableswitch 2881 0 54 #[236, 292, 372, 440, 496, 552, 615, 683, 739, 795, 851, 864, 920, 976, 1032, 1095, 1151, 1219, 1287, 1367, 1435, 1448, 1473, 1529, 1585, 1648, 1711, 1767, 1823, 1879, 1935, 1991, 2066, 2079, 2092, 2167, 2180, 2193, 2237, 2281, 2294, 2307, 2321, 2386, 2452, 2465, 2478, 2534, 2590, 2648, 2692, 2736, 2780, 2824, 2837], 236) by decide +kernel) (by rw [z43]; decide) (by rw [z43]; decide) (by rw [z43] <;> rfl) (by decide) ?_
        refine X_room (rc' := (n * 33 + 34)) (rs' := (n * 8198 + 8204)) (by omega) (by omega) ?_
        exact kL_law_J2430 ih _ _ _ _ _ _ _ w
      by_cases z44 : (mI h x0 x5.toNatClampNeg &&& (nI 63)) = (nI 44)
      · have w := w.2.2.2.2.2.2.2.2.2.2.2.2.2.2.2.2.2.2.2.2.2.2.2.2.2.2.2.2.2.2.2.2.2.2.2.2.2.2.2.2.2.2.2.2.1 z44
        refine X_tableIn (tgt := 2496) (show decode cL_law 44 = .ok (.tableswitch 2881 0 54 #[236, 292, 372, 440, 496, 552, 615, 683, 739, 795, 851, 864, 920, 976, 1032, 1095, 1151, 1219, 1287, 1367, 1435, 1448, 1473, 1529, 1585, 1648, 1711, 1767, 1823, 1879, 1935, 1991, 2066, 2079, 2092, 2167, 2180, 2193, 2237, 2281, 2294, 2307, 2321, 2386, 2452, 2465, 2478, 2534, 2590, 2648, 2692, 2736, 2780, 2824, 2837], 236) by decide +kernel) (by rw [z44]; decide) (by rw [z44]; decide) (by rw [z44] <;> rfl) (by decide) ?_
        refine X_room (rc' := (n * 33 + 33)) (rs' := (n * 8198 + 8198)) (by omega) (by omega) ?_
        exact kL_law_J2496 ih _ _ _ _ _ _ _ w
      by_cases z45 : (mI h x0 x5.toNatClampNeg &&& (nI 63)) = (nI 45)
      · have w := w.2.2.2.2.2.2.2.2.2.2.2.2.2.2.2.2.2.2.2.2.2.2.2.2.2.2.2.2.2.2.2.2.2.2.2.2.2.2.2.2.2.2.2.2.2.1 z45
        refine X_tableIn (tgt := 2509) (show decode cL_law 44 = .ok (.tableswitch 2881 0 54 #[236, 292, 372, 440, 496, 552, 615, 683, 739, 795, 851, 864, 920, 976, 1032, 1095, 1151, 1219, 1287, 1367, 1435, 1448, 1473, 1529, 1585, 1648, 1711, 1767, 1823, 1879, 1935, 1991, 2066, 2079, 2092, 2167, 2180, 2193, 2237, 2281, 2294, 2307, 2321, 2386, 2452, 2465, 2478, 2534, 2590, 2648, 2692, 2736, 2780, 2824, 2837], 236) by decide +kernel) (by rw [z45]; decide) (by rw [z45]; decide) (by rw [z45] <;> rfl) (by decide) ?_
        refine X_room (rc' := (n * 33 + 62)) (rs' := (n * 8198 + 15622)) (by omega) (by omega) ?_
        exact kL_law_J2509 ih _ _ _ _ _ _ _ w
      by_cases z46 : (mI h x0 x5.toNatClampNeg &&& (nI 63)) = (nI 46)
      · have w := w.2.2.2.2.2.2.2.2.2.2.2.2.2.2.2.2.2.2.2.2.2.2.2.2.2.2.2.2.2.2.2.2.2.2.2.2.2.2.2.2.2.2.2.2.2.2.1 z46
        refine X_tableIn (tgt := 2522) (show decode cL_law 44 = .ok (.tableswitch 2881 0 54 #[236, 292, 372, 440, 496, 552, 615, 683, 739, 795, 851, 864, 920, 976, 1032, 1095, 1151, 1219, 1287, 1367, 1435, 1448, 1473, 1529, 1585, 1648, 1711, 1767, 1823, 1879, 1935, 1991, 2066, 2079, 2092, 2167, 2180, 2193, 2237, 2281, 2294, 2307, 2321, 2386, 2452, 2465, 2478, 2534, 2590, 2648, 2692, 2736, 2780, 2824, 2837], 236) by decide +kernel) (by rw [z46]; decide) (by rw [z46]; decide) (by rw [z46] <;> rfl) (by decide) ?_
        exact kL_law_J2522 ih _ _ _ _ _ _ _ w
      by_cases z47 : (mI h x0 x5.toNatClampNeg &&& (nI 63)) = (nI 47)
      · have w := w.2.2.2.2.2.2.2.2.2.2.2.2.2.2.2.2.2.2.2.2.2.2.2.2.2.2.2.2.2.2.2.2.2.2.2.2.2.2.2.2.2.2.2.2.2.2.2.1 z47
        refine X_tableIn (tgt := 2578) (show decode cL_law 44 = .ok (.tableswitch 2881 0 54 #[236, 292, 372, 440, 496, 552, 615, 683, 739, 795, 851, 864, 920, 976, 1032, 1095, 1151, 1219, 1287, 1367, 1435, 1448, 1473, 1529, 1585, 1648, 1711, 1767, 1823, 1879, 1935, 1991, 2066, 2079, 2092, 2167, 2180, 2193, 2237, 2281, 2294, 2307, 2321, 2386, 2452, 2465, 2478, 2534, 2590, 2648, 2692, 2736, 2780, 2824, 2837], 236) by decide +kernel) (by rw [z47]; decide) (by rw [z47]; decide) (by rw [z47] <;> rfl) (by decide) ?_
        refine X_room (rc' := (n * 33 + 34)) (rs' := (n * 8198 + 8204)) (by omega) (by omega) ?_
        exact kL_law_J2578 ih _ _ _ _ _ _ _ w
      by_cases z48 : (mI h x0 x5.toNatClampNeg &&& (nI 63)) = (nI 48)
      · have w := w.2.2.2.2.2.2.2.2.2.2.2.2.2.2.2.2.2.2.2.2.2.2.2.2.2.2.2.2.2.2.2.2.2.2.2.2.2.2.2.2.2.2.2.2.2.2.2.2.1 z48
        refine X_tableIn (tgt := 2634) (show decode cL_law 44 = .ok (.tableswitch 2881 0 54 #[236, 292, 372, 440, 496, 552, 615, 683, 739, 795, 851, 864, 920, 976, 1032, 1095, 1151, 1219, 1287, 1367, 1435, 1448, 1473, 1529, 1585, 1648, 1711, 1767, 1823, 1879, 1935, 1991, 2066, 2079, 2092, 2167, 2180, 2193, 2237, 2281, 2294, 2307, 2321, 2386, 2452, 2465, 2478, 2534, 2590, 2648, 2692, 2736, 2780, 2824, 2837], 236) by decide +kernel) (by rw [z48]; decide) (by rw [z48]; decide) (by rw [z48] <;> rfl) (by decide) ?_
        refine X_room (rc' := (n * 33 + 34)) (rs' := (n * 8198 + 8204)) (by omega) (by omega) ?_
        exact kL_law_J2634 ih _ _ _ _ _ _ _ w
      by_cases z49 : (mI h x0 x5.toNatClampNeg &&& (nI 63)) = (nI 49)
      · have w := w.2.2.2.2.2.2.2.2.2.2.2.2.2.2.2.2.2.2.2.2.2.2.2.2.2.2.2.2.2.2.2.2.2.2.2.2.2.2.2.2.2.2.2.2.2.2.2.2.2.1 z49
        refine X_tableIn (tgt := 2692) (show decode cL_law 44 = .ok (.tableswitch 2881 0 54 #[236, 292, 372, 440, 496, 552, 615, 683, 739, 795, 851, 864, 920, 976, 1032, 1095, 1151, 1219, 1287, 1367, 1435, 1448, 1473, 1529, 1585, 1648, 1711, 1767, 1823, 1879, 1935, 1991, 2066, 2079, 2092, 2167, 2180, 2193, 2237, 2281, 2294, 2307, 2321, 2386, 2452, 2465, 2478, 2534, 2590, 2648, 2692, 2736, 2780, 2824, 2837], 236) by decide +kernel) (by rw [z49]; decide) (by rw [z49]; decide) (by rw [z49] <;> rfl) (by decide) ?_
        refine X_room (rc' := (n * 33 + 34)) (rs' := (n * 8198 + 8204)) (by omega) (by omega) ?_
        exact kL_law_J2692 ih _ _ _ _ _ _ _ w
      by_cases z50 : (mI h x0 x5.toNatClampNeg &&& (nI 63)) = (nI 50)
      · have w := w.2.2.2.2.2.2.2.2.2.2.2.2.2.2.2.2.2.2.2.2.2.2.2.2.2.2.2.2.2.2.2.2.2.2.2.2.2.2.2.2.2.2.2.2.2.2.2.2.2.2.1 z50
        refine X_tableIn (tgt := 2736) (show decode cL_law 44 = .ok (.tableswitch 2881 0 54 #[236, 292, 372, 440, 496, 552, 615, 683, 739, 795, 851, 864, 920, 976, 1032, 1095, 1151, 1219, 1287, 1367, 1435, 1448, 1473, 1529, 1585, 1648, 1711, 1767, 1823, 1879, 1935, 1991, 2066, 2079, 2092, 2167, 2180, 2193, 2237, 2281, 2294, 2307, 2321, 2386, 2452, 2465, 2478, 2534, 2590, 2648, 2692, 2736, 2780, 2824, 2837], 236) by decide +kernel) (by rw [z50]; decide) (by rw [z50]; decide) (by rw [z50] <;> rfl) (by decide) ?_
        refine X_room (rc' := (n * 33 + 34)) (rs' := (n * 8198 + 8204)) (by omega) (by omega) ?_
        exact kL_law_J2736 ih _ _ _ _ _ _ _ w
      by_cases z51 : (mI h x0 x5.toNatClampNeg &&& (nI 63)) = (nI 51)
      · have w := w.2.2.2.2.2.2.2.2.2.2.2.2.2.2.2.2.2.2.2.2.2.2.2.2.2.2.2.2.2.2.2.2.2.2.2.2.2.2.2.2.2.2.2.2.2.2.2.2.2.2.2.1 z51
        refine X_tableIn (tgt := 2780) (show decode cL_law 44 = .ok (.tableswitch 2881 0 54 #[236, 292, 372, 440, 496, 552, 615, 683, 739, 795, 851, 864, 920, 976, 1032, 1095, 1151, 1219, 1287, 1367, 1435, 1448, 1473, 1529, 1585, 1648, 1711, 1767, 1823, 1879, 1935, 1991, 2066, 2079, 2092, 2167, 2180, 2193, 2237, 2281, 2294, 2307, 2321, 2386, 2452, 2465, 2478, 2534, 2590, 2648, 2692, 2736, 2780, 2824, 2837], 236) by decide +kernel) (by rw [z51]; decide) (by rw [z51]; decide) (by rw [z51] <;> rfl) (by decide) ?_
        refine X_room (rc' := (n * 33 + 34)) (rs' := (n * 8198 + 8204)) (by omega) (by omega) ?_
        exact kL_law_J2780 ih _ _ _ _ _ _ _ w
      by_cases z52 : (mI h x0 x5.toNatClampNeg &&& (nI 63)) = (nI 52)
      · have w := w.2.2.2.2.2.2.2.2.2.2.2.2.2.2.2.2.2.2.2.2.2.2.2.2.2.2.2.2.2.2.2.2.2.2.2.2.2.2.2.2.2.2.2.2.2.2.2.2.2.2.2.2.1 z52
        refine X_tableIn (tgt := 2824) (show decode cL_law 44 = .ok (.tableswitch 2881 0 54 #[236, 292, 372, 440, 496, 552, 615, 683, 739, 795, 851, 864, 920, 976, 1032, 1095, 1151, 1219, 1287, 1367, 1435, 1448, 1473, 1529, 1585, 1648, 1711, 1767, 1823, 1879, 1935, 1991, 2066, 2079, 2092, 2167, 2180, 2193, 2237, 2281, 2294, 2307, 2321, 2386, 2452, 2465, 2478, 2534, 2590, 2648, 2692, 2736, 2780, 2824, 2837], 236) by decide +kernel) (by rw [z52]; decide) (by rw [z52]; decide) (by rw [z52] <;> rfl) (by decide) ?_
        refine X_room (rc' := (n * 33 + 34)) (rs' := (n * 8198 + 8204)) (by omega) (by omega) ?_
        exact kL_law_J2824 ih _ _ _ _ _ _ _ w
      by_cases z53 : (mI h x0 x5.toNatClampNeg &&& (nI 63)) = (nI 53)
      · have w := w.2.2.2.2.2.2.2.2.2.2.2.2.2.2.2.2.2.2.2.2.2.2.2.2.2.2.2.2.2.2.2.2.2.2.2.2.2.2.2.2.2.2.2.2.2.2.2.2.2.2.2.2.2.1 z53
        refine X_tableIn (tgt := 2868) (show decode cL_law 44 = .ok (.tableswitch 2881 0 54 #[236, 292, 372, 440, 496, 552, 615, 683, 739, 795, 851, 864, 920, 976, 1032, 1095, 1151, 1219, 1287, 1367, 1435, 1448, 1473, 1529, 1585, 1648, 1711, 1767, 1823, 1879, 1935, 1991, 2066, 2079, 2092, 2167, 2180, 2193, 2237, 2281, 2294, 2307, 2321, 2386, 2452, 2465, 2478, 2534, 2590, 2648, 2692, 2736, 2780, 2824, 2837], 236) by decide +kernel) (by rw [z53]; decide) (by rw [z53]; decide) (by rw [z53] <;> rfl) (by decide) ?_
        refine X_room (rc' := (n * 33 + 33)) (rs' := (n * 8198 + 8198)) (by omega) (by omega) ?_
        exact kL_law_J2868 ih _ _ _ _ _ _ _ w
      by_cases z54 : (mI h x0 x5.toNatClampNeg &&& (nI 63)) = (nI 54)
      · have w := w.2.2.2.2.2.2.2.2.2.2.2.2.2.2.2.2.2.2.2.2.2.2.2.2.2.2.2.2.2.2.2.2.2.2.2.2.2.2.2.2.2.2.2.2.2.2.2.2.2.2.2.2.2.2.1 z54
        refine X_tableIn (tgt := 2881) (show decode cL_law 44 = .ok (.tableswitch 2881 0 54 #[236, 292, 372, 440, 496, 552, 615, 683, 739, 795, 851, 864, 920, 976, 1032, 1095, 1151, 1219, 1287, 1367, 1435, 1448, 1473, 1529, 1585, 1648, 1711, 1767, 1823, 1879, 1935, 1991, 2066, 2079, 2092, 2167, 2180, 2193, 2237, 2281, 2294, 2307, 2321, 2386, 2452, 2465, 2478, 2534, 2590, 2648, 2692, 2736, 2780, 2824, 2837], 236) by decide +kernel) (by rw [z54]; decide) (by rw [z54]; decide) (by rw [z54] <;> rfl) (by decide) ?_
        refine X_room (rc' := (n * 33 + 34)) (rs' := (n * 8198 + 8204)) (by omega) (by omega) ?_
        exact kL_law_J2881 ih _ _ _ _ _ _ _ w
      have w := w.2.2.2.2.2.2.2.2.2.2.2.2.2.2.2.2.2.2.2.2.2.2.2.2.2.2.2.2.2.2.2.2.2.2.2.2.2.2.2.2.2.2.2.2.2.2.2.2.2.2.2.2.2.2.2 ⟨z0, z1, z2, z3, z4, z5, z6, z7, z8, z9, z10, z11, z12, z13, z14, z15, z16, z17, z18, z19, z20, z21, z22, z23, z24, z25, z26, z27, z28, z29, z30, z31, z32, z33, z34, z35, z36, z37, z38, z39, z40, z41, z42, z43, z44, z45, z46, z47, z48, z49, z50, z51, z52, z53, z54⟩
      refine X_tab (lo := 0) (hi := 54) (tgt := 2925) (show decode cL_law 44 = .ok (.tableswitch 2881 0 54 #[236, 292, 372, 440, 496, 552, 615, 683, 739, 795, 851, 864, 920, 976, 1032, 1095, 1151, 1219, 1287, 1367, 1435, 1448, 1473, 1529, 1585, 1648, 1711, 1767, 1823, 1879, 1935, 1991, 2066, 2079, 2092, 2167, 2180, 2193, 2237, 2281, 2294, 2307, 2321, 2386, 2452, 2465, 2478, 2534, 2590, 2648, 2692, 2736, 2780, 2824, 2837], 236) by decide +kernel) (by decide) (fun g1 g2 => ?_) ?_
      · have g3 : ((mI h x0 x5.toNatClampNeg &&& (nI 63))).toInt = 0 ∨ ((mI h x0 x5.toNatClampNeg &&& (nI 63))).toInt = 1 ∨ ((mI h x0 x5.toNatClampNeg &&& (nI 63))).toInt = 2 ∨ ((mI h x0 x5.toNatClampNeg &&& (nI 63))).toInt = 3 ∨ ((mI h x0 x5.toNatClampNeg &&& (nI 63))).toInt = 4 ∨ ((mI h x0 x5.toNatClampNeg &&& (nI 63))).toInt = 5 ∨ ((mI h x0 x5.toNatClampNeg &&& (nI 63))).toInt = 6 ∨ ((mI h x0 x5.toNatClampNeg &&& (nI 63))).toInt = 7 ∨ ((mI h x0 x5.toNatClampNeg &&& (nI 63))).toInt = 8 ∨ ((mI h x0 x5.toNatClampNeg &&& (nI 63))).toInt = 9 ∨ ((mI h x0 x5.toNatClampNeg &&& (nI 63))).toInt = 10 ∨ ((mI h x0 x5.toNatClampNeg &&& (nI 63))).toInt = 11 ∨ ((mI h x0 x5.toNatClampNeg &&& (nI 63))).toInt = 12 ∨ ((mI h x0 x5.toNatClampNeg &&& (nI 63))).toInt = 13 ∨ ((mI h x0 x5.toNatClampNeg &&& (nI 63))).toInt = 14 ∨ ((mI h x0 x5.toNatClampNeg &&& (nI 63))).toInt = 15 ∨ ((mI h x0 x5.toNatClampNeg &&& (nI 63))).toInt = 16 ∨ ((mI h x0 x5.toNatClampNeg &&& (nI 63))).toInt = 17 ∨ ((mI h x0 x5.toNatClampNeg &&& (nI 63))).toInt = 18 ∨ ((mI h x0 x5.toNatClampNeg &&& (nI 63))).toInt = 19 ∨ ((mI h x0 x5.toNatClampNeg &&& (nI 63))).toInt = 20 ∨ ((mI h x0 x5.toNatClampNeg &&& (nI 63))).toInt = 21 ∨ ((mI h x0 x5.toNatClampNeg &&& (nI 63))).toInt = 22 ∨ ((mI h x0 x5.toNatClampNeg &&& (nI 63))).toInt = 23 ∨ ((mI h x0 x5.toNatClampNeg &&& (nI 63))).toInt = 24 ∨ ((mI h x0 x5.toNatClampNeg &&& (nI 63))).toInt = 25 ∨ ((mI h x0 x5.toNatClampNeg &&& (nI 63))).toInt = 26 ∨ ((mI h x0 x5.toNatClampNeg &&& (nI 63))).toInt = 27 ∨ ((mI h x0 x5.toNatClampNeg &&& (nI 63))).toInt = 28 ∨ ((mI h x0 x5.toNatClampNeg &&& (nI 63))).toInt = 29 ∨ ((mI h x0 x5.toNatClampNeg &&& (nI 63))).toInt = 30 ∨ ((mI h x0 x5.toNatClampNeg &&& (nI 63))).toInt = 31 ∨ ((mI h x0 x5.toNatClampNeg &&& (nI 63))).toInt = 32 ∨ ((mI h x0 x5.toNatClampNeg &&& (nI 63))).toInt = 33 ∨ ((mI h x0 x5.toNatClampNeg &&& (nI 63))).toInt = 34 ∨ ((mI h x0 x5.toNatClampNeg &&& (nI 63))).toInt = 35 ∨ ((mI h x0 x5.toNatClampNeg &&& (nI 63))).toInt = 36 ∨ ((mI h x0 x5.toNatClampNeg &&& (nI 63))).toInt = 37 ∨ ((mI h x0 x5.toNatClampNeg &&& (nI 63))).toInt = 38 ∨ ((mI h x0 x5.toNatClampNeg &&& (nI 63))).toInt = 39 ∨ ((mI h x0 x5.toNatClampNeg &&& (nI 63))).toInt = 40 ∨ ((mI h x0 x5.toNatClampNeg &&& (nI 63))).toInt = 41 ∨ ((mI h x0 x5.toNatClampNeg &&& (nI 63))).toInt = 42 ∨ ((mI h x0 x5.toNatClampNeg &&& (nI 63))).toInt = 43 ∨ ((mI h x0 x5.toNatClampNeg &&& (nI 63))).toInt = 44 ∨ ((mI h x0 x5.toNatClampNeg &&& (nI 63))).toInt = 45 ∨ ((mI h x0 x5.toNatClampNeg &&& (nI 63))).toInt = 46 ∨ ((mI h x0 x5.toNatClampNeg &&& (nI 63))).toInt = 47 ∨ ((mI h x0 x5.toNatClampNeg &&& (nI 63))).toInt = 48 ∨ ((mI h x0 x5.toNatClampNeg &&& (nI 63))).toInt = 49 ∨ ((mI h x0 x5.toNatClampNeg &&& (nI 63))).toInt = 50 ∨ ((mI h x0 x5.toNatClampNeg &&& (nI 63))).toInt = 51 ∨ ((mI h x0 x5.toNatClampNeg &&& (nI 63))).toInt = 52 ∨ ((mI h x0 x5.toNatClampNeg &&& (nI 63))).toInt = 53 ∨ ((mI h x0 x5.toNatClampNeg &&& (nI 63))).toInt = 54 := by omega
        rcases g3 with g3 | g3 | g3 | g3 | g3 | g3 | g3 | g3 | g3 | g3 | g3 | g3 | g3 | g3 | g3 | g3 | g3 | g3 | g3 | g3 | g3 | g3 | g3 | g3 | g3 | g3 | g3 | g3 | g3 | g3 | g3 | g3 | g3 | g3 | g3 | g3 | g3 | g3 | g3 | g3 | g3 | g3 | g3 | g3 | g3 | g3 | g3 | g3 | g3 | g3 | g3 | g3 | g3 | g3 | g3
        · exact absurd (i32_of (k := (nI 0)) (g3.trans (by decide))) z0
        · exact absurd (i32_of (k := (nI 1)) (g3.trans (by decide))) z1
        · exact absurd (i32_of (k := (nI 2)) (g3.trans (by decide))) z2
        · exact absurd (i32_of (k := (nI 3)) (g3.trans (by decide))) z3
        · exact absurd (i32_of (k := (nI 4)) (g3.trans (by decide))) z4
        · exact absurd (i32_of (k := (nI 5)) (g3.trans (by decide))) z5
        · exact absurd (i32_of (k := (nI 6)) (g3.trans (by decide))) z6
        · exact absurd (i32_of (k := (nI 7)) (g3.trans (by decide))) z7
        · exact absurd (i32_of (k := (nI 8)) (g3.trans (by decide))) z8
        · exact absurd (i32_of (k := (nI 9)) (g3.trans (by decide))) z9
        · exact absurd (i32_of (k := (nI 10)) (g3.trans (by decide))) z10
        · exact absurd (i32_of (k := (nI 11)) (g3.trans (by decide))) z11
        · exact absurd (i32_of (k := (nI 12)) (g3.trans (by decide))) z12
        · exact absurd (i32_of (k := (nI 13)) (g3.trans (by decide))) z13
        · exact absurd (i32_of (k := (nI 14)) (g3.trans (by decide))) z14
        · exact absurd (i32_of (k := (nI 15)) (g3.trans (by decide))) z15
        · exact absurd (i32_of (k := (nI 16)) (g3.trans (by decide))) z16
        · exact absurd (i32_of (k := (nI 17)) (g3.trans (by decide))) z17
        · exact absurd (i32_of (k := (nI 18)) (g3.trans (by decide))) z18
        · exact absurd (i32_of (k := (nI 19)) (g3.trans (by decide))) z19
        · exact absurd (i32_of (k := (nI 20)) (g3.trans (by decide))) z20
        · exact absurd (i32_of (k := (nI 21)) (g3.trans (by decide))) z21
        · exact absurd (i32_of (k := (nI 22)) (g3.trans (by decide))) z22
        · exact absurd (i32_of (k := (nI 23)) (g3.trans (by decide))) z23
        · exact absurd (i32_of (k := (nI 24)) (g3.trans (by decide))) z24
        · exact absurd (i32_of (k := (nI 25)) (g3.trans (by decide))) z25
        · exact absurd (i32_of (k := (nI 26)) (g3.trans (by decide))) z26
        · exact absurd (i32_of (k := (nI 27)) (g3.trans (by decide))) z27
        · exact absurd (i32_of (k := (nI 28)) (g3.trans (by decide))) z28
        · exact absurd (i32_of (k := (nI 29)) (g3.trans (by decide))) z29
        · exact absurd (i32_of (k := (nI 30)) (g3.trans (by decide))) z30
        · exact absurd (i32_of (k := (nI 31)) (g3.trans (by decide))) z31
        · exact absurd (i32_of (k := (nI 32)) (g3.trans (by decide))) z32
        · exact absurd (i32_of (k := (nI 33)) (g3.trans (by decide))) z33
        · exact absurd (i32_of (k := (nI 34)) (g3.trans (by decide))) z34
        · exact absurd (i32_of (k := (nI 35)) (g3.trans (by decide))) z35
        · exact absurd (i32_of (k := (nI 36)) (g3.trans (by decide))) z36
        · exact absurd (i32_of (k := (nI 37)) (g3.trans (by decide))) z37
        · exact absurd (i32_of (k := (nI 38)) (g3.trans (by decide))) z38
        · exact absurd (i32_of (k := (nI 39)) (g3.trans (by decide))) z39
        · exact absurd (i32_of (k := (nI 40)) (g3.trans (by decide))) z40
        · exact absurd (i32_of (k := (nI 41)) (g3.trans (by decide))) z41
        · exact absurd (i32_of (k := (nI 42)) (g3.trans (by decide))) z42
        · exact absurd (i32_of (k := (nI 43)) (g3.trans (by decide))) z43
        · exact absurd (i32_of (k := (nI 44)) (g3.trans (by decide))) z44
        · exact absurd (i32_of (k := (nI 45)) (g3.trans (by decide))) z45
        · exact absurd (i32_of (k := (nI 46)) (g3.trans (by decide))) z46
        · exact absurd (i32_of (k := (nI 47)) (g3.trans (by decide))) z47
        · exact absurd (i32_of (k := (nI 48)) (g3.trans (by decide))) z48
        · exact absurd (i32_of (k := (nI 49)) (g3.trans (by decide))) z49
        · exact absurd (i32_of (k := (nI 50)) (g3.trans (by decide))) z50
        · exact absurd (i32_of (k := (nI 51)) (g3.trans (by decide))) z51
        · exact absurd (i32_of (k := (nI 52)) (g3.trans (by decide))) z52
        · exact absurd (i32_of (k := (nI 53)) (g3.trans (by decide))) z53
        · exact absurd (i32_of (k := (nI 54)) (g3.trans (by decide))) z54
      · skip
        refine X_iinc (j := 5) (v := _ + (nI 4)) (ls' := [(0, .ref _), (1, .ref _), (2, .ref _), (3, .ref _), (4, .ref _), (5, .int _)]) (show decode cL_law 2925 = .ok (.iinc 5 4, 3) by decide +kernel) rfl rfl (Nat.le_of_ble_eq_true rfl) rfl ?_
        refine X_goto (tgt := 28) (show decode cL_law 2928 = .ok (.goto (-2900), 3) by decide +kernel) (by decide) ?_
        refine X_room (rc' := (n * 33 + 33)) (rs' := (n * 8198 + 8198)) (by omega) (by omega) ?_
        exact ih _ _ _ _ _ _ _ w
