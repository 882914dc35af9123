set_option maxRecDepth 100000 in
set_option maxHeartbeats 4000000 in
theorem kL_law_J280 {rc0 rs0 : Nat} {K : Int32 → AH → Prop} {c28 : Nat → Nat → Nat → Nat → Nat → Int32 → AH → Prop} (hc28 : ∀ x0 x1 x2 x3 x4 x5 h, c28 x0 x1 x2 x3 x4 x5 h → X mL_law 20 (KI K) T0 rc0 rs0 28 [(0, .ref x0), (1, .ref x1), (2, .ref x2), (3, .ref x3), (4, .ref x4), (5, .int x5)] [] h) (x0 : Nat) (x1 : Nat) (x2 : Nat) (x3 : Nat) (x4 : Nat) (x5 : Int32) (h : AH) (w : wL_law_J280 K c28 x0 x1 x2 x3 x4 x5 h) : X mL_law 20 (KI K) T0 (rc0 + 1) (rs0 + 6) 280 [(0, .ref x0), (1, .ref x1), (2, .ref x2), (3, .ref x3), (4, .ref x4), (5, .int x5)] [] h := by
  unfold wL_law_J280 at w
  refine X_aload_n (j := 1) (show decode cL_law 280 = .ok (.aload_n 1, 1) by decide +kernel) rfl rfl ?_
  refine X_aload_n (j := 0) (show decode cL_law 281 = .ok (.aload_n 0, 1) by decide +kernel) rfl rfl ?_
  refine X_iload (j := 5) (show decode cL_law 282 = .ok (.iload 5, 2) by decide +kernel) rfl ?_
  refine X_iconst (v := (nI 1)) (show decode cL_law 284 = .ok (.iconst 1, 1) by decide +kernel) (by decide) ?_
  refine X_iadd (show decode cL_law 285 = .ok (.iadd, 1) by decide +kernel) ?_
  obtain ⟨s12, w⟩ := w
  obtain ⟨s13, w⟩ := w
  refine X_iald (show decode cL_law 286 = .ok (.iaload, 1) by decide +kernel) (isA_eq s12) s13 ?_
  refine X_aload_n (j := 3) (show decode cL_law 287 = .ok (.aload_n 3, 1) by decide +kernel) rfl rfl ?_
  refine X_sH (rc' := rc0) (rs' := rs0) (as := [.ref _, .int _, .ref _]) msh_L_162 (show decode cL_law 288 = .ok (.invokestatic 162, 3) by decide +kernel) (by decide) (by omega) (by omega) rfl rfl (Nat.le_of_ble_eq_true rfl) (kL_addBlock w) (fun r15 h14 w => ?_)
  refine X_istore (ls' := [(0, .ref _), (1, .ref _), (2, .ref _), (3, .ref _), (4, .ref _), (5, .int _), (6, .int _)]) (show decode cL_law 291 = .ok (.istore 6, 2) by decide +kernel) (by decide) rfl ?_
  refine X_aload_n (j := 2) (show decode cL_law 293 = .ok (.aload_n 2, 1) by decide +kernel) rfl rfl ?_
  refine X_aload_n (j := 0) (show decode cL_law 294 = .ok (.aload_n 0, 1) by decide +kernel) rfl rfl ?_
  refine X_iload (j := 5) (show decode cL_law 295 = .ok (.iload 5, 2) by decide +kernel) rfl ?_
  refine X_iconst (v := (nI 1)) (show decode cL_law 297 = .ok (.iconst 1, 1) by decide +kernel) (by decide) ?_
  refine X_iadd (show decode cL_law 298 = .ok (.iadd, 1) by decide +kernel) ?_
  obtain ⟨s16, w⟩ := w
  obtain ⟨s17, w⟩ := w
  refine X_iald (show decode cL_law 299 = .ok (.iaload, 1) by decide +kernel) (isA_eq s16) s17 ?_
  obtain ⟨s28, w⟩ := w
  refine X_vI (rc' := rc0) (rs' := rs0) (as := [.int _]) mv_L_167 (show decode cL_law 300 = .ok (.invokevirtual 167, 3) by decide +kernel) (by decide) (by omega) (by omega) rfl rfl (Nat.le_of_ble_eq_true rfl) (rcvD s28 (by decide) rfl) (kX10_addBlock w) (fun E h hk => hk.elim) (fun r19 h18 w => ?_)
  refine X_istore (ls' := [(0, .ref _), (1, .ref _), (2, .ref _), (3, .ref _), (4, .ref _), (5, .int _), (6, .int _), (7, .int _)]) (show decode cL_law 303 = .ok (.istore 7, 2) by decide +kernel) (by decide) rfl ?_
  refine X_aload_n (j := 2) (show decode cL_law 305 = .ok (.aload_n 2, 1) by decide +kernel) rfl rfl ?_
  obtain ⟨s27, w⟩ := w
  refine X_vI (rc' := rc0) (rs' := rs0) (as := []) mv_L_168 (show decode cL_law 306 = .ok (.invokevirtual 168, 3) by decide +kernel) (by decide) (by omega) (by omega) rfl rfl (Nat.le_of_ble_eq_true rfl) (rcvD s27 (by decide) rfl) (kX10_thrown w) (fun E h hk => hk.elim) (fun r21 h20 w => ?_)
  refine X_iload (j := 6) (show decode cL_law 309 = .ok (.iload 6, 2) by decide +kernel) rfl ?_
  refine X_icmp_eq (tgt := 316) (show decode cL_law 311 = .ok (.if_icmp .eq 5, 3) by decide +kernel) (by decide) ⟨fun c22 => ?_, fun c22 => ?_⟩
  · have w := w.1 c22
    refine X_iload (j := 6) (show decode cL_law 316 = .ok (.iload 6, 2) by decide +kernel) rfl ?_
    refine X_if_ne (tgt := 333) (show decode cL_law 318 = .ok (.ifCond .ne 15, 3) by decide +kernel) (by decide) ⟨fun c23 => ?_, fun c23 => ?_⟩
    · have w := w.1 c23
      refine X_goto (tgt := 2925) (show decode cL_law 333 = .ok (.goto 2592, 3) by decide +kernel) (by decide) ?_
      refine X_iinc (j := 5) (v := _ + (nI 4)) (ls' := [(0, .ref _), (1, .ref _), (2, .ref _), (3, .ref _), (4, .ref _), (5, .int _), (6, .int _), (7, .int _)]) (show decode cL_law 2925 = .ok (.iinc 5 4, 3) by decide +kernel) rfl rfl (Nat.le_of_ble_eq_true rfl) rfl ?_
      refine X_goto (tgt := 28) (show decode cL_law 2928 = .ok (.goto (-2900), 3) by decide +kernel) (by decide) ?_
      refine X_pick (ls' := [(0, .ref _), (1, .ref _), (2, .ref _), (3, .ref _), (4, .ref _), (5, .int _)]) [0, 1, 2, 3, 4, 5] rfl ?_
      exact hc28 _ _ _ _ _ _ _ w
    · have w := w.2 c23
      refine X_aload_n (j := 3) (show decode cL_law 321 = .ok (.aload_n 3, 1) by decide +kernel) rfl rfl ?_
      refine X_iconst (v := (nI 0)) (show decode cL_law 322 = .ok (.iconst 0, 1) by decide +kernel) (by decide) ?_
      obtain ⟨s24, w⟩ := w
      obtain ⟨s25, w⟩ := w
      refine X_lald (show decode cL_law 323 = .ok (.laload, 1) by decide +kernel) (isA_eq s24) s25 ?_
      refine X_iload (j := 7) (show decode cL_law 324 = .ok (.iload 7, 2) by decide +kernel) rfl ?_
      refine X_i2l (show decode cL_law 326 = .ok (.i2l, 1) by decide +kernel) ?_
      refine X_lcmp (show decode cL_law 327 = .ok (.lcmp, 1) by decide +kernel) ?_
      refine X_if_eq (tgt := 333) (show decode cL_law 328 = .ok (.ifCond .eq 5, 3) by decide +kernel) (by decide) ⟨fun c26 => ?_, fun c26 => ?_⟩
      · have w := w.1 c26
        refine X_goto (tgt := 2925) (show decode cL_law 333 = .ok (.goto 2592, 3) by decide +kernel) (by decide) ?_
        refine X_iinc (j := 5) (v := _ + (nI 4)) (ls' := [(0, .ref _), (1, .ref _), (2, .ref _), (3, .ref _), (4, .ref _), (5, .int _), (6, .int _), (7, .int _)]) (show decode cL_law 2925 = .ok (.iinc 5 4, 3) by decide +kernel) rfl rfl (Nat.le_of_ble_eq_true rfl) rfl ?_
        refine X_goto (tgt := 28) (show decode cL_law 2928 = .ok (.goto (-2900), 3) by decide +kernel) (by decide) ?_
        refine X_pick (ls' := [(0, .ref _), (1, .ref _), (2, .ref _), (3, .ref _), (4, .ref _), (5, .int _)]) [0, 1, 2, 3, 4, 5] rfl ?_
        exact hc28 _ _ _ _ _ _ _ w
      · have w := w.2 c26
        refine X_iconst (v := (nI 0)) (show decode cL_law 331 = .ok (.iconst 0, 1) by decide +kernel) (by decide) ?_
        exact X_iret ⟨(show decode cL_law 332 = .ok (.ireturn, 1) by decide +kernel), .boolean, rfl, (by decide)⟩ ⟨_, rfl, w⟩
  · have w := w.2 c22
    refine X_iconst (v := (nI 0)) (show decode cL_law 314 = .ok (.iconst 0, 1) by decide +kernel) (by decide) ?_
    exact X_iret ⟨(show decode cL_law 315 = .ok (.ireturn, 1) by decide +kernel), .boolean, rfl, (by decide)⟩ ⟨_, rfl, w⟩
set_option maxRecDepth 100000 in
set_option maxHeartbeats 4000000 in
theorem kL_law_J336 {rc0 rs0 : Nat} {K : Int32 → AH → Prop} {c28 : Nat → Nat → Nat → Nat → Nat → Int32 → AH → Prop} (hc28 : ∀ x0 x1 x2 x3 x4 x5 h, c28 x0 x1 x2 x3 x4 x5 h → X mL_law 20 (KI K) T0 rc0 rs0 28 [(0, .ref x0), (1, .ref x1), (2, .ref x2), (3, .ref x3), (4, .ref x4), (5, .int x5)] [] h) (x0 : Nat) (x1 : Nat) (x2 : Nat) (x3 : Nat) (x4 : Nat) (x5 : Int32) (h : AH) (w : wL_law_J336 K c28 x0 x1 x2 x3 x4 x5 h) : X mL_law 20 (KI K) T0 (rc0 + 1) (rs0 + 6) 336 [(0, .ref x0), (1, .ref x1), (2, .ref x2), (3, .ref x3), (4, .ref x4), (5, .int x5)] [] h := by
  unfold wL_law_J336 at w
  refine X_aload_n (j := 1) (show decode cL_law 336 = .ok (.aload_n 1, 1) by decide +kernel) rfl rfl ?_
  refine X_aload_n (j := 0) (show decode cL_law 337 = .ok (.aload_n 0, 1) by decide +kernel) rfl rfl ?_
  refine X_iload (j := 5) (show decode cL_law 338 = .ok (.iload 5, 2) by decide +kernel) rfl ?_
  refine X_iconst (v := (nI 1)) (show decode cL_law 340 = .ok (.iconst 1, 1) by decide +kernel) (by decide) ?_
  refine X_iadd (show decode cL_law 341 = .ok (.iadd, 1) by decide +kernel) ?_
  obtain ⟨s29, w⟩ := w
  obtain ⟨s30, w⟩ := w
  refine X_iald (show decode cL_law 342 = .ok (.iaload, 1) by decide +kernel) (isA_eq s29) s30 ?_
  refine X_aload_n (j := 0) (show decode cL_law 343 = .ok (.aload_n 0, 1) by decide +kernel) rfl rfl ?_
  refine X_iload (j := 5) (show decode cL_law 344 = .ok (.iload 5, 2) by decide +kernel) rfl ?_
  refine X_iconst (v := (nI 2)) (show decode cL_law 346 = .ok (.iconst 2, 1) by decide +kernel) (by decide) ?_
  refine X_iadd (show decode cL_law 347 = .ok (.iadd, 1) by decide +kernel) ?_
  obtain ⟨s31, w⟩ := w
  refine X_iald (show decode cL_law 348 = .ok (.iaload, 1) by decide +kernel) (isA_eq s29) s31 ?_
  refine X_aload_n (j := 0) (show decode cL_law 349 = .ok (.aload_n 0, 1) by decide +kernel) rfl rfl ?_
  refine X_iload (j := 5) (show decode cL_law 350 = .ok (.iload 5, 2) by decide +kernel) rfl ?_
  refine X_iconst (v := (nI 3)) (show decode cL_law 352 = .ok (.iconst 3, 1) by decide +kernel) (by decide) ?_
  refine X_iadd (show decode cL_law 353 = .ok (.iadd, 1) by decide +kernel) ?_
  obtain ⟨s32, w⟩ := w
  refine X_iald (show decode cL_law 354 = .ok (.iaload, 1) by decide +kernel) (isA_eq s29) s32 ?_
  refine X_aload_n (j := 3) (show decode cL_law 355 = .ok (.aload_n 3, 1) by decide +kernel) rfl rfl ?_
  refine X_sH (rc' := rc0) (rs' := rs0) (as := [.ref _, .int _, .int _, .int _, .ref _]) msh_L_171 (show decode cL_law 356 = .ok (.invokestatic 171, 3) by decide +kernel) (by decide) (by omega) (by omega) rfl rfl (Nat.le_of_ble_eq_true rfl) (kL_addPoint w) (fun r34 h33 w => ?_)
  refine X_istore (ls' := [(0, .ref _), (1, .ref _), (2, .ref _), (3, .ref _), (4, .ref _), (5, .int _), (6, .int _)]) (show decode cL_law 359 = .ok (.istore 6, 2) by decide +kernel) (by decide) rfl ?_
  refine X_aload_n (j := 2) (show decode cL_law 361 = .ok (.aload_n 2, 1) by decide +kernel) rfl rfl ?_
  refine X_aload_n (j := 0) (show decode cL_law 362 = .ok (.aload_n 0, 1) by decide +kernel) rfl rfl ?_
  refine X_iload (j := 5) (show decode cL_law 363 = .ok (.iload 5, 2) by decide +kernel) rfl ?_
  refine X_iconst (v := (nI 1)) (show decode cL_law 365 = .ok (.iconst 1, 1) by decide +kernel) (by decide) ?_
  refine X_iadd (show decode cL_law 366 = .ok (.iadd, 1) by decide +kernel) ?_
  obtain ⟨s35, w⟩ := w
  obtain ⟨s36, w⟩ := w
  refine X_iald (show decode cL_law 367 = .ok (.iaload, 1) by decide +kernel) (isA_eq s35) s36 ?_
  refine X_aload_n (j := 0) (show decode cL_law 368 = .ok (.aload_n 0, 1) by decide +kernel) rfl rfl ?_
  refine X_iload (j := 5) (show decode cL_law 369 = .ok (.iload 5, 2) by decide +kernel) rfl ?_
  refine X_iconst (v := (nI 2)) (show decode cL_law 371 = .ok (.iconst 2, 1) by decide +kernel) (by decide) ?_
  refine X_iadd (show decode cL_law 372 = .ok (.iadd, 1) by decide +kernel) ?_
  obtain ⟨s37, w⟩ := w
  refine X_iald (show decode cL_law 373 = .ok (.iaload, 1) by decide +kernel) (isA_eq s35) s37 ?_
  refine X_aload_n (j := 0) (show decode cL_law 374 = .ok (.aload_n 0, 1) by decide +kernel) rfl rfl ?_
  refine X_iload (j := 5) (show decode cL_law 375 = .ok (.iload 5, 2) by decide +kernel) rfl ?_
  refine X_iconst (v := (nI 3)) (show decode cL_law 377 = .ok (.iconst 3, 1) by decide +kernel) (by decide) ?_
  refine X_iadd (show decode cL_law 378 = .ok (.iadd, 1) by decide +kernel) ?_
  obtain ⟨s38, w⟩ := w
  refine X_iald (show decode cL_law 379 = .ok (.iaload, 1) by decide +kernel) (isA_eq s35) s38 ?_
  obtain ⟨s49, w⟩ := w
  refine X_vI (rc' := rc0) (rs' := rs0) (as := [.int _, .int _, .int _]) mv_L_174 (show decode cL_law 380 = .ok (.invokevirtual 174, 3) by decide +kernel) (by decide) (by omega) (by omega) rfl rfl (Nat.le_of_ble_eq_true rfl) (rcvD s49 (by decide) rfl) (kX10_addPoint w) (fun E h hk => hk.elim) (fun r40 h39 w => ?_)
  refine X_istore (ls' := [(0, .ref _), (1, .ref _), (2, .ref _), (3, .ref _), (4, .ref _), (5, .int _), (6, .int _), (7, .int _)]) (show decode cL_law 383 = .ok (.istore 7, 2) by decide +kernel) (by decide) rfl ?_
  refine X_aload_n (j := 2) (show decode cL_law 385 = .ok (.aload_n 2, 1) by decide +kernel) rfl rfl ?_
  obtain ⟨s48, w⟩ := w
  refine X_vI (rc' := rc0) (rs' := rs0) (as := []) mv_L_168 (show decode cL_law 386 = .ok (.invokevirtual 168, 3) by decide +kernel) (by decide) (by omega) (by omega) rfl rfl (Nat.le_of_ble_eq_true rfl) (rcvD s48 (by decide) rfl) (kX10_thrown w) (fun E h hk => hk.elim) (fun r42 h41 w => ?_)
  refine X_iload (j := 6) (show decode cL_law 389 = .ok (.iload 6, 2) by decide +kernel) rfl ?_
  refine X_icmp_eq (tgt := 396) (show decode cL_law 391 = .ok (.if_icmp .eq 5, 3) by decide +kernel) (by decide) ⟨fun c43 => ?_, fun c43 => ?_⟩
  · have w := w.1 c43
    refine X_iload (j := 6) (show decode cL_law 396 = .ok (.iload 6, 2) by decide +kernel) rfl ?_
    refine X_if_ne (tgt := 413) (show decode cL_law 398 = .ok (.ifCond .ne 15, 3) by decide +kernel) (by decide) ⟨fun c44 => ?_, fun c44 => ?_⟩
    · have w := w.1 c44
      refine X_goto (tgt := 2925) (show decode cL_law 413 = .ok (.goto 2512, 3) by decide +kernel) (by decide) ?_
      refine X_iinc (j := 5) (v := _ + (nI 4)) (ls' := [(0, .ref _), (1, .ref _), (2, .ref _), (3, .ref _), (4, .ref _), (5, .int _), (6, .int _), (7, .int _)]) (show decode cL_law 2925 = .ok (.iinc 5 4, 3) by decide +kernel) rfl rfl (Nat.le_of_ble_eq_true rfl) rfl ?_
      refine X_goto (tgt := 28) (show decode cL_law 2928 = .ok (.goto (-2900), 3) by decide +kernel) (by decide) ?_
      refine X_pick (ls' := [(0, .ref _), (1, .ref _), (2, .ref _), (3, .ref _), (4, .ref _), (5, .int _)]) [0, 1, 2, 3, 4, 5] rfl ?_
      exact hc28 _ _ _ _ _ _ _ w
    · have w := w.2 c44
      refine X_aload_n (j := 3) (show decode cL_law 401 = .ok (.aload_n 3, 1) by decide +kernel) rfl rfl ?_
      refine X_iconst (v := (nI 0)) (show decode cL_law 402 = .ok (.iconst 0, 1) by decide +kernel) (by decide) ?_
      obtain ⟨s45, w⟩ := w
      obtain ⟨s46, w⟩ := w
      refine X_lald (show decode cL_law 403 = .ok (.laload, 1) by decide +kernel) (isA_eq s45) s46 ?_
      refine X_iload (j := 7) (show decode cL_law 404 = .ok (.iload 7, 2) by decide +kernel) rfl ?_
      refine X_i2l (show decode cL_law 406 = .ok (.i2l, 1) by decide +kernel) ?_
      refine X_lcmp (show decode cL_law 407 = .ok (.lcmp, 1) by decide +kernel) ?_
      refine X_if_eq (tgt := 413) (show decode cL_law 408 = .ok (.ifCond .eq 5, 3) by decide +kernel) (by decide) ⟨fun c47 => ?_, fun c47 => ?_⟩
      · have w := w.1 c47
        refine X_goto (tgt := 2925) (show decode cL_law 413 = .ok (.goto 2512, 3) by decide +kernel) (by decide) ?_
        refine X_iinc (j := 5) (v := _ + (nI 4)) (ls' := [(0, .ref _), (1, .ref _), (2, .ref _), (3, .ref _), (4, .ref _), (5, .int _), (6, .int _), (7, .int _)]) (show decode cL_law 2925 = .ok (.iinc 5 4, 3) by decide +kernel) rfl rfl (Nat.le_of_ble_eq_true rfl) rfl ?_
        refine X_goto (tgt := 28) (show decode cL_law 2928 = .ok (.goto (-2900), 3) by decide +kernel) (by decide) ?_
        refine X_pick (ls' := [(0, .ref _), (1, .ref _), (2, .ref _), (3, .ref _), (4, .ref _), (5, .int _)]) [0, 1, 2, 3, 4, 5] rfl ?_
        exact hc28 _ _ _ _ _ _ _ w
      · have w := w.2 c47
        refine X_iconst (v := (nI 0)) (show decode cL_law 411 = .ok (.iconst 0, 1) by decide +kernel) (by decide) ?_
        exact X_iret ⟨(show decode cL_law 412 = .ok (.ireturn, 1) by decide +kernel), .boolean, rfl, (by decide)⟩ ⟨_, rfl, w⟩
  · have w := w.2 c43
    refine X_iconst (v := (nI 0)) (show decode cL_law 394 = .ok (.iconst 0, 1) by decide +kernel) (by decide) ?_
    exact X_iret ⟨(show decode cL_law 395 = .ok (.ireturn, 1) by decide +kernel), .boolean, rfl, (by decide)⟩ ⟨_, rfl, w⟩
set_option maxRecDepth 100000 in
set_option maxHeartbeats 4000000 in
theorem kL_law_J416 {rc0 rs0 : Nat} {K : Int32 → AH → Prop} {c28 : Nat → Nat → Nat → Nat → Nat → Int32 → AH → Prop} (hc28 : ∀ x0 x1 x2 x3 x4 x5 h, c28 x0 x1 x2 x3 x4 x5 h → X mL_law 20 (KI K) T0 rc0 rs0 28 [(0, .ref x0), (1, .ref x1), (2, .ref x2), (3, .ref x3), (4, .ref x4), (5, .int x5)] [] h) (x0 : Nat) (x1 : Nat) (x2 : Nat) (x3 : Nat) (x4 : Nat) (x5 : Int32) (h : AH) (w : wL_law_J416 K c28 x0 x1 x2 x3 x4 x5 h) : X mL_law 20 (KI K) T0 (rc0 + 1) (rs0 + 6) 416 [(0, .ref x0), (1, .ref x1), (2, .ref x2), (3, .ref x3), (4, .ref x4), (5, .int x5)] [] h := by
  unfold wL_law_J416 at w
  refine X_aload_n (j := 1) (show decode cL_law 416 = .ok (.aload_n 1, 1) by decide +kernel) rfl rfl ?_
  refine X_aload_n (j := 0) (show decode cL_law 417 = .ok (.aload_n 0, 1) by decide +kernel) rfl rfl ?_
  refine X_iload (j := 5) (show decode cL_law 418 = .ok (.iload 5, 2) by decide +kernel) rfl ?_
  refine X_iconst (v := (nI 1)) (show decode cL_law 420 = .ok (.iconst 1, 1) by decide +kernel) (by decide) ?_
  refine X_iadd (show decode cL_law 421 = .ok (.iadd, 1) by decide +kernel) ?_
  obtain ⟨s50, w⟩ := w
  obtain ⟨s51, w⟩ := w
  refine X_iald (show decode cL_law 422 = .ok (.iaload, 1) by decide +kernel) (isA_eq s50) s51 ?_
  refine X_aload_n (j := 0) (show decode cL_law 423 = .ok (.aload_n 0, 1) by decide +kernel) rfl rfl ?_
  refine X_iload (j := 5) (show decode cL_law 424 = .ok (.iload 5, 2) by decide +kernel) rfl ?_
  refine X_iconst (v := (nI 2)) (show decode cL_law 426 = .ok (.iconst 2, 1) by decide +kernel) (by decide) ?_
  refine X_iadd (show decode cL_law 427 = .ok (.iadd, 1) by decide +kernel) ?_
  obtain ⟨s52, w⟩ := w
  refine X_iald (show decode cL_law 428 = .ok (.iaload, 1) by decide +kernel) (isA_eq s50) s52 ?_
  refine X_aload_n (j := 3) (show decode cL_law 429 = .ok (.aload_n 3, 1) by decide +kernel) rfl rfl ?_
  refine X_sH (rc' := rc0) (rs' := rs0) (as := [.ref _, .int _, .int _, .ref _]) msh_L_175 (show decode cL_law 430 = .ok (.invokestatic 175, 3) by decide +kernel) (by decide) (by omega) (by omega) rfl rfl (Nat.le_of_ble_eq_true rfl) (kL_addLink w) (fun r54 h53 w => ?_)
  refine X_istore (ls' := [(0, .ref _), (1, .ref _), (2, .ref _), (3, .ref _), (4, .ref _), (5, .int _), (6, .int _)]) (show decode cL_law 433 = .ok (.istore 6, 2) by decide +kernel) (by decide) rfl ?_
  refine X_aload_n (j := 2) (show decode cL_law 435 = .ok (.aload_n 2, 1) by decide +kernel) rfl rfl ?_
  refine X_aload_n (j := 0) (show decode cL_law 436 = .ok (.aload_n 0, 1) by decide +kernel) rfl rfl ?_
  refine X_iload (j := 5) (show decode cL_law 437 = .ok (.iload 5, 2) by decide +kernel) rfl ?_
  refine X_iconst (v := (nI 1)) (show decode cL_law 439 = .ok (.iconst 1, 1) by decide +kernel) (by decide) ?_
  refine X_iadd (show decode cL_law 440 = .ok (.iadd, 1) by decide +kernel) ?_
  obtain ⟨s55, w⟩ := w
  obtain ⟨s56, w⟩ := w
  refine X_iald (show decode cL_law 441 = .ok (.iaload, 1) by decide +kernel) (isA_eq s55) s56 ?_
  refine X_aload_n (j := 0) (show decode cL_law 442 = .ok (.aload_n 0, 1) by decide +kernel) rfl rfl ?_
  refine X_iload (j := 5) (show decode cL_law 443 = .ok (.iload 5, 2) by decide +kernel) rfl ?_
  refine X_iconst (v := (nI 2)) (show decode cL_law 445 = .ok (.iconst 2, 1) by decide +kernel) (by decide) ?_
  refine X_iadd (show decode cL_law 446 = .ok (.iadd, 1) by decide +kernel) ?_
  obtain ⟨s57, w⟩ := w
  refine X_iald (show decode cL_law 447 = .ok (.iaload, 1) by decide +kernel) (isA_eq s55) s57 ?_
  obtain ⟨s68, w⟩ := w
  refine X_vI (rc' := rc0) (rs' := rs0) (as := [.int _, .int _]) mv_L_178 (show decode cL_law 448 = .ok (.invokevirtual 178, 3) by decide +kernel) (by decide) (by omega) (by omega) rfl rfl (Nat.le_of_ble_eq_true rfl) (rcvD s68 (by decide) rfl) (kX10_addLink w) (fun E h hk => hk.elim) (fun r59 h58 w => ?_)
  refine X_istore (ls' := [(0, .ref _), (1, .ref _), (2, .ref _), (3, .ref _), (4, .ref _), (5, .int _), (6, .int _), (7, .int _)]) (show decode cL_law 451 = .ok (.istore 7, 2) by decide +kernel) (by decide) rfl ?_
  refine X_aload_n (j := 2) (show decode cL_law 453 = .ok (.aload_n 2, 1) by decide +kernel) rfl rfl ?_
  obtain ⟨s67, w⟩ := w
  refine X_vI (rc' := rc0) (rs' := rs0) (as := []) mv_L_168 (show decode cL_law 454 = .ok (.invokevirtual 168, 3) by decide +kernel) (by decide) (by omega) (by omega) rfl rfl (Nat.le_of_ble_eq_true rfl) (rcvD s67 (by decide) rfl) (kX10_thrown w) (fun E h hk => hk.elim) (fun r61 h60 w => ?_)
  refine X_iload (j := 6) (show decode cL_law 457 = .ok (.iload 6, 2) by decide +kernel) rfl ?_
  refine X_icmp_eq (tgt := 464) (show decode cL_law 459 = .ok (.if_icmp .eq 5, 3) by decide +kernel) (by decide) ⟨fun c62 => ?_, fun c62 => ?_⟩
  · have w := w.1 c62
    refine X_iload (j := 6) (show decode cL_law 464 = .ok (.iload 6, 2) by decide +kernel) rfl ?_
    refine X_if_ne (tgt := 481) (show decode cL_law 466 = .ok (.ifCond .ne 15, 3) by decide +kernel) (by decide) ⟨fun c63 => ?_, fun c63 => ?_⟩
    · have w := w.1 c63
      refine X_goto (tgt := 2925) (show decode cL_law 481 = .ok (.goto 2444, 3) by decide +kernel) (by decide) ?_
      refine X_iinc (j := 5) (v := _ + (nI 4)) (ls' := [(0, .ref _), (1, .ref _), (2, .ref _), (3, .ref _), (4, .ref _), (5, .int _), (6, .int _), (7, .int _)]) (show decode cL_law 2925 = .ok (.iinc 5 4, 3) by decide +kernel) rfl rfl (Nat.le_of_ble_eq_true rfl) rfl ?_
      refine X_goto (tgt := 28) (show decode cL_law 2928 = .ok (.goto (-2900), 3) by decide +kernel) (by decide) ?_
      refine X_pick (ls' := [(0, .ref _), (1, .ref _), (2, .ref _), (3, .ref _), (4, .ref _), (5, .int _)]) [0, 1, 2, 3, 4, 5] rfl ?_
      exact hc28 _ _ _ _ _ _ _ w
    · have w := w.2 c63
      refine X_aload_n (j := 3) (show decode cL_law 469 = .ok (.aload_n 3, 1) by decide +kernel) rfl rfl ?_
      refine X_iconst (v := (nI 0)) (show decode cL_law 470 = .ok (.iconst 0, 1) by decide +kernel) (by decide) ?_
      obtain ⟨s64, w⟩ := w
      obtain ⟨s65, w⟩ := w
      refine X_lald (show decode cL_law 471 = .ok (.laload, 1) by decide +kernel) (isA_eq s64) s65 ?_
      refine X_iload (j := 7) (show decode cL_law 472 = .ok (.iload 7, 2) by decide +kernel) rfl ?_
      refine X_i2l (show decode cL_law 474 = .ok (.i2l, 1) by decide +kernel) ?_
      refine X_lcmp (show decode cL_law 475 = .ok (.lcmp, 1) by decide +kernel) ?_
      refine X_if_eq (tgt := 481) (show decode cL_law 476 = .ok (.ifCond .eq 5, 3) by decide +kernel) (by decide) ⟨fun c66 => ?_, fun c66 => ?_⟩
      · have w := w.1 c66
        refine X_goto (tgt := 2925) (show decode cL_law 481 = .ok (.goto 2444, 3) by decide +kernel) (by decide) ?_
        refine X_iinc (j := 5) (v := _ + (nI 4)) (ls' := [(0, .ref _), (1, .ref _), (2, .ref _), (3, .ref _), (4, .ref _), (5, .int _), (6, .int _), (7, .int _)]) (show decode cL_law 2925 = .ok (.iinc 5 4, 3) by decide +kernel) rfl rfl (Nat.le_of_ble_eq_true rfl) rfl ?_
        refine X_goto (tgt := 28) (show decode cL_law 2928 = .ok (.goto (-2900), 3) by decide +kernel) (by decide) ?_
        refine X_pick (ls' := [(0, .ref _), (1, .ref _), (2, .ref _), (3, .ref _), (4, .ref _), (5, .int _)]) [0, 1, 2, 3, 4, 5] rfl ?_
        exact hc28 _ _ _ _ _ _ _ w
      · have w := w.2 c66
        refine X_iconst (v := (nI 0)) (show decode cL_law 479 = .ok (.iconst 0, 1) by decide +kernel) (by decide) ?_
        exact X_iret ⟨(show decode cL_law 480 = .ok (.ireturn, 1) by decide +kernel), .boolean, rfl, (by decide)⟩ ⟨_, rfl, w⟩
  · have w := w.2 c62
    refine X_iconst (v := (nI 0)) (show decode cL_law 462 = .ok (.iconst 0, 1) by decide +kernel) (by decide) ?_
    exact X_iret ⟨(show decode cL_law 463 = .ok (.ireturn, 1) by decide +kernel), .boolean, rfl, (by decide)⟩ ⟨_, rfl, w⟩
set_option maxRecDepth 100000 in
set_option maxHeartbeats 4000000 in
theorem kL_law_J484 {rc0 rs0 : Nat} {K : Int32 → AH → Prop} {c28 : Nat → Nat → Nat → Nat → Nat → Int32 → AH → Prop} (hc28 : ∀ x0 x1 x2 x3 x4 x5 h, c28 x0 x1 x2 x3 x4 x5 h → X mL_law 20 (KI K) T0 rc0 rs0 28 [(0, .ref x0), (1, .ref x1), (2, .ref x2), (3, .ref x3), (4, .ref x4), (5, .int x5)] [] h) (x0 : Nat) (x1 : Nat) (x2 : Nat) (x3 : Nat) (x4 : Nat) (x5 : Int32) (h : AH) (w : wL_law_J484 K c28 x0 x1 x2 x3 x4 x5 h) : X mL_law 20 (KI K) T0 (rc0 + 1) (rs0 + 6) 484 [(0, .ref x0), (1, .ref x1), (2, .ref x2), (3, .ref x3), (4, .ref x4), (5, .int x5)] [] h := by
  unfold wL_law_J484 at w
  refine X_aload_n (j := 1) (show decode cL_law 484 = .ok (.aload_n 1, 1) by decide +kernel) rfl rfl ?_
  refine X_aload_n (j := 0) (show decode cL_law 485 = .ok (.aload_n 0, 1) by decide +kernel) rfl rfl ?_
  refine X_iload (j := 5) (show decode cL_law 486 = .ok (.iload 5, 2) by decide +kernel) rfl ?_
  refine X_iconst (v := (nI 1)) (show decode cL_law 488 = .ok (.iconst 1, 1) by decide +kernel) (by decide) ?_
  refine X_iadd (show decode cL_law 489 = .ok (.iadd, 1) by decide +kernel) ?_
  obtain ⟨s69, w⟩ := w
  obtain ⟨s70, w⟩ := w
  refine X_iald (show decode cL_law 490 = .ok (.iaload, 1) by decide +kernel) (isA_eq s69) s70 ?_
  refine X_aload_n (j := 3) (show decode cL_law 491 = .ok (.aload_n 3, 1) by decide +kernel) rfl rfl ?_
  refine X_sH (rc' := rc0) (rs' := rs0) (as := [.ref _, .int _, .ref _]) msh_L_179 (show decode cL_law 492 = .ok (.invokestatic 179, 3) by decide +kernel) (by decide) (by omega) (by omega) rfl rfl (Nat.le_of_ble_eq_true rfl) (kL_shut w) (fun r72 h71 w => ?_)
  refine X_istore (ls' := [(0, .ref _), (1, .ref _), (2, .ref _), (3, .ref _), (4, .ref _), (5, .int _), (6, .int _)]) (show decode cL_law 495 = .ok (.istore 6, 2) by decide +kernel) (by decide) rfl ?_
  refine X_aload_n (j := 2) (show decode cL_law 497 = .ok (.aload_n 2, 1) by decide +kernel) rfl rfl ?_
  refine X_aload_n (j := 0) (show decode cL_law 498 = .ok (.aload_n 0, 1) by decide +kernel) rfl rfl ?_
  refine X_iload (j := 5) (show decode cL_law 499 = .ok (.iload 5, 2) by decide +kernel) rfl ?_
  refine X_iconst (v := (nI 1)) (show decode cL_law 501 = .ok (.iconst 1, 1) by decide +kernel) (by decide) ?_
  refine X_iadd (show decode cL_law 502 = .ok (.iadd, 1) by decide +kernel) ?_
  obtain ⟨s73, w⟩ := w
  obtain ⟨s74, w⟩ := w
  refine X_iald (show decode cL_law 503 = .ok (.iaload, 1) by decide +kernel) (isA_eq s73) s74 ?_
  obtain ⟨s85, w⟩ := w
  refine X_vI (rc' := rc0) (rs' := rs0) (as := [.int _]) mv_L_181 (show decode cL_law 504 = .ok (.invokevirtual 181, 3) by decide +kernel) (by decide) (by omega) (by omega) rfl rfl (Nat.le_of_ble_eq_true rfl) (rcvD s85 (by decide) rfl) (kX10_shut w) (fun E h hk => hk.elim) (fun r76 h75 w => ?_)
  refine X_istore (ls' := [(0, .ref _), (1, .ref _), (2, .ref _), (3, .ref _), (4, .ref _), (5, .int _), (6, .int _), (7, .int _)]) (show decode cL_law 507 = .ok (.istore 7, 2) by decide +kernel) (by decide) rfl ?_
  refine X_aload_n (j := 2) (show decode cL_law 509 = .ok (.aload_n 2, 1) by decide +kernel) rfl rfl ?_
  obtain ⟨s84, w⟩ := w
  refine X_vI (rc' := rc0) (rs' := rs0) (as := []) mv_L_168 (show decode cL_law 510 = .ok (.invokevirtual 168, 3) by decide +kernel) (by decide) (by omega) (by omega) rfl rfl (Nat.le_of_ble_eq_true rfl) (rcvD s84 (by decide) rfl) (kX10_thrown w) (fun E h hk => hk.elim) (fun r78 h77 w => ?_)
  refine X_iload (j := 6) (show decode cL_law 513 = .ok (.iload 6, 2) by decide +kernel) rfl ?_
  refine X_icmp_eq (tgt := 520) (show decode cL_law 515 = .ok (.if_icmp .eq 5, 3) by decide +kernel) (by decide) ⟨fun c79 => ?_, fun c79 => ?_⟩
  · have w := w.1 c79
    refine X_iload (j := 6) (show decode cL_law 520 = .ok (.iload 6, 2) by decide +kernel) rfl ?_
    refine X_if_ne (tgt := 537) (show decode cL_law 522 = .ok (.ifCond .ne 15, 3) by decide +kernel) (by decide) ⟨fun c80 => ?_, fun c80 => ?_⟩
    · have w := w.1 c80
      refine X_goto (tgt := 2925) (show decode cL_law 537 = .ok (.goto 2388, 3) by decide +kernel) (by decide) ?_
      refine X_iinc (j := 5) (v := _ + (nI 4)) (ls' := [(0, .ref _), (1, .ref _), (2, .ref _), (3, .ref _), (4, .ref _), (5, .int _), (6, .int _), (7, .int _)]) (show decode cL_law 2925 = .ok (.iinc 5 4, 3) by decide +kernel) rfl rfl (Nat.le_of_ble_eq_true rfl) rfl ?_
      refine X_goto (tgt := 28) (show decode cL_law 2928 = .ok (.goto (-2900), 3) by decide +kernel) (by decide) ?_
      refine X_pick (ls' := [(0, .ref _), (1, .ref _), (2, .ref _), (3, .ref _), (4, .ref _), (5, .int _)]) [0, 1, 2, 3, 4, 5] rfl ?_
      exact hc28 _ _ _ _ _ _ _ w
    · have w := w.2 c80
      refine X_aload_n (j := 3) (show decode cL_law 525 = .ok (.aload_n 3, 1) by decide +kernel) rfl rfl ?_
      refine X_iconst (v := (nI 0)) (show decode cL_law 526 = .ok (.iconst 0, 1) by decide +kernel) (by decide) ?_
      obtain ⟨s81, w⟩ := w
      obtain ⟨s82, w⟩ := w
      refine X_lald (show decode cL_law 527 = .ok (.laload, 1) by decide +kernel) (isA_eq s81) s82 ?_
      refine X_iload (j := 7) (show decode cL_law 528 = .ok (.iload 7, 2) by decide +kernel) rfl ?_
      refine X_i2l (show decode cL_law 530 = .ok (.i2l, 1) by decide +kernel) ?_
      refine X_lcmp (show decode cL_law 531 = .ok (.lcmp, 1) by decide +kernel) ?_
      refine X_if_eq (tgt := 537) (show decode cL_law 532 = .ok (.ifCond .eq 5, 3) by decide +kernel) (by decide) ⟨fun c83 => ?_, fun c83 => ?_⟩
      · have w := w.1 c83
        refine X_goto (tgt := 2925) (show decode cL_law 537 = .ok (.goto 2388, 3) by decide +kernel) (by decide) ?_
        refine X_iinc (j := 5) (v := _ + (nI 4)) (ls' := [(0, .ref _), (1, .ref _), (2, .ref _), (3, .ref _), (4, .ref _), (5, .int _), (6, .int _), (7, .int _)]) (show decode cL_law 2925 = .ok (.iinc 5 4, 3) by decide +kernel) rfl rfl (Nat.le_of_ble_eq_true rfl) rfl ?_
        refine X_goto (tgt := 28) (show decode cL_law 2928 = .ok (.goto (-2900), 3) by decide +kernel) (by decide) ?_
        refine X_pick (ls' := [(0, .ref _), (1, .ref _), (2, .ref _), (3, .ref _), (4, .ref _), (5, .int _)]) [0, 1, 2, 3, 4, 5] rfl ?_
        exact hc28 _ _ _ _ _ _ _ w
      · have w := w.2 c83
        refine X_iconst (v := (nI 0)) (show decode cL_law 535 = .ok (.iconst 0, 1) by decide +kernel) (by decide) ?_
        exact X_iret ⟨(show decode cL_law 536 = .ok (.ireturn, 1) by decide +kernel), .boolean, rfl, (by decide)⟩ ⟨_, rfl, w⟩
  · have w := w.2 c79
    refine X_iconst (v := (nI 0)) (show decode cL_law 518 = .ok (.iconst 0, 1) by decide +kernel) (by decide) ?_
    exact X_iret ⟨(show decode cL_law 519 = .ok (.ireturn, 1) by decide +kernel), .boolean, rfl, (by decide)⟩ ⟨_, rfl, w⟩
set_option maxRecDepth 100000 in
set_option maxHeartbeats 4000000 in
theorem kL_law_J540 {rc0 rs0 : Nat} {K : Int32 → AH → Prop} {c28 : Nat → Nat → Nat → Nat → Nat → Int32 → AH → Prop} (hc28 : ∀ x0 x1 x2 x3 x4 x5 h, c28 x0 x1 x2 x3 x4 x5 h → X mL_law 20 (KI K) T0 rc0 rs0 28 [(0, .ref x0), (1, .ref x1), (2, .ref x2), (3, .ref x3), (4, .ref x4), (5, .int x5)] [] h) (x0 : Nat) (x1 : Nat) (x2 : Nat) (x3 : Nat) (x4 : Nat) (x5 : Int32) (h : AH) (w : wL_law_J540 K c28 x0 x1 x2 x3 x4 x5 h) : X mL_law 20 (KI K) T0 (rc0 + 1) (rs0 + 6) 540 [(0, .ref x0), (1, .ref x1), (2, .ref x2), (3, .ref x3), (4, .ref x4), (5, .int x5)] [] h := by
  unfold wL_law_J540 at w
  refine X_aload_n (j := 1) (show decode cL_law 540 = .ok (.aload_n 1, 1) by decide +kernel) rfl rfl ?_
  refine X_aload_n (j := 0) (show decode cL_law 541 = .ok (.aload_n 0, 1) by decide +kernel) rfl rfl ?_
  refine X_iload (j := 5) (show decode cL_law 542 = .ok (.iload 5, 2) by decide +kernel) rfl ?_
  refine X_iconst (v := (nI 1)) (show decode cL_law 544 = .ok (.iconst 1, 1) by decide +kernel) (by decide) ?_
  refine X_iadd (show decode cL_law 545 = .ok (.iadd, 1) by decide +kernel) ?_
  obtain ⟨s86, w⟩ := w
  obtain ⟨s87, w⟩ := w
  refine X_iald (show decode cL_law 546 = .ok (.iaload, 1) by decide +kernel) (isA_eq s86) s87 ?_
  refine X_aload_n (j := 3) (show decode cL_law 547 = .ok (.aload_n 3, 1) by decide +kernel) rfl rfl ?_
  refine X_sH (rc' := rc0) (rs' := rs0) (as := [.ref _, .int _, .ref _]) msh_L_182 (show decode cL_law 548 = .ok (.invokestatic 182, 3) by decide +kernel) (by decide) (by omega) (by omega) rfl rfl (Nat.le_of_ble_eq_true rfl) (kL_open w) (fun r89 h88 w => ?_)
  refine X_istore (ls' := [(0, .ref _), (1, .ref _), (2, .ref _), (3, .ref _), (4, .ref _), (5, .int _), (6, .int _)]) (show decode cL_law 551 = .ok (.istore 6, 2) by decide +kernel) (by decide) rfl ?_
  refine X_aload_n (j := 2) (show decode cL_law 553 = .ok (.aload_n 2, 1) by decide +kernel) rfl rfl ?_
  refine X_aload_n (j := 0) (show decode cL_law 554 = .ok (.aload_n 0, 1) by decide +kernel) rfl rfl ?_
  refine X_iload (j := 5) (show decode cL_law 555 = .ok (.iload 5, 2) by decide +kernel) rfl ?_
  refine X_iconst (v := (nI 1)) (show decode cL_law 557 = .ok (.iconst 1, 1) by decide +kernel) (by decide) ?_
  refine X_iadd (show decode cL_law 558 = .ok (.iadd, 1) by decide +kernel) ?_
  obtain ⟨s90, w⟩ := w
  obtain ⟨s91, w⟩ := w
  refine X_iald (show decode cL_law 559 = .ok (.iaload, 1) by decide +kernel) (isA_eq s90) s91 ?_
  obtain ⟨s102, w⟩ := w
  refine X_vI (rc' := rc0) (rs' := rs0) (as := [.int _]) mv_L_184 (show decode cL_law 560 = .ok (.invokevirtual 184, 3) by decide +kernel) (by decide) (by omega) (by omega) rfl rfl (Nat.le_of_ble_eq_true rfl) (rcvD s102 (by decide) rfl) (kX10_open w) (fun E h hk => hk.elim) (fun r93 h92 w => ?_)
  refine X_istore (ls' := [(0, .ref _), (1, .ref _), (2, .ref _), (3, .ref _), (4, .ref _), (5, .int _), (6, .int _), (7, .int _)]) (show decode cL_law 563 = .ok (.istore 7, 2) by decide +kernel) (by decide) rfl ?_
  refine X_aload_n (j := 2) (show decode cL_law 565 = .ok (.aload_n 2, 1) by decide +kernel) rfl rfl ?_
  obtain ⟨s101, w⟩ := w
  refine X_vI (rc' := rc0) (rs' := rs0) (as := []) mv_L_168 (show decode cL_law 566 = .ok (.invokevirtual 168, 3) by decide +kernel) (by decide) (by omega) (by omega) rfl rfl (Nat.le_of_ble_eq_true rfl) (rcvD s101 (by decide) rfl) (kX10_thrown w) (fun E h hk => hk.elim) (fun r95 h94 w => ?_)
  refine X_iload (j := 6) (show decode cL_law 569 = .ok (.iload 6, 2) by decide +kernel) rfl ?_
  refine X_icmp_eq (tgt := 576) (show decode cL_law 571 = .ok (.if_icmp .eq 5, 3) by decide +kernel) (by decide) ⟨fun c96 => ?_, fun c96 => ?_⟩
  · have w := w.1 c96
    refine X_iload (j := 6) (show decode cL_law 576 = .ok (.iload 6, 2) by decide +kernel) rfl ?_
    refine X_if_ne (tgt := 593) (show decode cL_law 578 = .ok (.ifCond .ne 15, 3) by decide +kernel) (by decide) ⟨fun c97 => ?_, fun c97 => ?_⟩
    · have w := w.1 c97
      refine X_goto (tgt := 2925) (show decode cL_law 593 = .ok (.goto 2332, 3) by decide +kernel) (by decide) ?_
      refine X_iinc (j := 5) (v := _ + (nI 4)) (ls' := [(0, .ref _), (1, .ref _), (2, .ref _), (3, .ref _), (4, .ref _), (5, .int _), (6, .int _), (7, .int _)]) (show decode cL_law 2925 = .ok (.iinc 5 4, 3) by decide +kernel) rfl rfl (Nat.le_of_ble_eq_true rfl) rfl ?_
      refine X_goto (tgt := 28) (show decode cL_law 2928 = .ok (.goto (-2900), 3) by decide +kernel) (by decide) ?_
      refine X_pick (ls' := [(0, .ref _), (1, .ref _), (2, .ref _), (3, .ref _), (4, .ref _), (5, .int _)]) [0, 1, 2, 3, 4, 5] rfl ?_
      exact hc28 _ _ _ _ _ _ _ w
    · have w := w.2 c97
      refine X_aload_n (j := 3) (show decode cL_law 581 = .ok (.aload_n 3, 1) by decide +kernel) rfl rfl ?_
      refine X_iconst (v := (nI 0)) (show decode cL_law 582 = .ok (.iconst 0, 1) by decide +kernel) (by decide) ?_
      obtain ⟨s98, w⟩ := w
      obtain ⟨s99, w⟩ := w
      refine X_lald (show decode cL_law 583 = .ok (.laload, 1) by decide +kernel) (isA_eq s98) s99 ?_
      refine X_iload (j := 7) (show decode cL_law 584 = .ok (.iload 7, 2) by decide +kernel) rfl ?_
      refine X_i2l (show decode cL_law 586 = .ok (.i2l, 1) by decide +kernel) ?_
      refine X_lcmp (show decode cL_law 587 = .ok (.lcmp, 1) by decide +kernel) ?_
      refine X_if_eq (tgt := 593) (show decode cL_law 588 = .ok (.ifCond .eq 5, 3) by decide +kernel) (by decide) ⟨fun c100 => ?_, fun c100 => ?_⟩
      · have w := w.1 c100
        refine X_goto (tgt := 2925) (show decode cL_law 593 = .ok (.goto 2332, 3) by decide +kernel) (by decide) ?_
        refine X_iinc (j := 5) (v := _ + (nI 4)) (ls' := [(0, .ref _), (1, .ref _), (2, .ref _), (3, .ref _), (4, .ref _), (5, .int _), (6, .int _), (7, .int _)]) (show decode cL_law 2925 = .ok (.iinc 5 4, 3) by decide +kernel) rfl rfl (Nat.le_of_ble_eq_true rfl) rfl ?_
        refine X_goto (tgt := 28) (show decode cL_law 2928 = .ok (.goto (-2900), 3) by decide +kernel) (by decide) ?_
        refine X_pick (ls' := [(0, .ref _), (1, .ref _), (2, .ref _), (3, .ref _), (4, .ref _), (5, .int _)]) [0, 1, 2, 3, 4, 5] rfl ?_
        exact hc28 _ _ _ _ _ _ _ w
      · have w := w.2 c100
        refine X_iconst (v := (nI 0)) (show decode cL_law 591 = .ok (.iconst 0, 1) by decide +kernel) (by decide) ?_
        exact X_iret ⟨(show decode cL_law 592 = .ok (.ireturn, 1) by decide +kernel), .boolean, rfl, (by decide)⟩ ⟨_, rfl, w⟩
  · have w := w.2 c96
    refine X_iconst (v := (nI 0)) (show decode cL_law 574 = .ok (.iconst 0, 1) by decide +kernel) (by decide) ?_
    exact X_iret ⟨(show decode cL_law 575 = .ok (.ireturn, 1) by decide +kernel), .boolean, rfl, (by decide)⟩ ⟨_, rfl, w⟩
set_option maxRecDepth 100000 in
set_option maxHeartbeats 4000000 in
theorem kL_law_J650 {rc0 rs0 : Nat} {K : Int32 → AH → Prop} {c28 : Nat → Nat → Nat → Nat → Nat → Int32 → AH → Prop} (hc28 : ∀ x0 x1 x2 x3 x4 x5 h, c28 x0 x1 x2 x3 x4 x5 h → X mL_law 20 (KI K) T0 rc0 rs0 28 [(0, .ref x0), (1, .ref x1), (2, .ref x2), (3, .ref x3), (4, .ref x4), (5, .int x5)] [] h) (x0 : Nat) (x1 : Nat) (x2 : Nat) (x3 : Nat) (x4 : Nat) (x5 : Int32) (y0 : Int64) (y1 : Int64) (h : AH) (w : wL_law_J650 K c28 x0 x1 x2 x3 x4 x5 y0 y1 h) : X mL_law 20 (KI K) T0 rc0 rs0 650 [(0, .ref x0), (1, .ref x1), (2, .ref x2), (3, .ref x3), (4, .ref x4), (5, .int x5)] [.long y1, .long y0] h := by
  unfold wL_law_J650 at w
  refine X_lcmp (show decode cL_law 650 = .ok (.lcmp, 1) by decide +kernel) ?_
  refine X_if_eq (tgt := 656) (show decode cL_law 651 = .ok (.ifCond .eq 5, 3) by decide +kernel) (by decide) ⟨fun c118 => ?_, fun c118 => ?_⟩
  · have w := w.1 c118
    refine X_goto (tgt := 2925) (show decode cL_law 656 = .ok (.goto 2269, 3) by decide +kernel) (by decide) ?_
    refine X_iinc (j := 5) (v := _ + (nI 4)) (ls' := [(0, .ref _), (1, .ref _), (2, .ref _), (3, .ref _), (4, .ref _), (5, .int _)]) (show decode cL_law 2925 = .ok (.iinc 5 4, 3) by decide +kernel) rfl rfl (Nat.le_of_ble_eq_true rfl) rfl ?_
    refine X_goto (tgt := 28) (show decode cL_law 2928 = .ok (.goto (-2900), 3) by decide +kernel) (by decide) ?_
    exact hc28 _ _ _ _ _ _ _ w
  · have w := w.2 c118
    refine X_iconst (v := (nI 0)) (show decode cL_law 654 = .ok (.iconst 0, 1) by decide +kernel) (by decide) ?_
    exact X_iret ⟨(show decode cL_law 655 = .ok (.ireturn, 1) by decide +kernel), .boolean, rfl, (by decide)⟩ ⟨_, rfl, w⟩
set_option maxRecDepth 100000 in
set_option maxHeartbeats 4000000 in
theorem kL_law_J596 {rc0 rs0 : Nat} {K : Int32 → AH → Prop} {c28 : Nat → Nat → Nat → Nat → Nat → Int32 → AH → Prop} (hc28 : ∀ x0 x1 x2 x3 x4 x5 h, c28 x0 x1 x2 x3 x4 x5 h → X mL_law 20 (KI K) T0 rc0 rs0 28 [(0, .ref x0), (1, .ref x1), (2, .ref x2), (3, .ref x3), (4, .ref x4), (5, .int x5)] [] h) (x0 : Nat) (x1 : Nat) (x2 : Nat) (x3 : Nat) (x4 : Nat) (x5 : Int32) (h : AH) (w : wL_law_J596 K c28 x0 x1 x2 x3 x4 x5 h) : X mL_law 20 (KI K) T0 (rc0 + 1) (rs0 + 6) 596 [(0, .ref x0), (1, .ref x1), (2, .ref x2), (3, .ref x3), (4, .ref x4), (5, .int x5)] [] h := by
  unfold wL_law_J596 at w
  refine X_aload_n (j := 1) (show decode cL_law 596 = .ok (.aload_n 1, 1) by decide +kernel) rfl rfl ?_
  refine X_aload_n (j := 0) (show decode cL_law 597 = .ok (.aload_n 0, 1) by decide +kernel) rfl rfl ?_
  refine X_iload (j := 5) (show decode cL_law 598 = .ok (.iload 5, 2) by decide +kernel) rfl ?_
  refine X_iconst (v := (nI 1)) (show decode cL_law 600 = .ok (.iconst 1, 1) by decide +kernel) (by decide) ?_
  refine X_iadd (show decode cL_law 601 = .ok (.iadd, 1) by decide +kernel) ?_
  obtain ⟨s103, w⟩ := w
  obtain ⟨s104, w⟩ := w
  refine X_iald (show decode cL_law 602 = .ok (.iaload, 1) by decide +kernel) (isA_eq s103) s104 ?_
  refine X_aload_n (j := 3) (show decode cL_law 603 = .ok (.aload_n 3, 1) by decide +kernel) rfl rfl ?_
  refine X_sH (rc' := rc0) (rs' := rs0) (as := [.ref _, .int _, .ref _]) msh_L_185 (show decode cL_law 604 = .ok (.invokestatic 185, 3) by decide +kernel) (by decide) (by omega) (by omega) rfl rfl (Nat.le_of_ble_eq_true rfl) (kL_throwPoint w) (fun r106 h105 w => ?_)
  refine X_istore (ls' := [(0, .ref _), (1, .ref _), (2, .ref _), (3, .ref _), (4, .ref _), (5, .int _), (6, .int _)]) (show decode cL_law 607 = .ok (.istore 6, 2) by decide +kernel) (by decide) rfl ?_
  refine X_aload_n (j := 2) (show decode cL_law 609 = .ok (.aload_n 2, 1) by decide +kernel) rfl rfl ?_
  refine X_aload_n (j := 0) (show decode cL_law 610 = .ok (.aload_n 0, 1) by decide +kernel) rfl rfl ?_
  refine X_iload (j := 5) (show decode cL_law 611 = .ok (.iload 5, 2) by decide +kernel) rfl ?_
  refine X_iconst (v := (nI 1)) (show decode cL_law 613 = .ok (.iconst 1, 1) by decide +kernel) (by decide) ?_
  refine X_iadd (show decode cL_law 614 = .ok (.iadd, 1) by decide +kernel) ?_
  obtain ⟨s107, w⟩ := w
  obtain ⟨s108, w⟩ := w
  refine X_iald (show decode cL_law 615 = .ok (.iaload, 1) by decide +kernel) (isA_eq s107) s108 ?_
  obtain ⟨s120, w⟩ := w
  refine X_vI (rc' := rc0) (rs' := rs0) (as := [.int _]) mv_L_187 (show decode cL_law 616 = .ok (.invokevirtual 187, 3) by decide +kernel) (by decide) (by omega) (by omega) rfl rfl (Nat.le_of_ble_eq_true rfl) (rcvD s120 (by decide) rfl) (kX10_throwPoint w) (fun E h hk => hk.elim) (fun r110 h109 w => ?_)
  refine X_istore (ls' := [(0, .ref _), (1, .ref _), (2, .ref _), (3, .ref _), (4, .ref _), (5, .int _), (6, .int _), (7, .int _)]) (show decode cL_law 619 = .ok (.istore 7, 2) by decide +kernel) (by decide) rfl ?_
  refine X_aload_n (j := 2) (show decode cL_law 621 = .ok (.aload_n 2, 1) by decide +kernel) rfl rfl ?_
  obtain ⟨s119, w⟩ := w
  refine X_vI (rc' := rc0) (rs' := rs0) (as := []) mv_L_168 (show decode cL_law 622 = .ok (.invokevirtual 168, 3) by decide +kernel) (by decide) (by omega) (by omega) rfl rfl (Nat.le_of_ble_eq_true rfl) (rcvD s119 (by decide) rfl) (kX10_thrown w) (fun E h hk => hk.elim) (fun r112 h111 w => ?_)
  refine X_iload (j := 6) (show decode cL_law 625 = .ok (.iload 6, 2) by decide +kernel) rfl ?_
  refine X_icmp_eq (tgt := 632) (show decode cL_law 627 = .ok (.if_icmp .eq 5, 3) by decide +kernel) (by decide) ⟨fun c113 => ?_, fun c113 => ?_⟩
  · have w := w.1 c113
    refine X_iload (j := 6) (show decode cL_law 632 = .ok (.iload 6, 2) by decide +kernel) rfl ?_
    refine X_if_ne (tgt := 656) (show decode cL_law 634 = .ok (.ifCond .ne 22, 3) by decide +kernel) (by decide) ⟨fun c114 => ?_, fun c114 => ?_⟩
    · have w := w.1 c114
      refine X_goto (tgt := 2925) (show decode cL_law 656 = .ok (.goto 2269, 3) by decide +kernel) (by decide) ?_
      refine X_iinc (j := 5) (v := _ + (nI 4)) (ls' := [(0, .ref _), (1, .ref _), (2, .ref _), (3, .ref _), (4, .ref _), (5, .int _), (6, .int _), (7, .int _)]) (show decode cL_law 2925 = .ok (.iinc 5 4, 3) by decide +kernel) rfl rfl (Nat.le_of_ble_eq_true rfl) rfl ?_
      refine X_goto (tgt := 28) (show decode cL_law 2928 = .ok (.goto (-2900), 3) by decide +kernel) (by decide) ?_
      refine X_pick (ls' := [(0, .ref _), (1, .ref _), (2, .ref _), (3, .ref _), (4, .ref _), (5, .int _)]) [0, 1, 2, 3, 4, 5] rfl ?_
      exact hc28 _ _ _ _ _ _ _ w
    · have w := w.2 c114
      refine X_aload_n (j := 3) (show decode cL_law 637 = .ok (.aload_n 3, 1) by decide +kernel) rfl rfl ?_
      refine X_iconst (v := (nI 0)) (show decode cL_law 638 = .ok (.iconst 0, 1) by decide +kernel) (by decide) ?_
      obtain ⟨s115, w⟩ := w
      obtain ⟨s116, w⟩ := w
      refine X_lald (show decode cL_law 639 = .ok (.laload, 1) by decide +kernel) (isA_eq s115) s116 ?_
      refine X_iload (j := 7) (show decode cL_law 640 = .ok (.iload 7, 2) by decide +kernel) rfl ?_
      refine X_if_eq (tgt := 649) (show decode cL_law 642 = .ok (.ifCond .eq 7, 3) by decide +kernel) (by decide) ⟨fun c117 => ?_, fun c117 => ?_⟩
      · have w := w.1 c117
        refine X_lconst (v := 0) (show decode cL_law 649 = .ok (.lconst 0, 1) by decide +kernel) (by decide) ?_
        refine X_pick (ls' := [(0, .ref _), (1, .ref _), (2, .ref _), (3, .ref _), (4, .ref _), (5, .int _)]) [0, 1, 2, 3, 4, 5] rfl ?_
        exact kL_law_J650 hc28 _ _ _ _ _ _ _ _ _ w
      · have w := w.2 c117
        refine X_lconst (v := 1) (show decode cL_law 645 = .ok (.lconst 1, 1) by decide +kernel) (by decide) ?_
        refine X_goto (tgt := 650) (show decode cL_law 646 = .ok (.goto 4, 3) by decide +kernel) (by decide) ?_
        refine X_pick (ls' := [(0, .ref _), (1, .ref _), (2, .ref _), (3, .ref _), (4, .ref _), (5, .int _)]) [0, 1, 2, 3, 4, 5] rfl ?_
        exact kL_law_J650 hc28 _ _ _ _ _ _ _ _ _ w
  · have w := w.2 c113
    refine X_iconst (v := (nI 0)) (show decode cL_law 630 = .ok (.iconst 0, 1) by decide +kernel) (by decide) ?_
    exact X_iret ⟨(show decode cL_law 631 = .ok (.ireturn, 1) by decide +kernel), .boolean, rfl, (by decide)⟩ ⟨_, rfl, w⟩
set_option maxRecDepth 100000 in
set_option maxHeartbeats 4000000 in
theorem kL_law_J659 {rc0 rs0 : Nat} {K : Int32 → AH → Prop} {c28 : Nat → Nat → Nat → Nat → Nat → Int32 → AH → Prop} (hc28 : ∀ x0 x1 x2 x3 x4 x5 h, c28 x0 x1 x2 x3 x4 x5 h → X mL_law 20 (KI K) T0 rc0 rs0 28 [(0, .ref x0), (1, .ref x1), (2, .ref x2), (3, .ref x3), (4, .ref x4), (5, .int x5)] [] h) (x0 : Nat) (x1 : Nat) (x2 : Nat) (x3 : Nat) (x4 : Nat) (x5 : Int32) (h : AH) (w : wL_law_J659 K c28 x0 x1 x2 x3 x4 x5 h) : X mL_law 20 (KI K) T0 (rc0 + 1) (rs0 + 6) 659 [(0, .ref x0), (1, .ref x1), (2, .ref x2), (3, .ref x3), (4, .ref x4), (5, .int x5)] [] h := by
  unfold wL_law_J659 at w
  refine X_aload_n (j := 1) (show decode cL_law 659 = .ok (.aload_n 1, 1) by decide +kernel) rfl rfl ?_
  refine X_aload_n (j := 0) (show decode cL_law 660 = .ok (.aload_n 0, 1) by decide +kernel) rfl rfl ?_
  refine X_iload (j := 5) (show decode cL_law 661 = .ok (.iload 5, 2) by decide +kernel) rfl ?_
  refine X_iconst (v := (nI 1)) (show decode cL_law 663 = .ok (.iconst 1, 1) by decide +kernel) (by decide) ?_
  refine X_iadd (show decode cL_law 664 = .ok (.iadd, 1) by decide +kernel) ?_
  obtain ⟨s121, w⟩ := w
  obtain ⟨s122, w⟩ := w
  refine X_iald (show decode cL_law 665 = .ok (.iaload, 1) by decide +kernel) (isA_eq s121) s122 ?_
  refine X_aload_n (j := 0) (show decode cL_law 666 = .ok (.aload_n 0, 1) by decide +kernel) rfl rfl ?_
  refine X_iload (j := 5) (show decode cL_law 667 = .ok (.iload 5, 2) by decide +kernel) rfl ?_
  refine X_iconst (v := (nI 2)) (show decode cL_law 669 = .ok (.iconst 2, 1) by decide +kernel) (by decide) ?_
  refine X_iadd (show decode cL_law 670 = .ok (.iadd, 1) by decide +kernel) ?_
  obtain ⟨s123, w⟩ := w
  refine X_iald (show decode cL_law 671 = .ok (.iaload, 1) by decide +kernel) (isA_eq s121) s123 ?_
  refine X_aload_n (j := 3) (show decode cL_law 672 = .ok (.aload_n 3, 1) by decide +kernel) rfl rfl ?_
  refine X_sH (rc' := rc0) (rs' := rs0) (as := [.ref _, .int _, .int _, .ref _]) msh_L_188 (show decode cL_law 673 = .ok (.invokestatic 188, 3) by decide +kernel) (by decide) (by omega) (by omega) rfl rfl (Nat.le_of_ble_eq_true rfl) (kL_addTrain w) (fun r125 h124 w => ?_)
  refine X_istore (ls' := [(0, .ref _), (1, .ref _), (2, .ref _), (3, .ref _), (4, .ref _), (5, .int _), (6, .int _)]) (show decode cL_law 676 = .ok (.istore 6, 2) by decide +kernel) (by decide) rfl ?_
  refine X_aload_n (j := 2) (show decode cL_law 678 = .ok (.aload_n 2, 1) by decide +kernel) rfl rfl ?_
  refine X_aload_n (j := 0) (show decode cL_law 679 = .ok (.aload_n 0, 1) by decide +kernel) rfl rfl ?_
  refine X_iload (j := 5) (show decode cL_law 680 = .ok (.iload 5, 2) by decide +kernel) rfl ?_
  refine X_iconst (v := (nI 1)) (show decode cL_law 682 = .ok (.iconst 1, 1) by decide +kernel) (by decide) ?_
  refine X_iadd (show decode cL_law 683 = .ok (.iadd, 1) by decide +kernel) ?_
  obtain ⟨s126, w⟩ := w
  obtain ⟨s127, w⟩ := w
  refine X_iald (show decode cL_law 684 = .ok (.iaload, 1) by decide +kernel) (isA_eq s126) s127 ?_
  refine X_aload_n (j := 0) (show decode cL_law 685 = .ok (.aload_n 0, 1) by decide +kernel) rfl rfl ?_
  refine X_iload (j := 5) (show decode cL_law 686 = .ok (.iload 5, 2) by decide +kernel) rfl ?_
  refine X_iconst (v := (nI 2)) (show decode cL_law 688 = .ok (.iconst 2, 1) by decide +kernel) (by decide) ?_
  refine X_iadd (show decode cL_law 689 = .ok (.iadd, 1) by decide +kernel) ?_
  obtain ⟨s128, w⟩ := w
  refine X_iald (show decode cL_law 690 = .ok (.iaload, 1) by decide +kernel) (isA_eq s126) s128 ?_
  obtain ⟨s139, w⟩ := w
  refine X_vI (rc' := rc0) (rs' := rs0) (as := [.int _, .int _]) mv_L_190 (show decode cL_law 691 = .ok (.invokevirtual 190, 3) by decide +kernel) (by decide) (by omega) (by omega) rfl rfl (Nat.le_of_ble_eq_true rfl) (rcvD s139 (by decide) rfl) (kX10_addTrain w) (fun E h hk => hk.elim) (fun r130 h129 w => ?_)
  refine X_istore (ls' := [(0, .ref _), (1, .ref _), (2, .ref _), (3, .ref _), (4, .ref _), (5, .int _), (6, .int _), (7, .int _)]) (show decode cL_law 694 = .ok (.istore 7, 2) by decide +kernel) (by decide) rfl ?_
  refine X_aload_n (j := 2) (show decode cL_law 696 = .ok (.aload_n 2, 1) by decide +kernel) rfl rfl ?_
  obtain ⟨s138, w⟩ := w
  refine X_vI (rc' := rc0) (rs' := rs0) (as := []) mv_L_168 (show decode cL_law 697 = .ok (.invokevirtual 168, 3) by decide +kernel) (by decide) (by omega) (by omega) rfl rfl (Nat.le_of_ble_eq_true rfl) (rcvD s138 (by decide) rfl) (kX10_thrown w) (fun E h hk => hk.elim) (fun r132 h131 w => ?_)
  refine X_iload (j := 6) (show decode cL_law 700 = .ok (.iload 6, 2) by decide +kernel) rfl ?_
  refine X_icmp_eq (tgt := 707) (show decode cL_law 702 = .ok (.if_icmp .eq 5, 3) by decide +kernel) (by decide) ⟨fun c133 => ?_, fun c133 => ?_⟩
  · have w := w.1 c133
    refine X_iload (j := 6) (show decode cL_law 707 = .ok (.iload 6, 2) by decide +kernel) rfl ?_
    refine X_if_ne (tgt := 724) (show decode cL_law 709 = .ok (.ifCond .ne 15, 3) by decide +kernel) (by decide) ⟨fun c134 => ?_, fun c134 => ?_⟩
    · have w := w.1 c134
      refine X_goto (tgt := 2925) (show decode cL_law 724 = .ok (.goto 2201, 3) by decide +kernel) (by decide) ?_
      refine X_iinc (j := 5) (v := _ + (nI 4)) (ls' := [(0, .ref _), (1, .ref _), (2, .ref _), (3, .ref _), (4, .ref _), (5, .int _), (6, .int _), (7, .int _)]) (show decode cL_law 2925 = .ok (.iinc 5 4, 3) by decide +kernel) rfl rfl (Nat.le_of_ble_eq_true rfl) rfl ?_
      refine X_goto (tgt := 28) (show decode cL_law 2928 = .ok (.goto (-2900), 3) by decide +kernel) (by decide) ?_
      refine X_pick (ls' := [(0, .ref _), (1, .ref _), (2, .ref _), (3, .ref _), (4, .ref _), (5, .int _)]) [0, 1, 2, 3, 4, 5] rfl ?_
      exact hc28 _ _ _ _ _ _ _ w
    · have w := w.2 c134
      refine X_aload_n (j := 3) (show decode cL_law 712 = .ok (.aload_n 3, 1) by decide +kernel) rfl rfl ?_
      refine X_iconst (v := (nI 0)) (show decode cL_law 713 = .ok (.iconst 0, 1) by decide +kernel) (by decide) ?_
      obtain ⟨s135, w⟩ := w
      obtain ⟨s136, w⟩ := w
      refine X_lald (show decode cL_law 714 = .ok (.laload, 1) by decide +kernel) (isA_eq s135) s136 ?_
      refine X_iload (j := 7) (show decode cL_law 715 = .ok (.iload 7, 2) by decide +kernel) rfl ?_
      refine X_i2l (show decode cL_law 717 = .ok (.i2l, 1) by decide +kernel) ?_
      refine X_lcmp (show decode cL_law 718 = .ok (.lcmp, 1) by decide +kernel) ?_
      refine X_if_eq (tgt := 724) (show decode cL_law 719 = .ok (.ifCond .eq 5, 3) by decide +kernel) (by decide) ⟨fun c137 => ?_, fun c137 => ?_⟩
      · have w := w.1 c137
        refine X_goto (tgt := 2925) (show decode cL_law 724 = .ok (.goto 2201, 3) by decide +kernel) (by decide) ?_
        refine X_iinc (j := 5) (v := _ + (nI 4)) (ls' := [(0, .ref _), (1, .ref _), (2, .ref _), (3, .ref _), (4, .ref _), (5, .int _), (6, .int _), (7, .int _)]) (show decode cL_law 2925 = .ok (.iinc 5 4, 3) by decide +kernel) rfl rfl (Nat.le_of_ble_eq_true rfl) rfl ?_
        refine X_goto (tgt := 28) (show decode cL_law 2928 = .ok (.goto (-2900), 3) by decide +kernel) (by decide) ?_
        refine X_pick (ls' := [(0, .ref _), (1, .ref _), (2, .ref _), (3, .ref _), (4, .ref _), (5, .int _)]) [0, 1, 2, 3, 4, 5] rfl ?_
        exact hc28 _ _ _ _ _ _ _ w
      · have w := w.2 c137
        refine X_iconst (v := (nI 0)) (show decode cL_law 722 = .ok (.iconst 0, 1) by decide +kernel) (by decide) ?_
        exact X_iret ⟨(show decode cL_law 723 = .ok (.ireturn, 1) by decide +kernel), .boolean, rfl, (by decide)⟩ ⟨_, rfl, w⟩
  · have w := w.2 c133
    refine X_iconst (v := (nI 0)) (show decode cL_law 705 = .ok (.iconst 0, 1) by decide +kernel) (by decide) ?_
    exact X_iret ⟨(show decode cL_law 706 = .ok (.ireturn, 1) by decide +kernel), .boolean, rfl, (by decide)⟩ ⟨_, rfl, w⟩
set_option maxRecDepth 100000 in
set_option maxHeartbeats 4000000 in
theorem kL_law_J727 {rc0 rs0 : Nat} {K : Int32 → AH → Prop} {c28 : Nat → Nat → Nat → Nat → Nat → Int32 → AH → Prop} (hc28 : ∀ x0 x1 x2 x3 x4 x5 h, c28 x0 x1 x2 x3 x4 x5 h → X mL_law 20 (KI K) T0 rc0 rs0 28 [(0, .ref x0), (1, .ref x1), (2, .ref x2), (3, .ref x3), (4, .ref x4), (5, .int x5)] [] h) (x0 : Nat) (x1 : Nat) (x2 : Nat) (x3 : Nat) (x4 : Nat) (x5 : Int32) (h : AH) (w : wL_law_J727 K c28 x0 x1 x2 x3 x4 x5 h) : X mL_law 20 (KI K) T0 (rc0 + 1) (rs0 + 6) 727 [(0, .ref x0), (1, .ref x1), (2, .ref x2), (3, .ref x3), (4, .ref x4), (5, .int x5)] [] h := by
  unfold wL_law_J727 at w
  refine X_aload_n (j := 1) (show decode cL_law 727 = .ok (.aload_n 1, 1) by decide +kernel) rfl rfl ?_
  refine X_aload_n (j := 0) (show decode cL_law 728 = .ok (.aload_n 0, 1) by decide +kernel) rfl rfl ?_
  refine X_iload (j := 5) (show decode cL_law 729 = .ok (.iload 5, 2) by decide +kernel) rfl ?_
  refine X_iconst (v := (nI 1)) (show decode cL_law 731 = .ok (.iconst 1, 1) by decide +kernel) (by decide) ?_
  refine X_iadd (show decode cL_law 732 = .ok (.iadd, 1) by decide +kernel) ?_
  obtain ⟨s140, w⟩ := w
  obtain ⟨s141, w⟩ := w
  refine X_iald (show decode cL_law 733 = .ok (.iaload, 1) by decide +kernel) (isA_eq s140) s141 ?_
  refine X_aload_n (j := 3) (show decode cL_law 734 = .ok (.aload_n 3, 1) by decide +kernel) rfl rfl ?_
  refine X_sH (rc' := rc0) (rs' := rs0) (as := [.ref _, .int _, .ref _]) msh_L_191 (show decode cL_law 735 = .ok (.invokestatic 191, 3) by decide +kernel) (by decide) (by omega) (by omega) rfl rfl (Nat.le_of_ble_eq_true rfl) (kL_setRoute w) (fun r143 h142 w => ?_)
  refine X_istore (ls' := [(0, .ref _), (1, .ref _), (2, .ref _), (3, .ref _), (4, .ref _), (5, .int _), (6, .int _)]) (show decode cL_law 738 = .ok (.istore 6, 2) by decide +kernel) (by decide) rfl ?_
  refine X_aload_n (j := 2) (show decode cL_law 740 = .ok (.aload_n 2, 1) by decide +kernel) rfl rfl ?_
  refine X_aload_n (j := 0) (show decode cL_law 741 = .ok (.aload_n 0, 1) by decide +kernel) rfl rfl ?_
  refine X_iload (j := 5) (show decode cL_law 742 = .ok (.iload 5, 2) by decide +kernel) rfl ?_
  refine X_iconst (v := (nI 1)) (show decode cL_law 744 = .ok (.iconst 1, 1) by decide +kernel) (by decide) ?_
  refine X_iadd (show decode cL_law 745 = .ok (.iadd, 1) by decide +kernel) ?_
  obtain ⟨s144, w⟩ := w
  obtain ⟨s145, w⟩ := w
  refine X_iald (show decode cL_law 746 = .ok (.iaload, 1) by decide +kernel) (isA_eq s144) s145 ?_
  obtain ⟨s156, w⟩ := w
  refine X_vI (rc' := rc0) (rs' := rs0) (as := [.int _]) mv_L_193 (show decode cL_law 747 = .ok (.invokevirtual 193, 3) by decide +kernel) (by decide) (by omega) (by omega) rfl rfl (Nat.le_of_ble_eq_true rfl) (rcvD s156 (by decide) rfl) (kX10_setRoute w) (fun E h hk => hk.elim) (fun r147 h146 w => ?_)
  refine X_istore (ls' := [(0, .ref _), (1, .ref _), (2, .ref _), (3, .ref _), (4, .ref _), (5, .int _), (6, .int _), (7, .int _)]) (show decode cL_law 750 = .ok (.istore 7, 2) by decide +kernel) (by decide) rfl ?_
  refine X_aload_n (j := 2) (show decode cL_law 752 = .ok (.aload_n 2, 1) by decide +kernel) rfl rfl ?_
  obtain ⟨s155, w⟩ := w
  refine X_vI (rc' := rc0) (rs' := rs0) (as := []) mv_L_168 (show decode cL_law 753 = .ok (.invokevirtual 168, 3) by decide +kernel) (by decide) (by omega) (by omega) rfl rfl (Nat.le_of_ble_eq_true rfl) (rcvD s155 (by decide) rfl) (kX10_thrown w) (fun E h hk => hk.elim) (fun r149 h148 w => ?_)
  refine X_iload (j := 6) (show decode cL_law 756 = .ok (.iload 6, 2) by decide +kernel) rfl ?_
  refine X_icmp_eq (tgt := 763) (show decode cL_law 758 = .ok (.if_icmp .eq 5, 3) by decide +kernel) (by decide) ⟨fun c150 => ?_, fun c150 => ?_⟩
  · have w := w.1 c150
    refine X_iload (j := 6) (show decode cL_law 763 = .ok (.iload 6, 2) by decide +kernel) rfl ?_
    refine X_if_ne (tgt := 780) (show decode cL_law 765 = .ok (.ifCond .ne 15, 3) by decide +kernel) (by decide) ⟨fun c151 => ?_, fun c151 => ?_⟩
    · have w := w.1 c151
      refine X_goto (tgt := 2925) (show decode cL_law 780 = .ok (.goto 2145, 3) by decide +kernel) (by decide) ?_
      refine X_iinc (j := 5) (v := _ + (nI 4)) (ls' := [(0, .ref _), (1, .ref _), (2, .ref _), (3, .ref _), (4, .ref _), (5, .int _), (6, .int _), (7, .int _)]) (show decode cL_law 2925 = .ok (.iinc 5 4, 3) by decide +kernel) rfl rfl (Nat.le_of_ble_eq_true rfl) rfl ?_
      refine X_goto (tgt := 28) (show decode cL_law 2928 = .ok (.goto (-2900), 3) by decide +kernel) (by decide) ?_
      refine X_pick (ls' := [(0, .ref _), (1, .ref _), (2, .ref _), (3, .ref _), (4, .ref _), (5, .int _)]) [0, 1, 2, 3, 4, 5] rfl ?_
      exact hc28 _ _ _ _ _ _ _ w
    · have w := w.2 c151
      refine X_aload_n (j := 3) (show decode cL_law 768 = .ok (.aload_n 3, 1) by decide +kernel) rfl rfl ?_
      refine X_iconst (v := (nI 0)) (show decode cL_law 769 = .ok (.iconst 0, 1) by decide +kernel) (by decide) ?_
      obtain ⟨s152, w⟩ := w
      obtain ⟨s153, w⟩ := w
      refine X_lald (show decode cL_law 770 = .ok (.laload, 1) by decide +kernel) (isA_eq s152) s153 ?_
      refine X_iload (j := 7) (show decode cL_law 771 = .ok (.iload 7, 2) by decide +kernel) rfl ?_
      refine X_i2l (show decode cL_law 773 = .ok (.i2l, 1) by decide +kernel) ?_
      refine X_lcmp (show decode cL_law 774 = .ok (.lcmp, 1) by decide +kernel) ?_
      refine X_if_eq (tgt := 780) (show decode cL_law 775 = .ok (.ifCond .eq 5, 3) by decide +kernel) (by decide) ⟨fun c154 => ?_, fun c154 => ?_⟩
      · have w := w.1 c154
        refine X_goto (tgt := 2925) (show decode cL_law 780 = .ok (.goto 2145, 3) by decide +kernel) (by decide) ?_
        refine X_iinc (j := 5) (v := _ + (nI 4)) (ls' := [(0, .ref _), (1, .ref _), (2, .ref _), (3, .ref _), (4, .ref _), (5, .int _), (6, .int _), (7, .int _)]) (show decode cL_law 2925 = .ok (.iinc 5 4, 3) by decide +kernel) rfl rfl (Nat.le_of_ble_eq_true rfl) rfl ?_
        refine X_goto (tgt := 28) (show decode cL_law 2928 = .ok (.goto (-2900), 3) by decide +kernel) (by decide) ?_
        refine X_pick (ls' := [(0, .ref _), (1, .ref _), (2, .ref _), (3, .ref _), (4, .ref _), (5, .int _)]) [0, 1, 2, 3, 4, 5] rfl ?_
        exact hc28 _ _ _ _ _ _ _ w
      · have w := w.2 c154
        refine X_iconst (v := (nI 0)) (show decode cL_law 778 = .ok (.iconst 0, 1) by decide +kernel) (by decide) ?_
        exact X_iret ⟨(show decode cL_law 779 = .ok (.ireturn, 1) by decide +kernel), .boolean, rfl, (by decide)⟩ ⟨_, rfl, w⟩
  · have w := w.2 c150
    refine X_iconst (v := (nI 0)) (show decode cL_law 761 = .ok (.iconst 0, 1) by decide +kernel) (by decide) ?_
    exact X_iret ⟨(show decode cL_law 762 = .ok (.ireturn, 1) by decide +kernel), .boolean, rfl, (by decide)⟩ ⟨_, rfl, w⟩
set_option maxRecDepth 100000 in
set_option maxHeartbeats 4000000 in
theorem kL_law_J783 {rc0 rs0 : Nat} {K : Int32 → AH → Prop} {c28 : Nat → Nat → Nat → Nat → Nat → Int32 → AH → Prop} (hc28 : ∀ x0 x1 x2 x3 x4 x5 h, c28 x0 x1 x2 x3 x4 x5 h → X mL_law 20 (KI K) T0 rc0 rs0 28 [(0, .ref x0), (1, .ref x1), (2, .ref x2), (3, .ref x3), (4, .ref x4), (5, .int x5)] [] h) (x0 : Nat) (x1 : Nat) (x2 : Nat) (x3 : Nat) (x4 : Nat) (x5 : Int32) (h : AH) (w : wL_law_J783 K c28 x0 x1 x2 x3 x4 x5 h) : X mL_law 20 (KI K) T0 (rc0 + 1) (rs0 + 6) 783 [(0, .ref x0), (1, .ref x1), (2, .ref x2), (3, .ref x3), (4, .ref x4), (5, .int x5)] [] h := by
  unfold wL_law_J783 at w
  refine X_aload_n (j := 1) (show decode cL_law 783 = .ok (.aload_n 1, 1) by decide +kernel) rfl rfl ?_
  refine X_aload_n (j := 0) (show decode cL_law 784 = .ok (.aload_n 0, 1) by decide +kernel) rfl rfl ?_
  refine X_iload (j := 5) (show decode cL_law 785 = .ok (.iload 5, 2) by decide +kernel) rfl ?_
  refine X_iconst (v := (nI 1)) (show decode cL_law 787 = .ok (.iconst 1, 1) by decide +kernel) (by decide) ?_
  refine X_iadd (show decode cL_law 788 = .ok (.iadd, 1) by decide +kernel) ?_
  obtain ⟨s157, w⟩ := w
  obtain ⟨s158, w⟩ := w
  refine X_iald (show decode cL_law 789 = .ok (.iaload, 1) by decide +kernel) (isA_eq s157) s158 ?_
  refine X_aload_n (j := 3) (show decode cL_law 790 = .ok (.aload_n 3, 1) by decide +kernel) rfl rfl ?_
  refine X_sH (rc' := rc0) (rs' := rs0) (as := [.ref _, .int _, .ref _]) msh_L_194 (show decode cL_law 791 = .ok (.invokestatic 194, 3) by decide +kernel) (by decide) (by omega) (by omega) rfl rfl (Nat.le_of_ble_eq_true rfl) (kL_releaseRoute w) (fun r160 h159 w => ?_)
  refine X_istore (ls' := [(0, .ref _), (1, .ref _), (2, .ref _), (3, .ref _), (4, .ref _), (5, .int _), (6, .int _)]) (show decode cL_law 794 = .ok (.istore 6, 2) by decide +kernel) (by decide) rfl ?_
  refine X_aload_n (j := 2) (show decode cL_law 796 = .ok (.aload_n 2, 1) by decide +kernel) rfl rfl ?_
  refine X_aload_n (j := 0) (show decode cL_law 797 = .ok (.aload_n 0, 1) by decide +kernel) rfl rfl ?_
  refine X_iload (j := 5) (show decode cL_law 798 = .ok (.iload 5, 2) by decide +kernel) rfl ?_
  refine X_iconst (v := (nI 1)) (show decode cL_law 800 = .ok (.iconst 1, 1) by decide +kernel) (by decide) ?_
  refine X_iadd (show decode cL_law 801 = .ok (.iadd, 1) by decide +kernel) ?_
  obtain ⟨s161, w⟩ := w
  obtain ⟨s162, w⟩ := w
  refine X_iald (show decode cL_law 802 = .ok (.iaload, 1) by decide +kernel) (isA_eq s161) s162 ?_
  obtain ⟨s173, w⟩ := w
  refine X_vI (rc' := rc0) (rs' := rs0) (as := [.int _]) mv_L_196 (show decode cL_law 803 = .ok (.invokevirtual 196, 3) by decide +kernel) (by decide) (by omega) (by omega) rfl rfl (Nat.le_of_ble_eq_true rfl) (rcvD s173 (by decide) rfl) (kX10_releaseRoute w) (fun E h hk => hk.elim) (fun r164 h163 w => ?_)
  refine X_istore (ls' := [(0, .ref _), (1, .ref _), (2, .ref _), (3, .ref _), (4, .ref _), (5, .int _), (6, .int _), (7, .int _)]) (show decode cL_law 806 = .ok (.istore 7, 2) by decide +kernel) (by decide) rfl ?_
  refine X_aload_n (j := 2) (show decode cL_law 808 = .ok (.aload_n 2, 1) by decide +kernel) rfl rfl ?_
  obtain ⟨s172, w⟩ := w
  refine X_vI (rc' := rc0) (rs' := rs0) (as := []) mv_L_168 (show decode cL_law 809 = .ok (.invokevirtual 168, 3) by decide +kernel) (by decide) (by omega) (by omega) rfl rfl (Nat.le_of_ble_eq_true rfl) (rcvD s172 (by decide) rfl) (kX10_thrown w) (fun E h hk => hk.elim) (fun r166 h165 w => ?_)
  refine X_iload (j := 6) (show decode cL_law 812 = .ok (.iload 6, 2) by decide +kernel) rfl ?_
  refine X_icmp_eq (tgt := 819) (show decode cL_law 814 = .ok (.if_icmp .eq 5, 3) by decide +kernel) (by decide) ⟨fun c167 => ?_, fun c167 => ?_⟩
  · have w := w.1 c167
    refine X_iload (j := 6) (show decode cL_law 819 = .ok (.iload 6, 2) by decide +kernel) rfl ?_
    refine X_if_ne (tgt := 836) (show decode cL_law 821 = .ok (.ifCond .ne 15, 3) by decide +kernel) (by decide) ⟨fun c168 => ?_, fun c168 => ?_⟩
    · have w := w.1 c168
      refine X_goto (tgt := 2925) (show decode cL_law 836 = .ok (.goto 2089, 3) by decide +kernel) (by decide) ?_
      refine X_iinc (j := 5) (v := _ + (nI 4)) (ls' := [(0, .ref _), (1, .ref _), (2, .ref _), (3, .ref _), (4, .ref _), (5, .int _), (6, .int _), (7, .int _)]) (show decode cL_law 2925 = .ok (.iinc 5 4, 3) by decide +kernel) rfl rfl (Nat.le_of_ble_eq_true rfl) rfl ?_
      refine X_goto (tgt := 28) (show decode cL_law 2928 = .ok (.goto (-2900), 3) by decide +kernel) (by decide) ?_
      refine X_pick (ls' := [(0, .ref _), (1, .ref _), (2, .ref _), (3, .ref _), (4, .ref _), (5, .int _)]) [0, 1, 2, 3, 4, 5] rfl ?_
      exact hc28 _ _ _ _ _ _ _ w
    · have w := w.2 c168
      refine X_aload_n (j := 3) (show decode cL_law 824 = .ok (.aload_n 3, 1) by decide +kernel) rfl rfl ?_
      refine X_iconst (v := (nI 0)) (show decode cL_law 825 = .ok (.iconst 0, 1) by decide +kernel) (by decide) ?_
      obtain ⟨s169, w⟩ := w
      obtain ⟨s170, w⟩ := w
      refine X_lald (show decode cL_law 826 = .ok (.laload, 1) by decide +kernel) (isA_eq s169) s170 ?_
      refine X_iload (j := 7) (show decode cL_law 827 = .ok (.iload 7, 2) by decide +kernel) rfl ?_
      refine X_i2l (show decode cL_law 829 = .ok (.i2l, 1) by decide +kernel) ?_
      refine X_lcmp (show decode cL_law 830 = .ok (.lcmp, 1) by decide +kernel) ?_
      refine X_if_eq (tgt := 836) (show decode cL_law 831 = .ok (.ifCond .eq 5, 3) by decide +kernel) (by decide) ⟨fun c171 => ?_, fun c171 => ?_⟩
      · have w := w.1 c171
        refine X_goto (tgt := 2925) (show decode cL_law 836 = .ok (.goto 2089, 3) by decide +kernel) (by decide) ?_
        refine X_iinc (j := 5) (v := _ + (nI 4)) (ls' := [(0, .ref _), (1, .ref _), (2, .ref _), (3, .ref _), (4, .ref _), (5, .int _), (6, .int _), (7, .int _)]) (show decode cL_law 2925 = .ok (.iinc 5 4, 3) by decide +kernel) rfl rfl (Nat.le_of_ble_eq_true rfl) rfl ?_
        refine X_goto (tgt := 28) (show decode cL_law 2928 = .ok (.goto (-2900), 3) by decide +kernel) (by decide) ?_
        refine X_pick (ls' := [(0, .ref _), (1, .ref _), (2, .ref _), (3, .ref _), (4, .ref _), (5, .int _)]) [0, 1, 2, 3, 4, 5] rfl ?_
        exact hc28 _ _ _ _ _ _ _ w
      · have w := w.2 c171
        refine X_iconst (v := (nI 0)) (show decode cL_law 834 = .ok (.iconst 0, 1) by decide +kernel) (by decide) ?_
        exact X_iret ⟨(show decode cL_law 835 = .ok (.ireturn, 1) by decide +kernel), .boolean, rfl, (by decide)⟩ ⟨_, rfl, w⟩
  · have w := w.2 c167
    refine X_iconst (v := (nI 0)) (show decode cL_law 817 = .ok (.iconst 0, 1) by decide +kernel) (by decide) ?_
    exact X_iret ⟨(show decode cL_law 818 = .ok (.ireturn, 1) by decide +kernel), .boolean, rfl, (by decide)⟩ ⟨_, rfl, w⟩
set_option maxRecDepth 100000 in
set_option maxHeartbeats 4000000 in
theorem kL_law_J839 {rc0 rs0 : Nat} {K : Int32 → AH → Prop} {c28 : Nat → Nat → Nat → Nat → Nat → Int32 → AH → Prop} (hc28 : ∀ x0 x1 x2 x3 x4 x5 h, c28 x0 x1 x2 x3 x4 x5 h → X mL_law 20 (KI K) T0 rc0 rs0 28 [(0, .ref x0), (1, .ref x1), (2, .ref x2), (3, .ref x3), (4, .ref x4), (5, .int x5)] [] h) (x0 : Nat) (x1 : Nat) (x2 : Nat) (x3 : Nat) (x4 : Nat) (x5 : Int32) (h : AH) (w : wL_law_J839 K c28 x0 x1 x2 x3 x4 x5 h) : X mL_law 20 (KI K) T0 (rc0 + 1) (rs0 + 6) 839 [(0, .ref x0), (1, .ref x1), (2, .ref x2), (3, .ref x3), (4, .ref x4), (5, .int x5)] [] h := by
  unfold wL_law_J839 at w
  refine X_aload_n (j := 1) (show decode cL_law 839 = .ok (.aload_n 1, 1) by decide +kernel) rfl rfl ?_
  refine X_aload_n (j := 0) (show decode cL_law 840 = .ok (.aload_n 0, 1) by decide +kernel) rfl rfl ?_
  refine X_iload (j := 5) (show decode cL_law 841 = .ok (.iload 5, 2) by decide +kernel) rfl ?_
  refine X_iconst (v := (nI 1)) (show decode cL_law 843 = .ok (.iconst 1, 1) by decide +kernel) (by decide) ?_
  refine X_iadd (show decode cL_law 844 = .ok (.iadd, 1) by decide +kernel) ?_
  obtain ⟨s174, w⟩ := w
  obtain ⟨s175, w⟩ := w
  refine X_iald (show decode cL_law 845 = .ok (.iaload, 1) by decide +kernel) (isA_eq s174) s175 ?_
  refine X_aload_n (j := 3) (show decode cL_law 846 = .ok (.aload_n 3, 1) by decide +kernel) rfl rfl ?_
  refine X_sH (rc' := rc0) (rs' := rs0) (as := [.ref _, .int _, .ref _]) msh_L_197 (show decode cL_law 847 = .ok (.invokestatic 197, 3) by decide +kernel) (by decide) (by omega) (by omega) rfl rfl (Nat.le_of_ble_eq_true rfl) (kL_pass w) (fun r177 h176 w => ?_)
  refine X_istore (ls' := [(0, .ref _), (1, .ref _), (2, .ref _), (3, .ref _), (4, .ref _), (5, .int _), (6, .int _)]) (show decode cL_law 850 = .ok (.istore 6, 2) by decide +kernel) (by decide) rfl ?_
  refine X_aload_n (j := 2) (show decode cL_law 852 = .ok (.aload_n 2, 1) by decide +kernel) rfl rfl ?_
  refine X_aload_n (j := 0) (show decode cL_law 853 = .ok (.aload_n 0, 1) by decide +kernel) rfl rfl ?_
  refine X_iload (j := 5) (show decode cL_law 854 = .ok (.iload 5, 2) by decide +kernel) rfl ?_
  refine X_iconst (v := (nI 1)) (show decode cL_law 856 = .ok (.iconst 1, 1) by decide +kernel) (by decide) ?_
  refine X_iadd (show decode cL_law 857 = .ok (.iadd, 1) by decide +kernel) ?_
  obtain ⟨s178, w⟩ := w
  obtain ⟨s179, w⟩ := w
  refine X_iald (show decode cL_law 858 = .ok (.iaload, 1) by decide +kernel) (isA_eq s178) s179 ?_
  obtain ⟨s190, w⟩ := w
  refine X_vI (rc' := rc0) (rs' := rs0) (as := [.int _]) mv_L_199 (show decode cL_law 859 = .ok (.invokevirtual 199, 3) by decide +kernel) (by decide) (by omega) (by omega) rfl rfl (Nat.le_of_ble_eq_true rfl) (rcvD s190 (by decide) rfl) (kX10_pass w) (fun E h hk => hk.elim) (fun r181 h180 w => ?_)
  refine X_istore (ls' := [(0, .ref _), (1, .ref _), (2, .ref _), (3, .ref _), (4, .ref _), (5, .int _), (6, .int _), (7, .int _)]) (show decode cL_law 862 = .ok (.istore 7, 2) by decide +kernel) (by decide) rfl ?_
  refine X_aload_n (j := 2) (show decode cL_law 864 = .ok (.aload_n 2, 1) by decide +kernel) rfl rfl ?_
  obtain ⟨s189, w⟩ := w
  refine X_vI (rc' := rc0) (rs' := rs0) (as := []) mv_L_168 (show decode cL_law 865 = .ok (.invokevirtual 168, 3) by decide +kernel) (by decide) (by omega) (by omega) rfl rfl (Nat.le_of_ble_eq_true rfl) (rcvD s189 (by decide) rfl) (kX10_thrown w) (fun E h hk => hk.elim) (fun r183 h182 w => ?_)
  refine X_iload (j := 6) (show decode cL_law 868 = .ok (.iload 6, 2) by decide +kernel) rfl ?_
  refine X_icmp_eq (tgt := 875) (show decode cL_law 870 = .ok (.if_icmp .eq 5, 3) by decide +kernel) (by decide) ⟨fun c184 => ?_, fun c184 => ?_⟩
  · have w := w.1 c184
    refine X_iload (j := 6) (show decode cL_law 875 = .ok (.iload 6, 2) by decide +kernel) rfl ?_
    refine X_if_ne (tgt := 892) (show decode cL_law 877 = .ok (.ifCond .ne 15, 3) by decide +kernel) (by decide) ⟨fun c185 => ?_, fun c185 => ?_⟩
    · have w := w.1 c185
      refine X_goto (tgt := 2925) (show decode cL_law 892 = .ok (.goto 2033, 3) by decide +kernel) (by decide) ?_
      refine X_iinc (j := 5) (v := _ + (nI 4)) (ls' := [(0, .ref _), (1, .ref _), (2, .ref _), (3, .ref _), (4, .ref _), (5, .int _), (6, .int _), (7, .int _)]) (show decode cL_law 2925 = .ok (.iinc 5 4, 3) by decide +kernel) rfl rfl (Nat.le_of_ble_eq_true rfl) rfl ?_
      refine X_goto (tgt := 28) (show decode cL_law 2928 = .ok (.goto (-2900), 3) by decide +kernel) (by decide) ?_
      refine X_pick (ls' := [(0, .ref _), (1, .ref _), (2, .ref _), (3, .ref _), (4, .ref _), (5, .int _)]) [0, 1, 2, 3, 4, 5] rfl ?_
      exact hc28 _ _ _ _ _ _ _ w
    · have w := w.2 c185
      refine X_aload_n (j := 3) (show decode cL_law 880 = .ok (.aload_n 3, 1) by decide +kernel) rfl rfl ?_
      refine X_iconst (v := (nI 0)) (show decode cL_law 881 = .ok (.iconst 0, 1) by decide +kernel) (by decide) ?_
      obtain ⟨s186, w⟩ := w
      obtain ⟨s187, w⟩ := w
      refine X_lald (show decode cL_law 882 = .ok (.laload, 1) by decide +kernel) (isA_eq s186) s187 ?_
      refine X_iload (j := 7) (show decode cL_law 883 = .ok (.iload 7, 2) by decide +kernel) rfl ?_
      refine X_i2l (show decode cL_law 885 = .ok (.i2l, 1) by decide +kernel) ?_
      refine X_lcmp (show decode cL_law 886 = .ok (.lcmp, 1) by decide +kernel) ?_
      refine X_if_eq (tgt := 892) (show decode cL_law 887 = .ok (.ifCond .eq 5, 3) by decide +kernel) (by decide) ⟨fun c188 => ?_, fun c188 => ?_⟩
      · have w := w.1 c188
        refine X_goto (tgt := 2925) (show decode cL_law 892 = .ok (.goto 2033, 3) by decide +kernel) (by decide) ?_
        refine X_iinc (j := 5) (v := _ + (nI 4)) (ls' := [(0, .ref _), (1, .ref _), (2, .ref _), (3, .ref _), (4, .ref _), (5, .int _), (6, .int _), (7, .int _)]) (show decode cL_law 2925 = .ok (.iinc 5 4, 3) by decide +kernel) rfl rfl (Nat.le_of_ble_eq_true rfl) rfl ?_
        refine X_goto (tgt := 28) (show decode cL_law 2928 = .ok (.goto (-2900), 3) by decide +kernel) (by decide) ?_
        refine X_pick (ls' := [(0, .ref _), (1, .ref _), (2, .ref _), (3, .ref _), (4, .ref _), (5, .int _)]) [0, 1, 2, 3, 4, 5] rfl ?_
        exact hc28 _ _ _ _ _ _ _ w
      · have w := w.2 c188
        refine X_iconst (v := (nI 0)) (show decode cL_law 890 = .ok (.iconst 0, 1) by decide +kernel) (by decide) ?_
        exact X_iret ⟨(show decode cL_law 891 = .ok (.ireturn, 1) by decide +kernel), .boolean, rfl, (by decide)⟩ ⟨_, rfl, w⟩
  · have w := w.2 c184
    refine X_iconst (v := (nI 0)) (show decode cL_law 873 = .ok (.iconst 0, 1) by decide +kernel) (by decide) ?_
    exact X_iret ⟨(show decode cL_law 874 = .ok (.ireturn, 1) by decide +kernel), .boolean, rfl, (by decide)⟩ ⟨_, rfl, w⟩
set_option maxRecDepth 100000 in
set_option maxHeartbeats 4000000 in
theorem kL_law_J895 {rc0 rs0 : Nat} {K : Int32 → AH → Prop} {c28 : Nat → Nat → Nat → Nat → Nat → Int32 → AH → Prop} (hc28 : ∀ x0 x1 x2 x3 x4 x5 h, c28 x0 x1 x2 x3 x4 x5 h → X mL_law 20 (KI K) T0 rc0 rs0 28 [(0, .ref x0), (1, .ref x1), (2, .ref x2), (3, .ref x3), (4, .ref x4), (5, .int x5)] [] h) (x0 : Nat) (x1 : Nat) (x2 : Nat) (x3 : Nat) (x4 : Nat) (x5 : Int32) (h : AH) (w : wL_law_J895 K c28 x0 x1 x2 x3 x4 x5 h) : X mL_law 20 (KI K) T0 rc0 rs0 895 [(0, .ref x0), (1, .ref x1), (2, .ref x2), (3, .ref x3), (4, .ref x4), (5, .int x5)] [] h := by
  unfold wL_law_J895 at w
  refine X_aload_n (j := 1) (show decode cL_law 895 = .ok (.aload_n 1, 1) by decide +kernel) rfl rfl ?_
  obtain ⟨s197, w⟩ := w
  refine X_vI (rc' := rc0) (rs' := rs0) (as := []) mv_L_200 (show decode cL_law 896 = .ok (.invokevirtual 200, 3) by decide +kernel) (by decide) (by omega) (by omega) rfl rfl (Nat.le_of_ble_eq_true rfl) (rcvD s197 (by decide) rfl) (kX9_blocks w) (fun E h hk => hk.elim) (fun r192 h191 w => ?_)
  refine X_aload_n (j := 2) (show decode cL_law 899 = .ok (.aload_n 2, 1) by decide +kernel) rfl rfl ?_
  obtain ⟨s196, w⟩ := w
  refine X_vI (rc' := rc0) (rs' := rs0) (as := []) mv_L_203 (show decode cL_law 900 = .ok (.invokevirtual 203, 3) by decide +kernel) (by decide) (by omega) (by omega) rfl rfl (Nat.le_of_ble_eq_true rfl) (rcvD s196 (by decide) rfl) (kX10_blocks w) (fun E h hk => hk.elim) (fun r194 h193 w => ?_)
  refine X_icmp_eq (tgt := 2925) (show decode cL_law 903 = .ok (.if_icmp .eq 2022, 3) by decide +kernel) (by decide) ⟨fun c195 => ?_, fun c195 => ?_⟩
  · have w := w.1 c195
    refine X_iinc (j := 5) (v := _ + (nI 4)) (ls' := [(0, .ref _), (1, .ref _), (2, .ref _), (3, .ref _), (4, .ref _), (5, .int _)]) (show decode cL_law 2925 = .ok (.iinc 5 4, 3) by decide +kernel) rfl rfl (Nat.le_of_ble_eq_true rfl) rfl ?_
    refine X_goto (tgt := 28) (show decode cL_law 2928 = .ok (.goto (-2900), 3) by decide +kernel) (by decide) ?_
    exact hc28 _ _ _ _ _ _ _ w
  · have w := w.2 c195
    refine X_iconst (v := (nI 0)) (show decode cL_law 906 = .ok (.iconst 0, 1) by decide +kernel) (by decide) ?_
    exact X_iret ⟨(show decode cL_law 907 = .ok (.ireturn, 1) by decide +kernel), .boolean, rfl, (by decide)⟩ ⟨_, rfl, w⟩
set_option maxRecDepth 100000 in
set_option maxHeartbeats 4000000 in
theorem kL_law_J908 {rc0 rs0 : Nat} {K : Int32 → AH → Prop} {c28 : Nat → Nat → Nat → Nat → Nat → Int32 → AH → Prop} (hc28 : ∀ x0 x1 x2 x3 x4 x5 h, c28 x0 x1 x2 x3 x4 x5 h → X mL_law 20 (KI K) T0 rc0 rs0 28 [(0, .ref x0), (1, .ref x1), (2, .ref x2), (3, .ref x3), (4, .ref x4), (5, .int x5)] [] h) (x0 : Nat) (x1 : Nat) (x2 : Nat) (x3 : Nat) (x4 : Nat) (x5 : Int32) (h : AH) (w : wL_law_J908 K c28 x0 x1 x2 x3 x4 x5 h) : X mL_law 20 (KI K) T0 (rc0 + 1) (rs0 + 6) 908 [(0, .ref x0), (1, .ref x1), (2, .ref x2), (3, .ref x3), (4, .ref x4), (5, .int x5)] [] h := by
  unfold wL_law_J908 at w
  refine X_aload_n (j := 1) (show decode cL_law 908 = .ok (.aload_n 1, 1) by decide +kernel) rfl rfl ?_
  refine X_aload_n (j := 0) (show decode cL_law 909 = .ok (.aload_n 0, 1) by decide +kernel) rfl rfl ?_
  refine X_iload (j := 5) (show decode cL_law 910 = .ok (.iload 5, 2) by decide +kernel) rfl ?_
  refine X_iconst (v := (nI 1)) (show decode cL_law 912 = .ok (.iconst 1, 1) by decide +kernel) (by decide) ?_
  refine X_iadd (show decode cL_law 913 = .ok (.iadd, 1) by decide +kernel) ?_
  obtain ⟨s198, w⟩ := w
  obtain ⟨s199, w⟩ := w
  refine X_iald (show decode cL_law 914 = .ok (.iaload, 1) by decide +kernel) (isA_eq s198) s199 ?_
  refine X_aload_n (j := 3) (show decode cL_law 915 = .ok (.aload_n 3, 1) by decide +kernel) rfl rfl ?_
  refine X_sH (rc' := rc0) (rs' := rs0) (as := [.ref _, .int _, .ref _]) msh_L_204 (show decode cL_law 916 = .ok (.invokestatic 204, 3) by decide +kernel) (by decide) (by omega) (by omega) rfl rfl (Nat.le_of_ble_eq_true rfl) (kL_blockLength w) (fun r201 h200 w => ?_)
  refine X_istore (ls' := [(0, .ref _), (1, .ref _), (2, .ref _), (3, .ref _), (4, .ref _), (5, .int _), (6, .int _)]) (show decode cL_law 919 = .ok (.istore 6, 2) by decide +kernel) (by decide) rfl ?_
  refine X_aload_n (j := 2) (show decode cL_law 921 = .ok (.aload_n 2, 1) by decide +kernel) rfl rfl ?_
  refine X_aload_n (j := 0) (show decode cL_law 922 = .ok (.aload_n 0, 1) by decide +kernel) rfl rfl ?_
  refine X_iload (j := 5) (show decode cL_law 923 = .ok (.iload 5, 2) by decide +kernel) rfl ?_
  refine X_iconst (v := (nI 1)) (show decode cL_law 925 = .ok (.iconst 1, 1) by decide +kernel) (by decide) ?_
  refine X_iadd (show decode cL_law 926 = .ok (.iadd, 1) by decide +kernel) ?_
  obtain ⟨s202, w⟩ := w
  obtain ⟨s203, w⟩ := w
  refine X_iald (show decode cL_law 927 = .ok (.iaload, 1) by decide +kernel) (isA_eq s202) s203 ?_
  obtain ⟨s214, w⟩ := w
  refine X_vI (rc' := rc0) (rs' := rs0) (as := [.int _]) mv_L_206 (show decode cL_law 928 = .ok (.invokevirtual 206, 3) by decide +kernel) (by decide) (by omega) (by omega) rfl rfl (Nat.le_of_ble_eq_true rfl) (rcvD s214 (by decide) rfl) (kX10_blockLength w) (fun E h hk => hk.elim) (fun r205 h204 w => ?_)
  refine X_istore (ls' := [(0, .ref _), (1, .ref _), (2, .ref _), (3, .ref _), (4, .ref _), (5, .int _), (6, .int _), (7, .int _)]) (show decode cL_law 931 = .ok (.istore 7, 2) by decide +kernel) (by decide) rfl ?_
  refine X_aload_n (j := 2) (show decode cL_law 933 = .ok (.aload_n 2, 1) by decide +kernel) rfl rfl ?_
  obtain ⟨s213, w⟩ := w
  refine X_vI (rc' := rc0) (rs' := rs0) (as := []) mv_L_168 (show decode cL_law 934 = .ok (.invokevirtual 168, 3) by decide +kernel) (by decide) (by omega) (by omega) rfl rfl (Nat.le_of_ble_eq_true rfl) (rcvD s213 (by decide) rfl) (kX10_thrown w) (fun E h hk => hk.elim) (fun r207 h206 w => ?_)
  refine X_iload (j := 6) (show decode cL_law 937 = .ok (.iload 6, 2) by decide +kernel) rfl ?_
  refine X_icmp_eq (tgt := 944) (show decode cL_law 939 = .ok (.if_icmp .eq 5, 3) by decide +kernel) (by decide) ⟨fun c208 => ?_, fun c208 => ?_⟩
  · have w := w.1 c208
    refine X_iload (j := 6) (show decode cL_law 944 = .ok (.iload 6, 2) by decide +kernel) rfl ?_
    refine X_if_ne (tgt := 961) (show decode cL_law 946 = .ok (.ifCond .ne 15, 3) by decide +kernel) (by decide) ⟨fun c209 => ?_, fun c209 => ?_⟩
    · have w := w.1 c209
      refine X_goto (tgt := 2925) (show decode cL_law 961 = .ok (.goto 1964, 3) by decide +kernel) (by decide) ?_
      refine X_iinc (j := 5) (v := _ + (nI 4)) (ls' := [(0, .ref _), (1, .ref _), (2, .ref _), (3, .ref _), (4, .ref _), (5, .int _), (6, .int _), (7, .int _)]) (show decode cL_law 2925 = .ok (.iinc 5 4, 3) by decide +kernel) rfl rfl (Nat.le_of_ble_eq_true rfl) rfl ?_
      refine X_goto (tgt := 28) (show decode cL_law 2928 = .ok (.goto (-2900), 3) by decide +kernel) (by decide) ?_
      refine X_pick (ls' := [(0, .ref _), (1, .ref _), (2, .ref _), (3, .ref _), (4, .ref _), (5, .int _)]) [0, 1, 2, 3, 4, 5] rfl ?_
      exact hc28 _ _ _ _ _ _ _ w
    · have w := w.2 c209
      refine X_aload_n (j := 3) (show decode cL_law 949 = .ok (.aload_n 3, 1) by decide +kernel) rfl rfl ?_
      refine X_iconst (v := (nI 0)) (show decode cL_law 950 = .ok (.iconst 0, 1) by decide +kernel) (by decide) ?_
      obtain ⟨s210, w⟩ := w
      obtain ⟨s211, w⟩ := w
      refine X_lald (show decode cL_law 951 = .ok (.laload, 1) by decide +kernel) (isA_eq s210) s211 ?_
      refine X_iload (j := 7) (show decode cL_law 952 = .ok (.iload 7, 2) by decide +kernel) rfl ?_
      refine X_i2l (show decode cL_law 954 = .ok (.i2l, 1) by decide +kernel) ?_
      refine X_lcmp (show decode cL_law 955 = .ok (.lcmp, 1) by decide +kernel) ?_
      refine X_if_eq (tgt := 961) (show decode cL_law 956 = .ok (.ifCond .eq 5, 3) by decide +kernel) (by decide) ⟨fun c212 => ?_, fun c212 => ?_⟩
      · have w := w.1 c212
        refine X_goto (tgt := 2925) (show decode cL_law 961 = .ok (.goto 1964, 3) by decide +kernel) (by decide) ?_
        refine X_iinc (j := 5) (v := _ + (nI 4)) (ls' := [(0, .ref _), (1, .ref _), (2, .ref _), (3, .ref _), (4, .ref _), (5, .int _), (6, .int _), (7, .int _)]) (show decode cL_law 2925 = .ok (.iinc 5 4, 3) by decide +kernel) rfl rfl (Nat.le_of_ble_eq_true rfl) rfl ?_
        refine X_goto (tgt := 28) (show decode cL_law 2928 = .ok (.goto (-2900), 3) by decide +kernel) (by decide) ?_
        refine X_pick (ls' := [(0, .ref _), (1, .ref _), (2, .ref _), (3, .ref _), (4, .ref _), (5, .int _)]) [0, 1, 2, 3, 4, 5] rfl ?_
        exact hc28 _ _ _ _ _ _ _ w
      · have w := w.2 c212
        refine X_iconst (v := (nI 0)) (show decode cL_law 959 = .ok (.iconst 0, 1) by decide +kernel) (by decide) ?_
        exact X_iret ⟨(show decode cL_law 960 = .ok (.ireturn, 1) by decide +kernel), .boolean, rfl, (by decide)⟩ ⟨_, rfl, w⟩
  · have w := w.2 c208
    refine X_iconst (v := (nI 0)) (show decode cL_law 942 = .ok (.iconst 0, 1) by decide +kernel) (by decide) ?_
    exact X_iret ⟨(show decode cL_law 943 = .ok (.ireturn, 1) by decide +kernel), .boolean, rfl, (by decide)⟩ ⟨_, rfl, w⟩
set_option maxRecDepth 100000 in
set_option maxHeartbeats 4000000 in
theorem kL_law_J964 {rc0 rs0 : Nat} {K : Int32 → AH → Prop} {c28 : Nat → Nat → Nat → Nat → Nat → Int32 → AH → Prop} (hc28 : ∀ x0 x1 x2 x3 x4 x5 h, c28 x0 x1 x2 x3 x4 x5 h → X mL_law 20 (KI K) T0 rc0 rs0 28 [(0, .ref x0), (1, .ref x1), (2, .ref x2), (3, .ref x3), (4, .ref x4), (5, .int x5)] [] h) (x0 : Nat) (x1 : Nat) (x2 : Nat) (x3 : Nat) (x4 : Nat) (x5 : Int32) (h : AH) (w : wL_law_J964 K c28 x0 x1 x2 x3 x4 x5 h) : X mL_law 20 (KI K) T0 (rc0 + 1) (rs0 + 6) 964 [(0, .ref x0), (1, .ref x1), (2, .ref x2), (3, .ref x3), (4, .ref x4), (5, .int x5)] [] h := by
  unfold wL_law_J964 at w
  refine X_aload_n (j := 1) (show decode cL_law 964 = .ok (.aload_n 1, 1) by decide +kernel) rfl rfl ?_
  refine X_aload_n (j := 0) (show decode cL_law 965 = .ok (.aload_n 0, 1) by decide +kernel) rfl rfl ?_
  refine X_iload (j := 5) (show decode cL_law 966 = .ok (.iload 5, 2) by decide +kernel) rfl ?_
  refine X_iconst (v := (nI 1)) (show decode cL_law 968 = .ok (.iconst 1, 1) by decide +kernel) (by decide) ?_
  refine X_iadd (show decode cL_law 969 = .ok (.iadd, 1) by decide +kernel) ?_
  obtain ⟨s215, w⟩ := w
  obtain ⟨s216, w⟩ := w
  refine X_iald (show decode cL_law 970 = .ok (.iaload, 1) by decide +kernel) (isA_eq s215) s216 ?_
  refine X_aload_n (j := 3) (show decode cL_law 971 = .ok (.aload_n 3, 1) by decide +kernel) rfl rfl ?_
  refine X_sH (rc' := rc0) (rs' := rs0) (as := [.ref _, .int _, .ref _]) msh_L_207 (show decode cL_law 972 = .ok (.invokestatic 207, 3) by decide +kernel) (by decide) (by omega) (by omega) rfl rfl (Nat.le_of_ble_eq_true rfl) (kL_blockState w) (fun r218 h217 w => ?_)
  refine X_istore (ls' := [(0, .ref _), (1, .ref _), (2, .ref _), (3, .ref _), (4, .ref _), (5, .int _), (6, .int _)]) (show decode cL_law 975 = .ok (.istore 6, 2) by decide +kernel) (by decide) rfl ?_
  refine X_aload_n (j := 2) (show decode cL_law 977 = .ok (.aload_n 2, 1) by decide +kernel) rfl rfl ?_
  refine X_aload_n (j := 0) (show decode cL_law 978 = .ok (.aload_n 0, 1) by decide +kernel) rfl rfl ?_
  refine X_iload (j := 5) (show decode cL_law 979 = .ok (.iload 5, 2) by decide +kernel) rfl ?_
  refine X_iconst (v := (nI 1)) (show decode cL_law 981 = .ok (.iconst 1, 1) by decide +kernel) (by decide) ?_
  refine X_iadd (show decode cL_law 982 = .ok (.iadd, 1) by decide +kernel) ?_
  obtain ⟨s219, w⟩ := w
  obtain ⟨s220, w⟩ := w
  refine X_iald (show decode cL_law 983 = .ok (.iaload, 1) by decide +kernel) (isA_eq s219) s220 ?_
  obtain ⟨s231, w⟩ := w
  refine X_vI (rc' := rc0) (rs' := rs0) (as := [.int _]) mv_L_209 (show decode cL_law 984 = .ok (.invokevirtual 209, 3) by decide +kernel) (by decide) (by omega) (by omega) rfl rfl (Nat.le_of_ble_eq_true rfl) (rcvD s231 (by decide) rfl) (kX10_blockState w) (fun E h hk => hk.elim) (fun r222 h221 w => ?_)
  refine X_istore (ls' := [(0, .ref _), (1, .ref _), (2, .ref _), (3, .ref _), (4, .ref _), (5, .int _), (6, .int _), (7, .int _)]) (show decode cL_law 987 = .ok (.istore 7, 2) by decide +kernel) (by decide) rfl ?_
  refine X_aload_n (j := 2) (show decode cL_law 989 = .ok (.aload_n 2, 1) by decide +kernel) rfl rfl ?_
  obtain ⟨s230, w⟩ := w
  refine X_vI (rc' := rc0) (rs' := rs0) (as := []) mv_L_168 (show decode cL_law 990 = .ok (.invokevirtual 168, 3) by decide +kernel) (by decide) (by omega) (by omega) rfl rfl (Nat.le_of_ble_eq_true rfl) (rcvD s230 (by decide) rfl) (kX10_thrown w) (fun E h hk => hk.elim) (fun r224 h223 w => ?_)
  refine X_iload (j := 6) (show decode cL_law 993 = .ok (.iload 6, 2) by decide +kernel) rfl ?_
  refine X_icmp_eq (tgt := 1000) (show decode cL_law 995 = .ok (.if_icmp .eq 5, 3) by decide +kernel) (by decide) ⟨fun c225 => ?_, fun c225 => ?_⟩
  · have w := w.1 c225
    refine X_iload (j := 6) (show decode cL_law 1000 = .ok (.iload 6, 2) by decide +kernel) rfl ?_
    refine X_if_ne (tgt := 1017) (show decode cL_law 1002 = .ok (.ifCond .ne 15, 3) by decide +kernel) (by decide) ⟨fun c226 => ?_, fun c226 => ?_⟩
    · have w := w.1 c226
      refine X_goto (tgt := 2925) (show decode cL_law 1017 = .ok (.goto 1908, 3) by decide +kernel) (by decide) ?_
      refine X_iinc (j := 5) (v := _ + (nI 4)) (ls' := [(0, .ref _), (1, .ref _), (2, .ref _), (3, .ref _), (4, .ref _), (5, .int _), (6, .int _), (7, .int _)]) (show decode cL_law 2925 = .ok (.iinc 5 4, 3) by decide +kernel) rfl rfl (Nat.le_of_ble_eq_true rfl) rfl ?_
      refine X_goto (tgt := 28) (show decode cL_law 2928 = .ok (.goto (-2900), 3) by decide +kernel) (by decide) ?_
      refine X_pick (ls' := [(0, .ref _), (1, .ref _), (2, .ref _), (3, .ref _), (4, .ref _), (5, .int _)]) [0, 1, 2, 3, 4, 5] rfl ?_
      exact hc28 _ _ _ _ _ _ _ w
    · have w := w.2 c226
      refine X_aload_n (j := 3) (show decode cL_law 1005 = .ok (.aload_n 3, 1) by decide +kernel) rfl rfl ?_
      refine X_iconst (v := (nI 0)) (show decode cL_law 1006 = .ok (.iconst 0, 1) by decide +kernel) (by decide) ?_
      obtain ⟨s227, w⟩ := w
      obtain ⟨s228, w⟩ := w
      refine X_lald (show decode cL_law 1007 = .ok (.laload, 1) by decide +kernel) (isA_eq s227) s228 ?_
      refine X_iload (j := 7) (show decode cL_law 1008 = .ok (.iload 7, 2) by decide +kernel) rfl ?_
      refine X_i2l (show decode cL_law 1010 = .ok (.i2l, 1) by decide +kernel) ?_
      refine X_lcmp (show decode cL_law 1011 = .ok (.lcmp, 1) by decide +kernel) ?_
      refine X_if_eq (tgt := 1017) (show decode cL_law 1012 = .ok (.ifCond .eq 5, 3) by decide +kernel) (by decide) ⟨fun c229 => ?_, fun c229 => ?_⟩
      · have w := w.1 c229
        refine X_goto (tgt := 2925) (show decode cL_law 1017 = .ok (.goto 1908, 3) by decide +kernel) (by decide) ?_
        refine X_iinc (j := 5) (v := _ + (nI 4)) (ls' := [(0, .ref _), (1, .ref _), (2, .ref _), (3, .ref _), (4, .ref _), (5, .int _), (6, .int _), (7, .int _)]) (show decode cL_law 2925 = .ok (.iinc 5 4, 3) by decide +kernel) rfl rfl (Nat.le_of_ble_eq_true rfl) rfl ?_
        refine X_goto (tgt := 28) (show decode cL_law 2928 = .ok (.goto (-2900), 3) by decide +kernel) (by decide) ?_
        refine X_pick (ls' := [(0, .ref _), (1, .ref _), (2, .ref _), (3, .ref _), (4, .ref _), (5, .int _)]) [0, 1, 2, 3, 4, 5] rfl ?_
        exact hc28 _ _ _ _ _ _ _ w
      · have w := w.2 c229
        refine X_iconst (v := (nI 0)) (show decode cL_law 1015 = .ok (.iconst 0, 1) by decide +kernel) (by decide) ?_
        exact X_iret ⟨(show decode cL_law 1016 = .ok (.ireturn, 1) by decide +kernel), .boolean, rfl, (by decide)⟩ ⟨_, rfl, w⟩
  · have w := w.2 c225
    refine X_iconst (v := (nI 0)) (show decode cL_law 998 = .ok (.iconst 0, 1) by decide +kernel) (by decide) ?_
    exact X_iret ⟨(show decode cL_law 999 = .ok (.ireturn, 1) by decide +kernel), .boolean, rfl, (by decide)⟩ ⟨_, rfl, w⟩
set_option maxRecDepth 100000 in
set_option maxHeartbeats 4000000 in
theorem kL_law_J1020 {rc0 rs0 : Nat} {K : Int32 → AH → Prop} {c28 : Nat → Nat → Nat → Nat → Nat → Int32 → AH → Prop} (hc28 : ∀ x0 x1 x2 x3 x4 x5 h, c28 x0 x1 x2 x3 x4 x5 h → X mL_law 20 (KI K) T0 rc0 rs0 28 [(0, .ref x0), (1, .ref x1), (2, .ref x2), (3, .ref x3), (4, .ref x4), (5, .int x5)] [] h) (x0 : Nat) (x1 : Nat) (x2 : Nat) (x3 : Nat) (x4 : Nat) (x5 : Int32) (h : AH) (w : wL_law_J1020 K c28 x0 x1 x2 x3 x4 x5 h) : X mL_law 20 (KI K) T0 (rc0 + 2) (rs0 + 12) 1020 [(0, .ref x0), (1, .ref x1), (2, .ref x2), (3, .ref x3), (4, .ref x4), (5, .int x5)] [] h := by
  unfold wL_law_J1020 at w
  refine X_aload_n (j := 1) (show decode cL_law 1020 = .ok (.aload_n 1, 1) by decide +kernel) rfl rfl ?_
  refine X_aload_n (j := 0) (show decode cL_law 1021 = .ok (.aload_n 0, 1) by decide +kernel) rfl rfl ?_
  refine X_iload (j := 5) (show decode cL_law 1022 = .ok (.iload 5, 2) by decide +kernel) rfl ?_
  refine X_iconst (v := (nI 1)) (show decode cL_law 1024 = .ok (.iconst 1, 1) by decide +kernel) (by decide) ?_
  refine X_iadd (show decode cL_law 1025 = .ok (.iadd, 1) by decide +kernel) ?_
  obtain ⟨s232, w⟩ := w
  obtain ⟨s233, w⟩ := w
  refine X_iald (show decode cL_law 1026 = .ok (.iaload, 1) by decide +kernel) (isA_eq s232) s233 ?_
  refine X_aload_n (j := 3) (show decode cL_law 1027 = .ok (.aload_n 3, 1) by decide +kernel) rfl rfl ?_
  refine X_sH (rc' := rc0) (rs' := rs0) (as := [.ref _, .int _, .ref _]) msh_L_210 (show decode cL_law 1028 = .ok (.invokestatic 210, 3) by decide +kernel) (by decide) (by omega) (by omega) rfl rfl (Nat.le_of_ble_eq_true rfl) (kL_trainAt w) (fun r235 h234 w => ?_)
  refine X_istore (ls' := [(0, .ref _), (1, .ref _), (2, .ref _), (3, .ref _), (4, .ref _), (5, .int _), (6, .int _)]) (show decode cL_law 1031 = .ok (.istore 6, 2) by decide +kernel) (by decide) rfl ?_
  refine X_aload_n (j := 2) (show decode cL_law 1033 = .ok (.aload_n 2, 1) by decide +kernel) rfl rfl ?_
  refine X_aload_n (j := 0) (show decode cL_law 1034 = .ok (.aload_n 0, 1) by decide +kernel) rfl rfl ?_
  refine X_iload (j := 5) (show decode cL_law 1035 = .ok (.iload 5, 2) by decide +kernel) rfl ?_
  refine X_iconst (v := (nI 1)) (show decode cL_law 1037 = .ok (.iconst 1, 1) by decide +kernel) (by decide) ?_
  refine X_iadd (show decode cL_law 1038 = .ok (.iadd, 1) by decide +kernel) ?_
  obtain ⟨s236, w⟩ := w
  obtain ⟨s237, w⟩ := w
  refine X_iald (show decode cL_law 1039 = .ok (.iaload, 1) by decide +kernel) (isA_eq s236) s237 ?_
  obtain ⟨s248, w⟩ := w
  refine X_vI (rc' := rc0) (rs' := rs0) (as := [.int _]) mv_L_212 (show decode cL_law 1040 = .ok (.invokevirtual 212, 3) by decide +kernel) (by decide) (by omega) (by omega) rfl rfl (Nat.le_of_ble_eq_true rfl) (rcvD s248 (by decide) rfl) (kX10_trainAt w) (fun E h hk => hk.elim) (fun r239 h238 w => ?_)
  refine X_istore (ls' := [(0, .ref _), (1, .ref _), (2, .ref _), (3, .ref _), (4, .ref _), (5, .int _), (6, .int _), (7, .int _)]) (show decode cL_law 1043 = .ok (.istore 7, 2) by decide +kernel) (by decide) rfl ?_
  refine X_aload_n (j := 2) (show decode cL_law 1045 = .ok (.aload_n 2, 1) by decide +kernel) rfl rfl ?_
  obtain ⟨s247, w⟩ := w
  refine X_vI (rc' := rc0) (rs' := rs0) (as := []) mv_L_168 (show decode cL_law 1046 = .ok (.invokevirtual 168, 3) by decide +kernel) (by decide) (by omega) (by omega) rfl rfl (Nat.le_of_ble_eq_true rfl) (rcvD s247 (by decide) rfl) (kX10_thrown w) (fun E h hk => hk.elim) (fun r241 h240 w => ?_)
  refine X_iload (j := 6) (show decode cL_law 1049 = .ok (.iload 6, 2) by decide +kernel) rfl ?_
  refine X_icmp_eq (tgt := 1056) (show decode cL_law 1051 = .ok (.if_icmp .eq 5, 3) by decide +kernel) (by decide) ⟨fun c242 => ?_, fun c242 => ?_⟩
  · have w := w.1 c242
    refine X_iload (j := 6) (show decode cL_law 1056 = .ok (.iload 6, 2) by decide +kernel) rfl ?_
    refine X_if_ne (tgt := 1073) (show decode cL_law 1058 = .ok (.ifCond .ne 15, 3) by decide +kernel) (by decide) ⟨fun c243 => ?_, fun c243 => ?_⟩
    · have w := w.1 c243
      refine X_goto (tgt := 2925) (show decode cL_law 1073 = .ok (.goto 1852, 3) by decide +kernel) (by decide) ?_
      refine X_iinc (j := 5) (v := _ + (nI 4)) (ls' := [(0, .ref _), (1, .ref _), (2, .ref _), (3, .ref _), (4, .ref _), (5, .int _), (6, .int _), (7, .int _)]) (show decode cL_law 2925 = .ok (.iinc 5 4, 3) by decide +kernel) rfl rfl (Nat.le_of_ble_eq_true rfl) rfl ?_
      refine X_goto (tgt := 28) (show decode cL_law 2928 = .ok (.goto (-2900), 3) by decide +kernel) (by decide) ?_
      refine X_pick (ls' := [(0, .ref _), (1, .ref _), (2, .ref _), (3, .ref _), (4, .ref _), (5, .int _)]) [0, 1, 2, 3, 4, 5] rfl ?_
      exact hc28 _ _ _ _ _ _ _ w
    · have w := w.2 c243
      refine X_aload_n (j := 3) (show decode cL_law 1061 = .ok (.aload_n 3, 1) by decide +kernel) rfl rfl ?_
      refine X_iconst (v := (nI 0)) (show decode cL_law 1062 = .ok (.iconst 0, 1) by decide +kernel) (by decide) ?_
      obtain ⟨s244, w⟩ := w
      obtain ⟨s245, w⟩ := w
      refine X_lald (show decode cL_law 1063 = .ok (.laload, 1) by decide +kernel) (isA_eq s244) s245 ?_
      refine X_iload (j := 7) (show decode cL_law 1064 = .ok (.iload 7, 2) by decide +kernel) rfl ?_
      refine X_i2l (show decode cL_law 1066 = .ok (.i2l, 1) by decide +kernel) ?_
      refine X_lcmp (show decode cL_law 1067 = .ok (.lcmp, 1) by decide +kernel) ?_
      refine X_if_eq (tgt := 1073) (show decode cL_law 1068 = .ok (.ifCond .eq 5, 3) by decide +kernel) (by decide) ⟨fun c246 => ?_, fun c246 => ?_⟩
      · have w := w.1 c246
        refine X_goto (tgt := 2925) (show decode cL_law 1073 = .ok (.goto 1852, 3) by decide +kernel) (by decide) ?_
        refine X_iinc (j := 5) (v := _ + (nI 4)) (ls' := [(0, .ref _), (1, .ref _), (2, .ref _), (3, .ref _), (4, .ref _), (5, .int _), (6, .int _), (7, .int _)]) (show decode cL_law 2925 = .ok (.iinc 5 4, 3) by decide +kernel) rfl rfl (Nat.le_of_ble_eq_true rfl) rfl ?_
        refine X_goto (tgt := 28) (show decode cL_law 2928 = .ok (.goto (-2900), 3) by decide +kernel) (by decide) ?_
        refine X_pick (ls' := [(0, .ref _), (1, .ref _), (2, .ref _), (3, .ref _), (4, .ref _), (5, .int _)]) [0, 1, 2, 3, 4, 5] rfl ?_
        exact hc28 _ _ _ _ _ _ _ w
      · have w := w.2 c246
        refine X_iconst (v := (nI 0)) (show decode cL_law 1071 = .ok (.iconst 0, 1) by decide +kernel) (by decide) ?_
        exact X_iret ⟨(show decode cL_law 1072 = .ok (.ireturn, 1) by decide +kernel), .boolean, rfl, (by decide)⟩ ⟨_, rfl, w⟩
  · have w := w.2 c242
    refine X_iconst (v := (nI 0)) (show decode cL_law 1054 = .ok (.iconst 0, 1) by decide +kernel) (by decide) ?_
    exact X_iret ⟨(show decode cL_law 1055 = .ok (.ireturn, 1) by decide +kernel), .boolean, rfl, (by decide)⟩ ⟨_, rfl, w⟩
set_option maxRecDepth 100000 in
set_option maxHeartbeats 4000000 in
theorem kL_law_J1130 {rc0 rs0 : Nat} {K : Int32 → AH → Prop} {c28 : Nat → Nat → Nat → Nat → Nat → Int32 → AH → Prop} (hc28 : ∀ x0 x1 x2 x3 x4 x5 h, c28 x0 x1 x2 x3 x4 x5 h → X mL_law 20 (KI K) T0 rc0 rs0 28 [(0, .ref x0), (1, .ref x1), (2, .ref x2), (3, .ref x3), (4, .ref x4), (5, .int x5)] [] h) (x0 : Nat) (x1 : Nat) (x2 : Nat) (x3 : Nat) (x4 : Nat) (x5 : Int32) (y0 : Int64) (y1 : Int64) (h : AH) (w : wL_law_J1130 K c28 x0 x1 x2 x3 x4 x5 y0 y1 h) : X mL_law 20 (KI K) T0 rc0 rs0 1130 [(0, .ref x0), (1, .ref x1), (2, .ref x2), (3, .ref x3), (4, .ref x4), (5, .int x5)] [.long y1, .long y0] h := by
  unfold wL_law_J1130 at w
  refine X_lcmp (show decode cL_law 1130 = .ok (.lcmp, 1) by decide +kernel) ?_
  refine X_if_eq (tgt := 1136) (show decode cL_law 1131 = .ok (.ifCond .eq 5, 3) by decide +kernel) (by decide) ⟨fun c264 => ?_, fun c264 => ?_⟩
  · have w := w.1 c264
    refine X_goto (tgt := 2925) (show decode cL_law 1136 = .ok (.goto 1789, 3) by decide +kernel) (by decide) ?_
    refine X_iinc (j := 5) (v := _ + (nI 4)) (ls' := [(0, .ref _), (1, .ref _), (2, .ref _), (3, .ref _), (4, .ref _), (5, .int _)]) (show decode cL_law 2925 = .ok (.iinc 5 4, 3) by decide +kernel) rfl rfl (Nat.le_of_ble_eq_true rfl) rfl ?_
    refine X_goto (tgt := 28) (show decode cL_law 2928 = .ok (.goto (-2900), 3) by decide +kernel) (by decide) ?_
    exact hc28 _ _ _ _ _ _ _ w
  · have w := w.2 c264
    refine X_iconst (v := (nI 0)) (show decode cL_law 1134 = .ok (.iconst 0, 1) by decide +kernel) (by decide) ?_
    exact X_iret ⟨(show decode cL_law 1135 = .ok (.ireturn, 1) by decide +kernel), .boolean, rfl, (by decide)⟩ ⟨_, rfl, w⟩
set_option maxRecDepth 100000 in
set_option maxHeartbeats 4000000 in
theorem kL_law_J1076 {rc0 rs0 : Nat} {K : Int32 → AH → Prop} {c28 : Nat → Nat → Nat → Nat → Nat → Int32 → AH → Prop} (hc28 : ∀ x0 x1 x2 x3 x4 x5 h, c28 x0 x1 x2 x3 x4 x5 h → X mL_law 20 (KI K) T0 rc0 rs0 28 [(0, .ref x0), (1, .ref x1), (2, .ref x2), (3, .ref x3), (4, .ref x4), (5, .int x5)] [] h) (x0 : Nat) (x1 : Nat) (x2 : Nat) (x3 : Nat) (x4 : Nat) (x5 : Int32) (h : AH) (w : wL_law_J1076 K c28 x0 x1 x2 x3 x4 x5 h) : X mL_law 20 (KI K) T0 (rc0 + 1) (rs0 + 6) 1076 [(0, .ref x0), (1, .ref x1), (2, .ref x2), (3, .ref x3), (4, .ref x4), (5, .int x5)] [] h := by
  unfold wL_law_J1076 at w
  refine X_aload_n (j := 1) (show decode cL_law 1076 = .ok (.aload_n 1, 1) by decide +kernel) rfl rfl ?_
  refine X_aload_n (j := 0) (show decode cL_law 1077 = .ok (.aload_n 0, 1) by decide +kernel) rfl rfl ?_
  refine X_iload (j := 5) (show decode cL_law 1078 = .ok (.iload 5, 2) by decide +kernel) rfl ?_
  refine X_iconst (v := (nI 1)) (show decode cL_law 1080 = .ok (.iconst 1, 1) by decide +kernel) (by decide) ?_
  refine X_iadd (show decode cL_law 1081 = .ok (.iadd, 1) by decide +kernel) ?_
  obtain ⟨s249, w⟩ := w
  obtain ⟨s250, w⟩ := w
  refine X_iald (show decode cL_law 1082 = .ok (.iaload, 1) by decide +kernel) (isA_eq s249) s250 ?_
  refine X_aload_n (j := 3) (show decode cL_law 1083 = .ok (.aload_n 3, 1) by decide +kernel) rfl rfl ?_
  refine X_sH (rc' := rc0) (rs' := rs0) (as := [.ref _, .int _, .ref _]) msh_L_213 (show decode cL_law 1084 = .ok (.invokestatic 213, 3) by decide +kernel) (by decide) (by omega) (by omega) rfl rfl (Nat.le_of_ble_eq_true rfl) (kL_liesLeft w) (fun r252 h251 w => ?_)
  refine X_istore (ls' := [(0, .ref _), (1, .ref _), (2, .ref _), (3, .ref _), (4, .ref _), (5, .int _), (6, .int _)]) (show decode cL_law 1087 = .ok (.istore 6, 2) by decide +kernel) (by decide) rfl ?_
  refine X_aload_n (j := 2) (show decode cL_law 1089 = .ok (.aload_n 2, 1) by decide +kernel) rfl rfl ?_
  refine X_aload_n (j := 0) (show decode cL_law 1090 = .ok (.aload_n 0, 1) by decide +kernel) rfl rfl ?_
  refine X_iload (j := 5) (show decode cL_law 1091 = .ok (.iload 5, 2) by decide +kernel) rfl ?_
  refine X_iconst (v := (nI 1)) (show decode cL_law 1093 = .ok (.iconst 1, 1) by decide +kernel) (by decide) ?_
  refine X_iadd (show decode cL_law 1094 = .ok (.iadd, 1) by decide +kernel) ?_
  obtain ⟨s253, w⟩ := w
  obtain ⟨s254, w⟩ := w
  refine X_iald (show decode cL_law 1095 = .ok (.iaload, 1) by decide +kernel) (isA_eq s253) s254 ?_
  obtain ⟨s266, w⟩ := w
  refine X_vI (rc' := rc0) (rs' := rs0) (as := [.int _]) mv_L_215 (show decode cL_law 1096 = .ok (.invokevirtual 215, 3) by decide +kernel) (by decide) (by omega) (by omega) rfl rfl (Nat.le_of_ble_eq_true rfl) (rcvD s266 (by decide) rfl) (kX10_liesLeft w) (fun E h hk => hk.elim) (fun r256 h255 w => ?_)
  refine X_istore (ls' := [(0, .ref _), (1, .ref _), (2, .ref _), (3, .ref _), (4, .ref _), (5, .int _), (6, .int _), (7, .int _)]) (show decode cL_law 1099 = .ok (.istore 7, 2) by decide +kernel) (by decide) rfl ?_
  refine X_aload_n (j := 2) (show decode cL_law 1101 = .ok (.aload_n 2, 1) by decide +kernel) rfl rfl ?_
  obtain ⟨s265, w⟩ := w
  refine X_vI (rc' := rc0) (rs' := rs0) (as := []) mv_L_168 (show decode cL_law 1102 = .ok (.invokevirtual 168, 3) by decide +kernel) (by decide) (by omega) (by omega) rfl rfl (Nat.le_of_ble_eq_true rfl) (rcvD s265 (by decide) rfl) (kX10_thrown w) (fun E h hk => hk.elim) (fun r258 h257 w => ?_)
  refine X_iload (j := 6) (show decode cL_law 1105 = .ok (.iload 6, 2) by decide +kernel) rfl ?_
  refine X_icmp_eq (tgt := 1112) (show decode cL_law 1107 = .ok (.if_icmp .eq 5, 3) by decide +kernel) (by decide) ⟨fun c259 => ?_, fun c259 => ?_⟩
  · have w := w.1 c259
    refine X_iload (j := 6) (show decode cL_law 1112 = .ok (.iload 6, 2) by decide +kernel) rfl ?_
    refine X_if_ne (tgt := 1136) (show decode cL_law 1114 = .ok (.ifCond .ne 22, 3) by decide +kernel) (by decide) ⟨fun c260 => ?_, fun c260 => ?_⟩
    · have w := w.1 c260
      refine X_goto (tgt := 2925) (show decode cL_law 1136 = .ok (.goto 1789, 3) by decide +kernel) (by decide) ?_
      refine X_iinc (j := 5) (v := _ + (nI 4)) (ls' := [(0, .ref _), (1, .ref _), (2, .ref _), (3, .ref _), (4, .ref _), (5, .int _), (6, .int _), (7, .int _)]) (show decode cL_law 2925 = .ok (.iinc 5 4, 3) by decide +kernel) rfl rfl (Nat.le_of_ble_eq_true rfl) rfl ?_
      refine X_goto (tgt := 28) (show decode cL_law 2928 = .ok (.goto (-2900), 3) by decide +kernel) (by decide) ?_
      refine X_pick (ls' := [(0, .ref _), (1, .ref _), (2, .ref _), (3, .ref _), (4, .ref _), (5, .int _)]) [0, 1, 2, 3, 4, 5] rfl ?_
      exact hc28 _ _ _ _ _ _ _ w
    · have w := w.2 c260
      refine X_aload_n (j := 3) (show decode cL_law 1117 = .ok (.aload_n 3, 1) by decide +kernel) rfl rfl ?_
      refine X_iconst (v := (nI 0)) (show decode cL_law 1118 = .ok (.iconst 0, 1) by decide +kernel) (by decide) ?_
      obtain ⟨s261, w⟩ := w
      obtain ⟨s262, w⟩ := w
      refine X_lald (show decode cL_law 1119 = .ok (.laload, 1) by decide +kernel) (isA_eq s261) s262 ?_
      refine X_iload (j := 7) (show decode cL_law 1120 = .ok (.iload 7, 2) by decide +kernel) rfl ?_
      refine X_if_eq (tgt := 1129) (show decode cL_law 1122 = .ok (.ifCond .eq 7, 3) by decide +kernel) (by decide) ⟨fun c263 => ?_, fun c263 => ?_⟩
      · have w := w.1 c263
        refine X_lconst (v := 0) (show decode cL_law 1129 = .ok (.lconst 0, 1) by decide +kernel) (by decide) ?_
        refine X_pick (ls' := [(0, .ref _), (1, .ref _), (2, .ref _), (3, .ref _), (4, .ref _), (5, .int _)]) [0, 1, 2, 3, 4, 5] rfl ?_
        exact kL_law_J1130 hc28 _ _ _ _ _ _ _ _ _ w
      · have w := w.2 c263
        refine X_lconst (v := 1) (show decode cL_law 1125 = .ok (.lconst 1, 1) by decide +kernel) (by decide) ?_
        refine X_goto (tgt := 1130) (show decode cL_law 1126 = .ok (.goto 4, 3) by decide +kernel) (by decide) ?_
        refine X_pick (ls' := [(0, .ref _), (1, .ref _), (2, .ref _), (3, .ref _), (4, .ref _), (5, .int _)]) [0, 1, 2, 3, 4, 5] rfl ?_
        exact kL_law_J1130 hc28 _ _ _ _ _ _ _ _ _ w
  · have w := w.2 c259
    refine X_iconst (v := (nI 0)) (show decode cL_law 1110 = .ok (.iconst 0, 1) by decide +kernel) (by decide) ?_
    exact X_iret ⟨(show decode cL_law 1111 = .ok (.ireturn, 1) by decide +kernel), .boolean, rfl, (by decide)⟩ ⟨_, rfl, w⟩
set_option maxRecDepth 100000 in
set_option maxHeartbeats 4000000 in
theorem kL_law_J1139 {rc0 rs0 : Nat} {K : Int32 → AH → Prop} {c28 : Nat → Nat → Nat → Nat → Nat → Int32 → AH → Prop} (hc28 : ∀ x0 x1 x2 x3 x4 x5 h, c28 x0 x1 x2 x3 x4 x5 h → X mL_law 20 (KI K) T0 rc0 rs0 28 [(0, .ref x0), (1, .ref x1), (2, .ref x2), (3, .ref x3), (4, .ref x4), (5, .int x5)] [] h) (x0 : Nat) (x1 : Nat) (x2 : Nat) (x3 : Nat) (x4 : Nat) (x5 : Int32) (h : AH) (w : wL_law_J1139 K c28 x0 x1 x2 x3 x4 x5 h) : X mL_law 20 (KI K) T0 (rc0 + 2) (rs0 + 12) 1139 [(0, .ref x0), (1, .ref x1), (2, .ref x2), (3, .ref x3), (4, .ref x4), (5, .int x5)] [] h := by
  unfold wL_law_J1139 at w
  refine X_aload_n (j := 1) (show decode cL_law 1139 = .ok (.aload_n 1, 1) by decide +kernel) rfl rfl ?_
  refine X_aload_n (j := 0) (show decode cL_law 1140 = .ok (.aload_n 0, 1) by decide +kernel) rfl rfl ?_
  refine X_iload (j := 5) (show decode cL_law 1141 = .ok (.iload 5, 2) by decide +kernel) rfl ?_
  refine X_iconst (v := (nI 1)) (show decode cL_law 1143 = .ok (.iconst 1, 1) by decide +kernel) (by decide) ?_
  refine X_iadd (show decode cL_law 1144 = .ok (.iadd, 1) by decide +kernel) ?_
  obtain ⟨s267, w⟩ := w
  obtain ⟨s268, w⟩ := w
  refine X_iald (show decode cL_law 1145 = .ok (.iaload, 1) by decide +kernel) (isA_eq s267) s268 ?_
  refine X_aload_n (j := 3) (show decode cL_law 1146 = .ok (.aload_n 3, 1) by decide +kernel) rfl rfl ?_
  refine X_sH (rc' := rc0) (rs' := rs0) (as := [.ref _, .int _, .ref _]) msh_L_216 (show decode cL_law 1147 = .ok (.invokestatic 216, 3) by decide +kernel) (by decide) (by omega) (by omega) rfl rfl (Nat.le_of_ble_eq_true rfl) (kL_lockedBy w) (fun r270 h269 w => ?_)
  refine X_istore (ls' := [(0, .ref _), (1, .ref _), (2, .ref _), (3, .ref _), (4, .ref _), (5, .int _), (6, .int _)]) (show decode cL_law 1150 = .ok (.istore 6, 2) by decide +kernel) (by decide) rfl ?_
  refine X_aload_n (j := 2) (show decode cL_law 1152 = .ok (.aload_n 2, 1) by decide +kernel) rfl rfl ?_
  refine X_aload_n (j := 0) (show decode cL_law 1153 = .ok (.aload_n 0, 1) by decide +kernel) rfl rfl ?_
  refine X_iload (j := 5) (show decode cL_law 1154 = .ok (.iload 5, 2) by decide +kernel) rfl ?_
  refine X_iconst (v := (nI 1)) (show decode cL_law 1156 = .ok (.iconst 1, 1) by decide +kernel) (by decide) ?_
  refine X_iadd (show decode cL_law 1157 = .ok (.iadd, 1) by decide +kernel) ?_
  obtain ⟨s271, w⟩ := w
  obtain ⟨s272, w⟩ := w
  refine X_iald (show decode cL_law 1158 = .ok (.iaload, 1) by decide +kernel) (isA_eq s271) s272 ?_
  obtain ⟨s283, w⟩ := w
  refine X_vI (rc' := rc0) (rs' := rs0) (as := [.int _]) mv_L_218 (show decode cL_law 1159 = .ok (.invokevirtual 218, 3) by decide +kernel) (by decide) (by omega) (by omega) rfl rfl (Nat.le_of_ble_eq_true rfl) (rcvD s283 (by decide) rfl) (kX10_lockedBy w) (fun E h hk => hk.elim) (fun r274 h273 w => ?_)
  refine X_istore (ls' := [(0, .ref _), (1, .ref _), (2, .ref _), (3, .ref _), (4, .ref _), (5, .int _), (6, .int _), (7, .int _)]) (show decode cL_law 1162 = .ok (.istore 7, 2) by decide +kernel) (by decide) rfl ?_
  refine X_aload_n (j := 2) (show decode cL_law 1164 = .ok (.aload_n 2, 1) by decide +kernel) rfl rfl ?_
  obtain ⟨s282, w⟩ := w
  refine X_vI (rc' := rc0) (rs' := rs0) (as := []) mv_L_168 (show decode cL_law 1165 = .ok (.invokevirtual 168, 3) by decide +kernel) (by decide) (by omega) (by omega) rfl rfl (Nat.le_of_ble_eq_true rfl) (rcvD s282 (by decide) rfl) (kX10_thrown w) (fun E h hk => hk.elim) (fun r276 h275 w => ?_)
  refine X_iload (j := 6) (show decode cL_law 1168 = .ok (.iload 6, 2) by decide +kernel) rfl ?_
  refine X_icmp_eq (tgt := 1175) (show decode cL_law 1170 = .ok (.if_icmp .eq 5, 3) by decide +kernel) (by decide) ⟨fun c277 => ?_, fun c277 => ?_⟩
  · have w := w.1 c277
    refine X_iload (j := 6) (show decode cL_law 1175 = .ok (.iload 6, 2) by decide +kernel) rfl ?_
    refine X_if_ne (tgt := 1192) (show decode cL_law 1177 = .ok (.ifCond .ne 15, 3) by decide +kernel) (by decide) ⟨fun c278 => ?_, fun c278 => ?_⟩
    · have w := w.1 c278
      refine X_goto (tgt := 2925) (show decode cL_law 1192 = .ok (.goto 1733, 3) by decide +kernel) (by decide) ?_
      refine X_iinc (j := 5) (v := _ + (nI 4)) (ls' := [(0, .ref _), (1, .ref _), (2, .ref _), (3, .ref _), (4, .ref _), (5, .int _), (6, .int _), (7, .int _)]) (show decode cL_law 2925 = .ok (.iinc 5 4, 3) by decide +kernel) rfl rfl (Nat.le_of_ble_eq_true rfl) rfl ?_
      refine X_goto (tgt := 28) (show decode cL_law 2928 = .ok (.goto (-2900), 3) by decide +kernel) (by decide) ?_
      refine X_pick (ls' := [(0, .ref _), (1, .ref _), (2, .ref _), (3, .ref _), (4, .ref _), (5, .int _)]) [0, 1, 2, 3, 4, 5] rfl ?_
      exact hc28 _ _ _ _ _ _ _ w
    · have w := w.2 c278
      refine X_aload_n (j := 3) (show decode cL_law 1180 = .ok (.aload_n 3, 1) by decide +kernel) rfl rfl ?_
      refine X_iconst (v := (nI 0)) (show decode cL_law 1181 = .ok (.iconst 0, 1) by decide +kernel) (by decide) ?_
      obtain ⟨s279, w⟩ := w
      obtain ⟨s280, w⟩ := w
      refine X_lald (show decode cL_law 1182 = .ok (.laload, 1) by decide +kernel) (isA_eq s279) s280 ?_
      refine X_iload (j := 7) (show decode cL_law 1183 = .ok (.iload 7, 2) by decide +kernel) rfl ?_
      refine X_i2l (show decode cL_law 1185 = .ok (.i2l, 1) by decide +kernel) ?_
      refine X_lcmp (show decode cL_law 1186 = .ok (.lcmp, 1) by decide +kernel) ?_
      refine X_if_eq (tgt := 1192) (show decode cL_law 1187 = .ok (.ifCond .eq 5, 3) by decide +kernel) (by decide) ⟨fun c281 => ?_, fun c281 => ?_⟩
      · have w := w.1 c281
        refine X_goto (tgt := 2925) (show decode cL_law 1192 = .ok (.goto 1733, 3) by decide +kernel) (by decide) ?_
        refine X_iinc (j := 5) (v := _ + (nI 4)) (ls' := [(0, .ref _), (1, .ref _), (2, .ref _), (3, .ref _), (4, .ref _), (5, .int _), (6, .int _), (7, .int _)]) (show decode cL_law 2925 = .ok (.iinc 5 4, 3) by decide +kernel) rfl rfl (Nat.le_of_ble_eq_true rfl) rfl ?_
        refine X_goto (tgt := 28) (show decode cL_law 2928 = .ok (.goto (-2900), 3) by decide +kernel) (by decide) ?_
        refine X_pick (ls' := [(0, .ref _), (1, .ref _), (2, .ref _), (3, .ref _), (4, .ref _), (5, .int _)]) [0, 1, 2, 3, 4, 5] rfl ?_
        exact hc28 _ _ _ _ _ _ _ w
      · have w := w.2 c281
        refine X_iconst (v := (nI 0)) (show decode cL_law 1190 = .ok (.iconst 0, 1) by decide +kernel) (by decide) ?_
        exact X_iret ⟨(show decode cL_law 1191 = .ok (.ireturn, 1) by decide +kernel), .boolean, rfl, (by decide)⟩ ⟨_, rfl, w⟩
  · have w := w.2 c277
    refine X_iconst (v := (nI 0)) (show decode cL_law 1173 = .ok (.iconst 0, 1) by decide +kernel) (by decide) ?_
    exact X_iret ⟨(show decode cL_law 1174 = .ok (.ireturn, 1) by decide +kernel), .boolean, rfl, (by decide)⟩ ⟨_, rfl, w⟩
set_option maxRecDepth 100000 in
set_option maxHeartbeats 4000000 in
theorem kL_law_J1195 {rc0 rs0 : Nat} {K : Int32 → AH → Prop} {c28 : Nat → Nat → Nat → Nat → Nat → Int32 → AH → Prop} (hc28 : ∀ x0 x1 x2 x3 x4 x5 h, c28 x0 x1 x2 x3 x4 x5 h → X mL_law 20 (KI K) T0 rc0 rs0 28 [(0, .ref x0), (1, .ref x1), (2, .ref x2), (3, .ref x3), (4, .ref x4), (5, .int x5)] [] h) (x0 : Nat) (x1 : Nat) (x2 : Nat) (x3 : Nat) (x4 : Nat) (x5 : Int32) (h : AH) (w : wL_law_J1195 K c28 x0 x1 x2 x3 x4 x5 h) : X mL_law 20 (KI K) T0 (rc0 + 3) (rs0 + 18) 1195 [(0, .ref x0), (1, .ref x1), (2, .ref x2), (3, .ref x3), (4, .ref x4), (5, .int x5)] [] h := by
  unfold wL_law_J1195 at w
  refine X_aload_n (j := 1) (show decode cL_law 1195 = .ok (.aload_n 1, 1) by decide +kernel) rfl rfl ?_
  refine X_aload_n (j := 0) (show decode cL_law 1196 = .ok (.aload_n 0, 1) by decide +kernel) rfl rfl ?_
  refine X_iload (j := 5) (show decode cL_law 1197 = .ok (.iload 5, 2) by decide +kernel) rfl ?_
  refine X_iconst (v := (nI 1)) (show decode cL_law 1199 = .ok (.iconst 1, 1) by decide +kernel) (by decide) ?_
  refine X_iadd (show decode cL_law 1200 = .ok (.iadd, 1) by decide +kernel) ?_
  obtain ⟨s284, w⟩ := w
  obtain ⟨s285, w⟩ := w
  refine X_iald (show decode cL_law 1201 = .ok (.iaload, 1) by decide +kernel) (isA_eq s284) s285 ?_
  refine X_aload_n (j := 0) (show decode cL_law 1202 = .ok (.aload_n 0, 1) by decide +kernel) rfl rfl ?_
  refine X_iload (j := 5) (show decode cL_law 1203 = .ok (.iload 5, 2) by decide +kernel) rfl ?_
  refine X_iconst (v := (nI 2)) (show decode cL_law 1205 = .ok (.iconst 2, 1) by decide +kernel) (by decide) ?_
  refine X_iadd (show decode cL_law 1206 = .ok (.iadd, 1) by decide +kernel) ?_
  obtain ⟨s286, w⟩ := w
  refine X_iald (show decode cL_law 1207 = .ok (.iaload, 1) by decide +kernel) (isA_eq s284) s286 ?_
  refine X_aload_n (j := 3) (show decode cL_law 1208 = .ok (.aload_n 3, 1) by decide +kernel) rfl rfl ?_
  refine X_sH (rc' := rc0) (rs' := rs0) (as := [.ref _, .int _, .int _, .ref _]) msh_L_219 (show decode cL_law 1209 = .ok (.invokestatic 219, 3) by decide +kernel) (by decide) (by omega) (by omega) rfl rfl (Nat.le_of_ble_eq_true rfl) (kL_routeLength w) (fun r288 h287 w => ?_)
  refine X_istore (ls' := [(0, .ref _), (1, .ref _), (2, .ref _), (3, .ref _), (4, .ref _), (5, .int _), (6, .int _)]) (show decode cL_law 1212 = .ok (.istore 6, 2) by decide +kernel) (by decide) rfl ?_
  refine X_aload_n (j := 2) (show decode cL_law 1214 = .ok (.aload_n 2, 1) by decide +kernel) rfl rfl ?_
  refine X_aload_n (j := 0) (show decode cL_law 1215 = .ok (.aload_n 0, 1) by decide +kernel) rfl rfl ?_
  refine X_iload (j := 5) (show decode cL_law 1216 = .ok (.iload 5, 2) by decide +kernel) rfl ?_
  refine X_iconst (v := (nI 1)) (show decode cL_law 1218 = .ok (.iconst 1, 1) by decide +kernel) (by decide) ?_
  refine X_iadd (show decode cL_law 1219 = .ok (.iadd, 1) by decide +kernel) ?_
  obtain ⟨s289, w⟩ := w
  obtain ⟨s290, w⟩ := w
  refine X_iald (show decode cL_law 1220 = .ok (.iaload, 1) by decide +kernel) (isA_eq s289) s290 ?_
  refine X_aload_n (j := 0) (show decode cL_law 1221 = .ok (.aload_n 0, 1) by decide +kernel) rfl rfl ?_
  refine X_iload (j := 5) (show decode cL_law 1222 = .ok (.iload 5, 2) by decide +kernel) rfl ?_
  refine X_iconst (v := (nI 2)) (show decode cL_law 1224 = .ok (.iconst 2, 1) by decide +kernel) (by decide) ?_
  refine X_iadd (show decode cL_law 1225 = .ok (.iadd, 1) by decide +kernel) ?_
  obtain ⟨s291, w⟩ := w
  refine X_iald (show decode cL_law 1226 = .ok (.iaload, 1) by decide +kernel) (isA_eq s289) s291 ?_
  obtain ⟨s302, w⟩ := w
  refine X_vI (rc' := rc0) (rs' := rs0) (as := [.int _, .int _]) mv_L_221 (show decode cL_law 1227 = .ok (.invokevirtual 221, 3) by decide +kernel) (by decide) (by omega) (by omega) rfl rfl (Nat.le_of_ble_eq_true rfl) (rcvD s302 (by decide) rfl) (kX10_routeLength w) (fun E h hk => hk.elim) (fun r293 h292 w => ?_)
  refine X_istore (ls' := [(0, .ref _), (1, .ref _), (2, .ref _), (3, .ref _), (4, .ref _), (5, .int _), (6, .int _), (7, .int _)]) (show decode cL_law 1230 = .ok (.istore 7, 2) by decide +kernel) (by decide) rfl ?_
  refine X_aload_n (j := 2) (show decode cL_law 1232 = .ok (.aload_n 2, 1) by decide +kernel) rfl rfl ?_
  obtain ⟨s301, w⟩ := w
  refine X_vI (rc' := rc0) (rs' := rs0) (as := []) mv_L_168 (show decode cL_law 1233 = .ok (.invokevirtual 168, 3) by decide +kernel) (by decide) (by omega) (by omega) rfl rfl (Nat.le_of_ble_eq_true rfl) (rcvD s301 (by decide) rfl) (kX10_thrown w) (fun E h hk => hk.elim) (fun r295 h294 w => ?_)
  refine X_iload (j := 6) (show decode cL_law 1236 = .ok (.iload 6, 2) by decide +kernel) rfl ?_
  refine X_icmp_eq (tgt := 1243) (show decode cL_law 1238 = .ok (.if_icmp .eq 5, 3) by decide +kernel) (by decide) ⟨fun c296 => ?_, fun c296 => ?_⟩
  · have w := w.1 c296
    refine X_iload (j := 6) (show decode cL_law 1243 = .ok (.iload 6, 2) by decide +kernel) rfl ?_
    refine X_if_ne (tgt := 1260) (show decode cL_law 1245 = .ok (.ifCond .ne 15, 3) by decide +kernel) (by decide) ⟨fun c297 => ?_, fun c297 => ?_⟩
    · have w := w.1 c297
      refine X_goto (tgt := 2925) (show decode cL_law 1260 = .ok (.goto 1665, 3) by decide +kernel) (by decide) ?_
      refine X_iinc (j := 5) (v := _ + (nI 4)) (ls' := [(0, .ref _), (1, .ref _), (2, .ref _), (3, .ref _), (4, .ref _), (5, .int _), (6, .int _), (7, .int _)]) (show decode cL_law 2925 = .ok (.iinc 5 4, 3) by decide +kernel) rfl rfl (Nat.le_of_ble_eq_true rfl) rfl ?_
      refine X_goto (tgt := 28) (show decode cL_law 2928 = .ok (.goto (-2900), 3) by decide +kernel) (by decide) ?_
      refine X_pick (ls' := [(0, .ref _), (1, .ref _), (2, .ref _), (3, .ref _), (4, .ref _), (5, .int _)]) [0, 1, 2, 3, 4, 5] rfl ?_
      exact hc28 _ _ _ _ _ _ _ w
    · have w := w.2 c297
      refine X_aload_n (j := 3) (show decode cL_law 1248 = .ok (.aload_n 3, 1) by decide +kernel) rfl rfl ?_
      refine X_iconst (v := (nI 0)) (show decode cL_law 1249 = .ok (.iconst 0, 1) by decide +kernel) (by decide) ?_
      obtain ⟨s298, w⟩ := w
      obtain ⟨s299, w⟩ := w
      refine X_lald (show decode cL_law 1250 = .ok (.laload, 1) by decide +kernel) (isA_eq s298) s299 ?_
      refine X_iload (j := 7) (show decode cL_law 1251 = .ok (.iload 7, 2) by decide +kernel) rfl ?_
      refine X_i2l (show decode cL_law 1253 = .ok (.i2l, 1) by decide +kernel) ?_
      refine X_lcmp (show decode cL_law 1254 = .ok (.lcmp, 1) by decide +kernel) ?_
      refine X_if_eq (tgt := 1260) (show decode cL_law 1255 = .ok (.ifCond .eq 5, 3) by decide +kernel) (by decide) ⟨fun c300 => ?_, fun c300 => ?_⟩
      · have w := w.1 c300
        refine X_goto (tgt := 2925) (show decode cL_law 1260 = .ok (.goto 1665, 3) by decide +kernel) (by decide) ?_
        refine X_iinc (j := 5) (v := _ + (nI 4)) (ls' := [(0, .ref _), (1, .ref _), (2, .ref _), (3, .ref _), (4, .ref _), (5, .int _), (6, .int _), (7, .int _)]) (show decode cL_law 2925 = .ok (.iinc 5 4, 3) by decide +kernel) rfl rfl (Nat.le_of_ble_eq_true rfl) rfl ?_
        refine X_goto (tgt := 28) (show decode cL_law 2928 = .ok (.goto (-2900), 3) by decide +kernel) (by decide) ?_
        refine X_pick (ls' := [(0, .ref _), (1, .ref _), (2, .ref _), (3, .ref _), (4, .ref _), (5, .int _)]) [0, 1, 2, 3, 4, 5] rfl ?_
        exact hc28 _ _ _ _ _ _ _ w
      · have w := w.2 c300
        refine X_iconst (v := (nI 0)) (show decode cL_law 1258 = .ok (.iconst 0, 1) by decide +kernel) (by decide) ?_
        exact X_iret ⟨(show decode cL_law 1259 = .ok (.ireturn, 1) by decide +kernel), .boolean, rfl, (by decide)⟩ ⟨_, rfl, w⟩
  · have w := w.2 c296
    refine X_iconst (v := (nI 0)) (show decode cL_law 1241 = .ok (.iconst 0, 1) by decide +kernel) (by decide) ?_
    exact X_iret ⟨(show decode cL_law 1242 = .ok (.ireturn, 1) by decide +kernel), .boolean, rfl, (by decide)⟩ ⟨_, rfl, w⟩
set_option maxRecDepth 100000 in
set_option maxHeartbeats 4000000 in
theorem kL_law_J1263 {rc0 rs0 : Nat} {K : Int32 → AH → Prop} {c28 : Nat → Nat → Nat → Nat → Nat → Int32 → AH → Prop} (hc28 : ∀ x0 x1 x2 x3 x4 x5 h, c28 x0 x1 x2 x3 x4 x5 h → X mL_law 20 (KI K) T0 rc0 rs0 28 [(0, .ref x0), (1, .ref x1), (2, .ref x2), (3, .ref x3), (4, .ref x4), (5, .int x5)] [] h) (x0 : Nat) (x1 : Nat) (x2 : Nat) (x3 : Nat) (x4 : Nat) (x5 : Int32) (h : AH) (w : wL_law_J1263 K c28 x0 x1 x2 x3 x4 x5 h) : X mL_law 20 (KI K) T0 (rc0 + 3) (rs0 + 18) 1263 [(0, .ref x0), (1, .ref x1), (2, .ref x2), (3, .ref x3), (4, .ref x4), (5, .int x5)] [] h := by
  unfold wL_law_J1263 at w
  refine X_aload_n (j := 1) (show decode cL_law 1263 = .ok (.aload_n 1, 1) by decide +kernel) rfl rfl ?_
  refine X_aload_n (j := 0) (show decode cL_law 1264 = .ok (.aload_n 0, 1) by decide +kernel) rfl rfl ?_
  refine X_iload (j := 5) (show decode cL_law 1265 = .ok (.iload 5, 2) by decide +kernel) rfl ?_
  refine X_iconst (v := (nI 1)) (show decode cL_law 1267 = .ok (.iconst 1, 1) by decide +kernel) (by decide) ?_
  refine X_iadd (show decode cL_law 1268 = .ok (.iadd, 1) by decide +kernel) ?_
  obtain ⟨s303, w⟩ := w
  obtain ⟨s304, w⟩ := w
  refine X_iald (show decode cL_law 1269 = .ok (.iaload, 1) by decide +kernel) (isA_eq s303) s304 ?_
  refine X_aload_n (j := 0) (show decode cL_law 1270 = .ok (.aload_n 0, 1) by decide +kernel) rfl rfl ?_
  refine X_iload (j := 5) (show decode cL_law 1271 = .ok (.iload 5, 2) by decide +kernel) rfl ?_
  refine X_iconst (v := (nI 2)) (show decode cL_law 1273 = .ok (.iconst 2, 1) by decide +kernel) (by decide) ?_
  refine X_iadd (show decode cL_law 1274 = .ok (.iadd, 1) by decide +kernel) ?_
  obtain ⟨s305, w⟩ := w
  refine X_iald (show decode cL_law 1275 = .ok (.iaload, 1) by decide +kernel) (isA_eq s303) s305 ?_
  refine X_aload_n (j := 3) (show decode cL_law 1276 = .ok (.aload_n 3, 1) by decide +kernel) rfl rfl ?_
  refine X_sH (rc' := rc0) (rs' := rs0) (as := [.ref _, .int _, .int _, .ref _]) msh_L_222 (show decode cL_law 1277 = .ok (.invokestatic 222, 3) by decide +kernel) (by decide) (by omega) (by omega) rfl rfl (Nat.le_of_ble_eq_true rfl) (kL_routeLengthByPaths w) (fun r307 h306 w => ?_)
  refine X_istore (ls' := [(0, .ref _), (1, .ref _), (2, .ref _), (3, .ref _), (4, .ref _), (5, .int _), (6, .int _)]) (show decode cL_law 1280 = .ok (.istore 6, 2) by decide +kernel) (by decide) rfl ?_
  refine X_aload_n (j := 2) (show decode cL_law 1282 = .ok (.aload_n 2, 1) by decide +kernel) rfl rfl ?_
  refine X_aload_n (j := 0) (show decode cL_law 1283 = .ok (.aload_n 0, 1) by decide +kernel) rfl rfl ?_
  refine X_iload (j := 5) (show decode cL_law 1284 = .ok (.iload 5, 2) by decide +kernel) rfl ?_
  refine X_iconst (v := (nI 1)) (show decode cL_law 1286 = .ok (.iconst 1, 1) by decide +kernel) (by decide) ?_
  refine X_iadd (show decode cL_law 1287 = .ok (.iadd, 1) by decide +kernel) ?_
  obtain ⟨s308, w⟩ := w
  obtain ⟨s309, w⟩ := w
  refine X_iald (show decode cL_law 1288 = .ok (.iaload, 1) by decide +kernel) (isA_eq s308) s309 ?_
  refine X_aload_n (j := 0) (show decode cL_law 1289 = .ok (.aload_n 0, 1) by decide +kernel) rfl rfl ?_
  refine X_iload (j := 5) (show decode cL_law 1290 = .ok (.iload 5, 2) by decide +kernel) rfl ?_
  refine X_iconst (v := (nI 2)) (show decode cL_law 1292 = .ok (.iconst 2, 1) by decide +kernel) (by decide) ?_
  refine X_iadd (show decode cL_law 1293 = .ok (.iadd, 1) by decide +kernel) ?_
  obtain ⟨s310, w⟩ := w
  refine X_iald (show decode cL_law 1294 = .ok (.iaload, 1) by decide +kernel) (isA_eq s308) s310 ?_
  obtain ⟨s321, w⟩ := w
  refine X_vI (rc' := rc0) (rs' := rs0) (as := [.int _, .int _]) mv_L_224 (show decode cL_law 1295 = .ok (.invokevirtual 224, 3) by decide +kernel) (by decide) (by omega) (by omega) rfl rfl (Nat.le_of_ble_eq_true rfl) (rcvD s321 (by decide) rfl) (kX10_routeLengthByPaths w) (fun E h hk => hk.elim) (fun r312 h311 w => ?_)
  refine X_istore (ls' := [(0, .ref _), (1, .ref _), (2, .ref _), (3, .ref _), (4, .ref _), (5, .int _), (6, .int _), (7, .int _)]) (show decode cL_law 1298 = .ok (.istore 7, 2) by decide +kernel) (by decide) rfl ?_
  refine X_aload_n (j := 2) (show decode cL_law 1300 = .ok (.aload_n 2, 1) by decide +kernel) rfl rfl ?_
  obtain ⟨s320, w⟩ := w
  refine X_vI (rc' := rc0) (rs' := rs0) (as := []) mv_L_168 (show decode cL_law 1301 = .ok (.invokevirtual 168, 3) by decide +kernel) (by decide) (by omega) (by omega) rfl rfl (Nat.le_of_ble_eq_true rfl) (rcvD s320 (by decide) rfl) (kX10_thrown w) (fun E h hk => hk.elim) (fun r314 h313 w => ?_)
  refine X_iload (j := 6) (show decode cL_law 1304 = .ok (.iload 6, 2) by decide +kernel) rfl ?_
  refine X_icmp_eq (tgt := 1311) (show decode cL_law 1306 = .ok (.if_icmp .eq 5, 3) by decide +kernel) (by decide) ⟨fun c315 => ?_, fun c315 => ?_⟩
  · have w := w.1 c315
    refine X_iload (j := 6) (show decode cL_law 1311 = .ok (.iload 6, 2) by decide +kernel) rfl ?_
    refine X_if_ne (tgt := 1328) (show decode cL_law 1313 = .ok (.ifCond .ne 15, 3) by decide +kernel) (by decide) ⟨fun c316 => ?_, fun c316 => ?_⟩
    · have w := w.1 c316
      refine X_goto (tgt := 2925) (show decode cL_law 1328 = .ok (.goto 1597, 3) by decide +kernel) (by decide) ?_
      refine X_iinc (j := 5) (v := _ + (nI 4)) (ls' := [(0, .ref _), (1, .ref _), (2, .ref _), (3, .ref _), (4, .ref _), (5, .int _), (6, .int _), (7, .int _)]) (show decode cL_law 2925 = .ok (.iinc 5 4, 3) by decide +kernel) rfl rfl (Nat.le_of_ble_eq_true rfl) rfl ?_
      refine X_goto (tgt := 28) (show decode cL_law 2928 = .ok (.goto (-2900), 3) by decide +kernel) (by decide) ?_
      refine X_pick (ls' := [(0, .ref _), (1, .ref _), (2, .ref _), (3, .ref _), (4, .ref _), (5, .int _)]) [0, 1, 2, 3, 4, 5] rfl ?_
      exact hc28 _ _ _ _ _ _ _ w
    · have w := w.2 c316
      refine X_aload_n (j := 3) (show decode cL_law 1316 = .ok (.aload_n 3, 1) by decide +kernel) rfl rfl ?_
      refine X_iconst (v := (nI 0)) (show decode cL_law 1317 = .ok (.iconst 0, 1) by decide +kernel) (by decide) ?_
      obtain ⟨s317, w⟩ := w
      obtain ⟨s318, w⟩ := w
      refine X_lald (show decode cL_law 1318 = .ok (.laload, 1) by decide +kernel) (isA_eq s317) s318 ?_
      refine X_iload (j := 7) (show decode cL_law 1319 = .ok (.iload 7, 2) by decide +kernel) rfl ?_
      refine X_i2l (show decode cL_law 1321 = .ok (.i2l, 1) by decide +kernel) ?_
      refine X_lcmp (show decode cL_law 1322 = .ok (.lcmp, 1) by decide +kernel) ?_
      refine X_if_eq (tgt := 1328) (show decode cL_law 1323 = .ok (.ifCond .eq 5, 3) by decide +kernel) (by decide) ⟨fun c319 => ?_, fun c319 => ?_⟩
      · have w := w.1 c319
        refine X_goto (tgt := 2925) (show decode cL_law 1328 = .ok (.goto 1597, 3) by decide +kernel) (by decide) ?_
        refine X_iinc (j := 5) (v := _ + (nI 4)) (ls' := [(0, .ref _), (1, .ref _), (2, .ref _), (3, .ref _), (4, .ref _), (5, .int _), (6, .int _), (7, .int _)]) (show decode cL_law 2925 = .ok (.iinc 5 4, 3) by decide +kernel) rfl rfl (Nat.le_of_ble_eq_true rfl) rfl ?_
        refine X_goto (tgt := 28) (show decode cL_law 2928 = .ok (.goto (-2900), 3) by decide +kernel) (by decide) ?_
        refine X_pick (ls' := [(0, .ref _), (1, .ref _), (2, .ref _), (3, .ref _), (4, .ref _), (5, .int _)]) [0, 1, 2, 3, 4, 5] rfl ?_
        exact hc28 _ _ _ _ _ _ _ w
      · have w := w.2 c319
        refine X_iconst (v := (nI 0)) (show decode cL_law 1326 = .ok (.iconst 0, 1) by decide +kernel) (by decide) ?_
        exact X_iret ⟨(show decode cL_law 1327 = .ok (.ireturn, 1) by decide +kernel), .boolean, rfl, (by decide)⟩ ⟨_, rfl, w⟩
  · have w := w.2 c315
    refine X_iconst (v := (nI 0)) (show decode cL_law 1309 = .ok (.iconst 0, 1) by decide +kernel) (by decide) ?_
    exact X_iret ⟨(show decode cL_law 1310 = .ok (.ireturn, 1) by decide +kernel), .boolean, rfl, (by decide)⟩ ⟨_, rfl, w⟩
