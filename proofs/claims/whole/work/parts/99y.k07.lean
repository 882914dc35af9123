set_option maxRecDepth 100000 in
set_option maxHeartbeats 4000000 in
theorem kX2_putBack {a0 : Nat} {a1 : Nat} {h : AH} {K : AH → Prop} (w : wX2_putBack a0 a1 h K) : Cn mX2_putBack (cwd mX2_putBack) 4 0 0 [.ref a0, .ref a1] h (KV K) T0 := by
  refine Cn_of (by decide +kernel) rfl (Nat.le_of_ble_eq_true rfl) ?_
  show X mX2_putBack 4 (KV K) T0 0 0 0 [(0, .ref a0), (1, .ref a1)] [] h
  unfold wX2_putBack at w
  refine X_aload_n (j := 1) (show decode cX2_putBack 0 = .ok (.aload_n 1, 1) by decide +kernel) rfl rfl ?_
  refine X_aload_n (j := 0) (show decode cX2_putBack 1 = .ok (.aload_n 0, 1) by decide +kernel) rfl rfl ?_
  obtain ⟨s1, w⟩ := w
  refine X_getR fl_X2_13 (show decode cX2_putBack 2 = .ok (.getfield 13, 3) by decide +kernel) s1 ?_
  refine X_aload_n (j := 0) (show decode cX2_putBack 5 = .ok (.aload_n 0, 1) by decide +kernel) rfl rfl ?_
  refine X_getI fl_X2_17 (show decode cX2_putBack 6 = .ok (.getfield 17, 3) by decide +kernel) s1 ?_
  obtain ⟨s2, w⟩ := w
  obtain ⟨s3, w⟩ := w
  refine X_aaldS (show decode cX2_putBack 9 = .ok (.aaload, 1) by decide +kernel) (isA_eq s2) s3 ?_
  obtain ⟨s6, w⟩ := w
  refine X_vV (rc' := 0) (rs' := 0) (as := [.ref _]) mv_X2_25 (show decode cX2_putBack 10 = .ok (.invokevirtual 25, 3) by decide +kernel) (by decide) (Nat.le_of_ble_eq_true rfl) (Nat.le_of_ble_eq_true rfl) rfl rfl (Nat.le_of_ble_eq_true rfl) (rcvD s6 (by decide) rfl) (kX7_copyFrom w) (fun E h hk => hk.elim) (fun h4 w => ?_)
  exact X_vret ⟨(show decode cX2_putBack 13 = .ok (.return_, 1) by decide +kernel), rfl⟩ ⟨rfl, w⟩
set_option maxRecDepth 100000 in
set_option maxHeartbeats 4000000 in
theorem kX9_run_L54 {K : Int32 → AH → Prop} {T : String → AH → Prop}    : ∀ (n : Nat) (x0 : Nat) (x2 : Int32) (h : AH), wX9_run_L54 K T   n x0 x2 h → X mX9_run 10 (KI K) T 1 6 54 [(0, .ref x0), (2, .int x2)] [] h := by
  intro n
  induction n with
  | zero => intro _ _ _ w; exact w.elim
  | succ n ih =>
    intro x0 x2 h w
    rw [wX9_run_L54] at w
    refine X_iload_n (j := 1) (show decode cX9_run 54 = .ok (.iload_n 2, 1) by decide +kernel) rfl rfl ?_
    refine X_aload_n (j := 0) (show decode cX9_run 55 = .ok (.aload_n 0, 1) by decide +kernel) rfl rfl ?_
    obtain ⟨s11, w⟩ := w
    refine X_getR fl_X9_39 (show decode cX9_run 56 = .ok (.getfield 39, 3) by decide +kernel) s11 ?_
    obtain ⟨s12, w⟩ := w
    refine X_getI fl_X9_342 (show decode cX9_run 59 = .ok (.getfield 342, 3) by decide +kernel) s12 ?_
    refine X_icmp_ge (tgt := 106) (show decode cX9_run 62 = .ok (.if_icmp .ge 44, 3) by decide +kernel) (by decide) ⟨fun c13 => ?_, fun c13 => ?_⟩
    · have w := w.1 c13
      refine X_aload_n (j := 0) (show decode cX9_run 106 = .ok (.aload_n 0, 1) by decide +kernel) rfl rfl ?_
      refine X_aload_n (j := 0) (show decode cX9_run 107 = .ok (.aload_n 0, 1) by decide +kernel) rfl rfl ?_
      refine X_getR fl_X9_39 (show decode cX9_run 108 = .ok (.getfield 39, 3) by decide +kernel) s11 ?_
      refine X_getI fl_X9_342 (show decode cX9_run 111 = .ok (.getfield 342, 3) by decide +kernel) s12 ?_
      refine X_vI (rc' := 0) (rs' := 0) (as := [.int _]) mv_X9_82 (show decode cX9_run 114 = .ok (.invokevirtual 82, 3) by decide +kernel) (by decide) (Nat.le_of_ble_eq_true rfl) (Nat.le_of_ble_eq_true rfl) rfl rfl (Nat.le_of_ble_eq_true rfl) (rcvD s11 (by decide) rfl) (kX9_settle w) (fun E h hk => XT_out hk (fun x hx => absurd hx List.not_mem_nil)) (fun r15 h14 w => ?_)
      exact X_iret ⟨(show decode cX9_run 117 = .ok (.ireturn, 1) by decide +kernel), .int, rfl, rfl⟩ ⟨_, rfl, w⟩
    · have w := w.2 c13
      refine X_aload_n (j := 0) (show decode cX9_run 65 = .ok (.aload_n 0, 1) by decide +kernel) rfl rfl ?_
      refine X_iload_n (j := 1) (show decode cX9_run 66 = .ok (.iload_n 2, 1) by decide +kernel) rfl rfl ?_
      refine X_vI (rc' := 1) (rs' := 6) (as := [.int _]) mv_X9_345 (show decode cX9_run 67 = .ok (.invokevirtual 345, 3) by decide +kernel) (by decide) (Nat.le_of_ble_eq_true rfl) (Nat.le_of_ble_eq_true rfl) rfl rfl (Nat.le_of_ble_eq_true rfl) (rcvD s11 (by decide) rfl) (kX9_execute w) (fun E h hk => hk.elim) (fun r17 h16 w => ?_)
      refine X_if_ge (tgt := 100) (show decode cX9_run 70 = .ok (.ifCond .ge 30, 3) by decide +kernel) (by decide) ⟨fun c18 => ?_, fun c18 => ?_⟩
      · have w := w.1 c18
        refine X_iinc (j := 1) (v := _ + (nI 1)) (ls' := [(0, .ref _), (2, .int _)]) (show decode cX9_run 100 = .ok (.iinc 2 1, 3) by decide +kernel) rfl rfl (Nat.le_of_ble_eq_true rfl) rfl ?_
        refine X_goto (tgt := 54) (show decode cX9_run 103 = .ok (.goto (-49), 3) by decide +kernel) (by decide) ?_
        exact ih _ _ _ w
      · have w := w.2 c18
        refine X_aload_n (j := 0) (show decode cX9_run 73 = .ok (.aload_n 0, 1) by decide +kernel) rfl rfl ?_
        obtain ⟨s19, w⟩ := w
        refine X_getR fl_X9_25 (show decode cX9_run 74 = .ok (.getfield 25, 3) by decide +kernel) s19 ?_
        refine X_aload_n (j := 0) (show decode cX9_run 77 = .ok (.aload_n 0, 1) by decide +kernel) rfl rfl ?_
        refine X_getR fl_X9_12 (show decode cX9_run 78 = .ok (.getfield 12, 3) by decide +kernel) s19 ?_
        obtain ⟨s24, w⟩ := w
        refine X_vV (rc' := 1) (rs' := 6) (as := [.ref _]) mv_X9_348 (show decode cX9_run 81 = .ok (.invokevirtual 348, 3) by decide +kernel) (by decide) (Nat.le_of_ble_eq_true rfl) (Nat.le_of_ble_eq_true rfl) rfl rfl (Nat.le_of_ble_eq_true rfl) (rcvD s24 (by decide) rfl) (kX2_putBack w) (fun E h hk => hk.elim) (fun h20 w => ?_)
        refine X_aload_n (j := 0) (show decode cX9_run 84 = .ok (.aload_n 0, 1) by decide +kernel) rfl rfl ?_
        refine X_iload_n (j := 1) (show decode cX9_run 85 = .ok (.iload_n 2, 1) by decide +kernel) rfl rfl ?_
        obtain ⟨s22, w⟩ := w
        refine X_putI fp_X9_65 (show decode cX9_run 86 = .ok (.putfield 65, 3) by decide +kernel) (fun z => nomatch z) s22 rfl rfl ?_
        have w := w _ rfl
        exact X_throwSW tw_X9_351_353 (show decode cX9_run 89 = .ok (.new 351, 3) by decide +kernel) (show decode cX9_run 92 = .ok (.dup, 1) by decide +kernel) (show decode cX9_run 93 = .ok (.ldc_w 353, 3) by decide +kernel) (show decode cX9_run 96 = .ok (.invokespecial 355, 3) by decide +kernel) (show decode cX9_run 99 = .ok (.athrow, 1) by decide +kernel) (fun x hx => absurd hx List.not_mem_nil) (by decide) (Nat.le_of_ble_eq_true rfl) (Nat.le_of_ble_eq_true rfl) (Nat.le_of_ble_eq_true rfl) w
set_option maxRecDepth 100000 in
set_option maxHeartbeats 4000000 in
theorem kX9_run {a0 : Nat} {h : AH} {K : Int32 → AH → Prop} {T : String → AH → Prop} (w : wX9_run a0 h K T) : Cn mX9_run (cwd mX9_run) 10 1 6 [.ref a0] h (KI K) T := by
  refine Cn_of (by decide +kernel) rfl (Nat.le_of_ble_eq_true rfl) ?_
  show X mX9_run 10 (KI K) T 1 6 0 [(0, .ref a0)] [] h
  unfold wX9_run at w
  refine X_aload_n (j := 0) (show decode cX9_run 0 = .ok (.aload_n 0, 1) by decide +kernel) rfl rfl ?_
  obtain ⟨s1, w⟩ := w
  refine X_getR fl_X9_39 (show decode cX9_run 1 = .ok (.getfield 39, 3) by decide +kernel) s1 ?_
  obtain ⟨s31, w⟩ := w
  refine X_vI (rc' := 1) (rs' := 6) (as := []) mv_X9_331 (show decode cX9_run 4 = .ok (.invokevirtual 331, 3) by decide +kernel) (by decide) (Nat.le_of_ble_eq_true rfl) (Nat.le_of_ble_eq_true rfl) rfl rfl (Nat.le_of_ble_eq_true rfl) (rcvD s31 (by decide) rfl) (kX5_parse w) (fun E h hk => hk.elim) (fun r3 h2 w => ?_)
  refine X_istore_n (ls' := [(0, .ref _), (1, .int _)]) (show decode cX9_run 7 = .ok (.istore_n 1, 1) by decide +kernel) rfl (by decide) rfl ?_
  refine X_aload_n (j := 0) (show decode cX9_run 8 = .ok (.aload_n 0, 1) by decide +kernel) rfl rfl ?_
  obtain ⟨s4, w⟩ := w
  refine X_getR fl_X9_39 (show decode cX9_run 9 = .ok (.getfield 39, 3) by decide +kernel) s4 ?_
  obtain ⟨s30, w⟩ := w
  refine X_vV (rc' := 1) (rs' := 6) (as := []) mv_X9_334 (show decode cX9_run 12 = .ok (.invokevirtual 334, 3) by decide +kernel) (by decide) (Nat.le_of_ble_eq_true rfl) (Nat.le_of_ble_eq_true rfl) rfl rfl (Nat.le_of_ble_eq_true rfl) (rcvD s30 (by decide) rfl) (kX5_clear w) (fun E h hk => hk.elim) (fun h5 w => ?_)
  refine X_iload_n (j := 1) (show decode cX9_run 15 = .ok (.iload_n 1, 1) by decide +kernel) rfl rfl ?_
  refine X_if_ne (tgt := 41) (show decode cX9_run 16 = .ok (.ifCond .ne 25, 3) by decide +kernel) (by decide) ⟨fun c7 => ?_, fun c7 => ?_⟩
  · have w := w.1 c7
    refine X_aload_n (j := 0) (show decode cX9_run 41 = .ok (.aload_n 0, 1) by decide +kernel) rfl rfl ?_
    obtain ⟨s8, w⟩ := w
    refine X_getR fl_X9_25 (show decode cX9_run 42 = .ok (.getfield 25, 3) by decide +kernel) s8 ?_
    refine X_aload_n (j := 0) (show decode cX9_run 45 = .ok (.aload_n 0, 1) by decide +kernel) rfl rfl ?_
    refine X_getR fl_X9_12 (show decode cX9_run 46 = .ok (.getfield 12, 3) by decide +kernel) s8 ?_
    obtain ⟨s26, w⟩ := w
    refine X_vV (rc' := 1) (rs' := 6) (as := [.ref _]) mv_X9_68 (show decode cX9_run 49 = .ok (.invokevirtual 68, 3) by decide +kernel) (by decide) (Nat.le_of_ble_eq_true rfl) (Nat.le_of_ble_eq_true rfl) rfl rfl (Nat.le_of_ble_eq_true rfl) (rcvD s26 (by decide) rfl) (kX2_keep w) (fun E h hk => hk.elim) (fun h9 w => ?_)
    refine X_iconst (v := (nI 0)) (show decode cX9_run 52 = .ok (.iconst 0, 1) by decide +kernel) (by decide) ?_
    refine X_istore_n (ls' := [(0, .ref _), (1, .int _), (2, .int _)]) (show decode cX9_run 53 = .ok (.istore_n 2, 1) by decide +kernel) rfl (by decide) rfl ?_
    refine X_pick (ls' := [(0, .ref _), (2, .int _)]) [0, 2] rfl ?_
    obtain ⟨n25, w⟩ := w
    exact kX9_run_L54  n25 _ _ _ w
  · have w := w.2 c7
    refine X_aload_n (j := 0) (show decode cX9_run 19 = .ok (.aload_n 0, 1) by decide +kernel) rfl rfl ?_
    refine X_aload_n (j := 0) (show decode cX9_run 20 = .ok (.aload_n 0, 1) by decide +kernel) rfl rfl ?_
    obtain ⟨s27, w⟩ := w
    refine X_getR fl_X9_39 (show decode cX9_run 21 = .ok (.getfield 39, 3) by decide +kernel) s27 ?_
    obtain ⟨s28, w⟩ := w
    refine X_getI fl_X9_337 (show decode cX9_run 24 = .ok (.getfield 337, 3) by decide +kernel) s28 ?_
    refine X_putI fp_X9_62 (show decode cX9_run 27 = .ok (.putfield 62, 3) by decide +kernel) (fun z => nomatch z) s27 rfl rfl ?_
    have w := w _ rfl
    exact X_throwSW tw_X9_244_340 (show decode cX9_run 30 = .ok (.new 244, 3) by decide +kernel) (show decode cX9_run 33 = .ok (.dup, 1) by decide +kernel) (show decode cX9_run 34 = .ok (.ldc_w 340, 3) by decide +kernel) (show decode cX9_run 37 = .ok (.invokespecial 248, 3) by decide +kernel) (show decode cX9_run 40 = .ok (.athrow, 1) by decide +kernel) (fun x hx => absurd hx List.not_mem_nil) (by decide) (Nat.le_of_ble_eq_true rfl) (Nat.le_of_ble_eq_true rfl) (Nat.le_of_ble_eq_true rfl) w
set_option maxRecDepth 100000 in
set_option maxHeartbeats 4000000 in
theorem kX9_errorPosition {a0 : Nat} {h : AH} {K : Int32 → AH → Prop} {T : String → AH → Prop} (w : wX9_errorPosition a0 h K T) : Cn mX9_errorPosition (cwd mX9_errorPosition) 8 1 6 [.ref a0] h (KI K) T := by
  refine Cn_of (by decide +kernel) rfl (Nat.le_of_ble_eq_true rfl) ?_
  show X mX9_errorPosition 8 (KI K) T 1 6 0 [(0, .ref a0)] [] h
  unfold wX9_errorPosition at w
  refine X_aload_n (j := 0) (show decode cX9_errorPosition 0 = .ok (.aload_n 0, 1) by decide +kernel) rfl rfl ?_
  obtain ⟨s1, w⟩ := w
  refine X_getI fl_X9_62 (show decode cX9_errorPosition 1 = .ok (.getfield 62, 3) by decide +kernel) s1 ?_
  refine X_iconst (v := (-1)) (show decode cX9_errorPosition 4 = .ok (.iconst (-1), 1) by decide +kernel) (by decide) ?_
  refine X_icmp_ne (tgt := 19) (show decode cX9_errorPosition 5 = .ok (.if_icmp .ne 14, 3) by decide +kernel) (by decide) ⟨fun c2 => ?_, fun c2 => ?_⟩
  · have w := w.1 c2
    refine X_aload_n (j := 0) (show decode cX9_errorPosition 19 = .ok (.aload_n 0, 1) by decide +kernel) rfl rfl ?_
    refine X_getI fl_X9_62 (show decode cX9_errorPosition 20 = .ok (.getfield 62, 3) by decide +kernel) s1 ?_
    exact X_iret ⟨(show decode cX9_errorPosition 23 = .ok (.ireturn, 1) by decide +kernel), .int, rfl, rfl⟩ ⟨_, rfl, w⟩
  · have w := w.2 c2
    exact X_throwN (w := 1) tn_X9_131_356 (show decode cX9_errorPosition 8 = .ok (.new 131, 3) by decide +kernel) (show decode cX9_errorPosition 11 = .ok (.dup, 1) by decide +kernel) (Or.inr ⟨rfl, (show decode cX9_errorPosition 12 = .ok (.ldc_w 356, 3) by decide +kernel)⟩) (show decode cX9_errorPosition 15 = .ok (.invokespecial 135, 3) by decide +kernel) (show decode cX9_errorPosition 18 = .ok (.athrow, 1) by decide +kernel) (fun x hx => absurd hx List.not_mem_nil) (by decide) (Nat.le_of_ble_eq_true rfl) (Nat.le_of_ble_eq_true rfl) (Nat.le_of_ble_eq_true rfl) w
set_option maxRecDepth 100000 in
set_option maxHeartbeats 4000000 in
theorem kX9_failedCommand {a0 : Nat} {h : AH} {K : Int32 → AH → Prop} {T : String → AH → Prop} (w : wX9_failedCommand a0 h K T) : Cn mX9_failedCommand (cwd mX9_failedCommand) 8 1 6 [.ref a0] h (KI K) T := by
  refine Cn_of (by decide +kernel) rfl (Nat.le_of_ble_eq_true rfl) ?_
  show X mX9_failedCommand 8 (KI K) T 1 6 0 [(0, .ref a0)] [] h
  unfold wX9_failedCommand at w
  refine X_aload_n (j := 0) (show decode cX9_failedCommand 0 = .ok (.aload_n 0, 1) by decide +kernel) rfl rfl ?_
  obtain ⟨s1, w⟩ := w
  refine X_getI fl_X9_65 (show decode cX9_failedCommand 1 = .ok (.getfield 65, 3) by decide +kernel) s1 ?_
  refine X_iconst (v := (-1)) (show decode cX9_failedCommand 4 = .ok (.iconst (-1), 1) by decide +kernel) (by decide) ?_
  refine X_icmp_ne (tgt := 19) (show decode cX9_failedCommand 5 = .ok (.if_icmp .ne 14, 3) by decide +kernel) (by decide) ⟨fun c2 => ?_, fun c2 => ?_⟩
  · have w := w.1 c2
    refine X_aload_n (j := 0) (show decode cX9_failedCommand 19 = .ok (.aload_n 0, 1) by decide +kernel) rfl rfl ?_
    refine X_getI fl_X9_65 (show decode cX9_failedCommand 20 = .ok (.getfield 65, 3) by decide +kernel) s1 ?_
    exact X_iret ⟨(show decode cX9_failedCommand 23 = .ok (.ireturn, 1) by decide +kernel), .int, rfl, rfl⟩ ⟨_, rfl, w⟩
  · have w := w.2 c2
    exact X_throwN (w := 1) tn_X9_131_358 (show decode cX9_failedCommand 8 = .ok (.new 131, 3) by decide +kernel) (show decode cX9_failedCommand 11 = .ok (.dup, 1) by decide +kernel) (Or.inr ⟨rfl, (show decode cX9_failedCommand 12 = .ok (.ldc_w 358, 3) by decide +kernel)⟩) (show decode cX9_failedCommand 15 = .ok (.invokespecial 135, 3) by decide +kernel) (show decode cX9_failedCommand 18 = .ok (.athrow, 1) by decide +kernel) (fun x hx => absurd hx List.not_mem_nil) (by decide) (Nat.le_of_ble_eq_true rfl) (Nat.le_of_ble_eq_true rfl) (Nat.le_of_ble_eq_true rfl) w
set_option maxRecDepth 100000 in
set_option maxHeartbeats 4000000 in
theorem kX2_takeBack {a0 : Nat} {a1 : Nat} {h : AH} {K : Int32 → AH → Prop} (w : wX2_takeBack a0 a1 h K) : Cn mX2_takeBack (cwd mX2_takeBack) 5 0 0 [.ref a0, .ref a1] h (KI K) T0 := by
  refine Cn_of (by decide +kernel) rfl (Nat.le_of_ble_eq_true rfl) ?_
  show X mX2_takeBack 5 (KI K) T0 0 0 0 [(0, .ref a0), (1, .ref a1)] [] h
  unfold wX2_takeBack at w
  refine X_aload_n (j := 0) (show decode cX2_takeBack 0 = .ok (.aload_n 0, 1) by decide +kernel) rfl rfl ?_
  obtain ⟨s1, w⟩ := w
  refine X_getI fl_X2_21 (show decode cX2_takeBack 1 = .ok (.getfield 21, 3) by decide +kernel) s1 ?_
  refine X_if_ne (tgt := 9) (show decode cX2_takeBack 4 = .ok (.ifCond .ne 5, 3) by decide +kernel) (by decide) ⟨fun c2 => ?_, fun c2 => ?_⟩
  · have w := w.1 c2
    refine X_aload_n (j := 0) (show decode cX2_takeBack 9 = .ok (.aload_n 0, 1) by decide +kernel) rfl rfl ?_
    refine X_dup (show decode cX2_takeBack 10 = .ok (.dup, 1) by decide +kernel) rfl ?_
    refine X_getI fl_X2_21 (show decode cX2_takeBack 11 = .ok (.getfield 21, 3) by decide +kernel) s1 ?_
    refine X_iconst (v := (nI 1)) (show decode cX2_takeBack 14 = .ok (.iconst 1, 1) by decide +kernel) (by decide) ?_
    refine X_isub (show decode cX2_takeBack 15 = .ok (.isub, 1) by decide +kernel) ?_
    refine X_putI fp_X2_21 (show decode cX2_takeBack 16 = .ok (.putfield 21, 3) by decide +kernel) (fun z => nomatch z) s1 rfl rfl ?_
    have w := w _ rfl
    refine X_aload_n (j := 0) (show decode cX2_takeBack 19 = .ok (.aload_n 0, 1) by decide +kernel) rfl rfl ?_
    refine X_aload_n (j := 0) (show decode cX2_takeBack 20 = .ok (.aload_n 0, 1) by decide +kernel) rfl rfl ?_
    refine X_getI fl_X2_17 (show decode cX2_takeBack 21 = .ok (.getfield 17, 3) by decide +kernel) s1 ?_
    refine X_bipush (v := (nI 9)) (show decode cX2_takeBack 24 = .ok (.bipush 9, 2) by decide +kernel) (by decide) ?_
    refine X_iadd (show decode cX2_takeBack 26 = .ok (.iadd, 1) by decide +kernel) ?_
    refine X_iconst (v := (nI 1)) (show decode cX2_takeBack 27 = .ok (.iconst 1, 1) by decide +kernel) (by decide) ?_
    refine X_isub (show decode cX2_takeBack 28 = .ok (.isub, 1) by decide +kernel) ?_
    refine X_bipush (v := (nI 9)) (show decode cX2_takeBack 29 = .ok (.bipush 9, 2) by decide +kernel) (by decide) ?_
    refine X_irem (show decode cX2_takeBack 31 = .ok (.irem, 1) by decide +kernel) (by decide) ?_
    refine X_putI fp_X2_17 (show decode cX2_takeBack 32 = .ok (.putfield 17, 3) by decide +kernel) (fun z => nomatch z) s1 rfl rfl ?_
    have w := w _ rfl
    refine X_aload_n (j := 0) (show decode cX2_takeBack 35 = .ok (.aload_n 0, 1) by decide +kernel) rfl rfl ?_
    refine X_aload_n (j := 1) (show decode cX2_takeBack 36 = .ok (.aload_n 1, 1) by decide +kernel) rfl rfl ?_
    refine X_vV (rc' := 0) (rs' := 0) (as := [.ref _]) mv_X2_35 (show decode cX2_takeBack 37 = .ok (.invokevirtual 35, 3) by decide +kernel) (by decide) (Nat.le_of_ble_eq_true rfl) (Nat.le_of_ble_eq_true rfl) rfl rfl (Nat.le_of_ble_eq_true rfl) (rcvD s1 (by decide) rfl) (kX2_putBack w) (fun E h hk => hk.elim) (fun h5 w => ?_)
    refine X_iconst (v := (nI 1)) (show decode cX2_takeBack 40 = .ok (.iconst 1, 1) by decide +kernel) (by decide) ?_
    exact X_iret ⟨(show decode cX2_takeBack 41 = .ok (.ireturn, 1) by decide +kernel), .boolean, rfl, (by decide)⟩ ⟨_, rfl, w⟩
  · have w := w.2 c2
    refine X_iconst (v := (nI 0)) (show decode cX2_takeBack 7 = .ok (.iconst 0, 1) by decide +kernel) (by decide) ?_
    exact X_iret ⟨(show decode cX2_takeBack 8 = .ok (.ireturn, 1) by decide +kernel), .boolean, rfl, (by decide)⟩ ⟨_, rfl, w⟩
set_option maxRecDepth 100000 in
set_option maxHeartbeats 4000000 in
theorem kX9_undo {a0 : Nat} {h : AH} {K : Int32 → AH → Prop} {T : String → AH → Prop} (w : wX9_undo a0 h K T) : Cn mX9_undo (cwd mX9_undo) 8 1 6 [.ref a0] h (KI K) T := by
  refine Cn_of (by decide +kernel) rfl (Nat.le_of_ble_eq_true rfl) ?_
  show X mX9_undo 8 (KI K) T 1 6 0 [(0, .ref a0)] [] h
  unfold wX9_undo at w
  refine X_aload_n (j := 0) (show decode cX9_undo 0 = .ok (.aload_n 0, 1) by decide +kernel) rfl rfl ?_
  obtain ⟨s1, w⟩ := w
  refine X_getR fl_X9_25 (show decode cX9_undo 1 = .ok (.getfield 25, 3) by decide +kernel) s1 ?_
  refine X_aload_n (j := 0) (show decode cX9_undo 4 = .ok (.aload_n 0, 1) by decide +kernel) rfl rfl ?_
  refine X_getR fl_X9_12 (show decode cX9_undo 5 = .ok (.getfield 12, 3) by decide +kernel) s1 ?_
  obtain ⟨s7, w⟩ := w
  refine X_vI (rc' := 1) (rs' := 6) (as := [.ref _]) mv_X9_360 (show decode cX9_undo 8 = .ok (.invokevirtual 360, 3) by decide +kernel) (by decide) (Nat.le_of_ble_eq_true rfl) (Nat.le_of_ble_eq_true rfl) rfl rfl (Nat.le_of_ble_eq_true rfl) (rcvD s7 (by decide) rfl) (kX2_takeBack w) (fun E h hk => hk.elim) (fun r3 h2 w => ?_)
  refine X_if_ne (tgt := 25) (show decode cX9_undo 11 = .ok (.ifCond .ne 14, 3) by decide +kernel) (by decide) ⟨fun c4 => ?_, fun c4 => ?_⟩
  · have w := w.1 c4
    refine X_aload_n (j := 0) (show decode cX9_undo 25 = .ok (.aload_n 0, 1) by decide +kernel) rfl rfl ?_
    obtain ⟨s5, w⟩ := w
    refine X_getR fl_X9_25 (show decode cX9_undo 26 = .ok (.getfield 25, 3) by decide +kernel) s5 ?_
    obtain ⟨s6, w⟩ := w
    refine X_getI fl_X9_365 (show decode cX9_undo 29 = .ok (.getfield 365, 3) by decide +kernel) s6 ?_
    exact X_iret ⟨(show decode cX9_undo 32 = .ok (.ireturn, 1) by decide +kernel), .int, rfl, rfl⟩ ⟨_, rfl, w⟩
  · have w := w.2 c4
    exact X_throwSW tw_X9_324_363 (show decode cX9_undo 14 = .ok (.new 324, 3) by decide +kernel) (show decode cX9_undo 17 = .ok (.dup, 1) by decide +kernel) (show decode cX9_undo 18 = .ok (.ldc_w 363, 3) by decide +kernel) (show decode cX9_undo 21 = .ok (.invokespecial 328, 3) by decide +kernel) (show decode cX9_undo 24 = .ok (.athrow, 1) by decide +kernel) (fun x hx => absurd hx List.not_mem_nil) (by decide) (Nat.le_of_ble_eq_true rfl) (Nat.le_of_ble_eq_true rfl) (Nat.le_of_ble_eq_true rfl) w
set_option maxRecDepth 100000 in
set_option maxHeartbeats 4000000 in
theorem kX9_save {a0 : Nat} {h : AH} {K : Int32 → AH → Prop} (w : wX9_save a0 h K) : Cn mX9_save (cwd mX9_save) 4 0 0 [.ref a0] h (KI K) T0 := by
  refine Cn_of (by decide +kernel) rfl (Nat.le_of_ble_eq_true rfl) ?_
  show X mX9_save 4 (KI K) T0 0 0 0 [(0, .ref a0)] [] h
  unfold wX9_save at w
  refine X_aload_n (j := 0) (show decode cX9_save 0 = .ok (.aload_n 0, 1) by decide +kernel) rfl rfl ?_
  obtain ⟨s1, w⟩ := w
  refine X_getR fl_X9_16 (show decode cX9_save 1 = .ok (.getfield 16, 3) by decide +kernel) s1 ?_
  refine X_aload_n (j := 0) (show decode cX9_save 4 = .ok (.aload_n 0, 1) by decide +kernel) rfl rfl ?_
  refine X_getR fl_X9_12 (show decode cX9_save 5 = .ok (.getfield 12, 3) by decide +kernel) s1 ?_
  obtain ⟨s7, w⟩ := w
  refine X_vV (rc' := 0) (rs' := 0) (as := [.ref _]) mv_X9_215 (show decode cX9_save 8 = .ok (.invokevirtual 215, 3) by decide +kernel) (by decide) (Nat.le_of_ble_eq_true rfl) (Nat.le_of_ble_eq_true rfl) rfl rfl (Nat.le_of_ble_eq_true rfl) (rcvD s7 (by decide) rfl) (kX7_copyFrom w) (fun E h hk => hk.elim) (fun h2 w => ?_)
  refine X_aload_n (j := 0) (show decode cX9_save 11 = .ok (.aload_n 0, 1) by decide +kernel) rfl rfl ?_
  refine X_iconst (v := (nI 1)) (show decode cX9_save 12 = .ok (.iconst 1, 1) by decide +kernel) (by decide) ?_
  obtain ⟨s4, w⟩ := w
  refine X_putI fp_X9_50 (show decode cX9_save 13 = .ok (.putfield 50, 3) by decide +kernel) (fun z => nomatch z) s4 (by decide) (by decide) ?_
  have w := w _ rfl
  refine X_aload_n (j := 0) (show decode cX9_save 16 = .ok (.aload_n 0, 1) by decide +kernel) rfl rfl ?_
  refine X_getR fl_X9_12 (show decode cX9_save 17 = .ok (.getfield 12, 3) by decide +kernel) s4 ?_
  obtain ⟨s6, w⟩ := w
  refine X_getI fl_X9_173 (show decode cX9_save 20 = .ok (.getfield 173, 3) by decide +kernel) s6 ?_
  exact X_iret ⟨(show decode cX9_save 23 = .ok (.ireturn, 1) by decide +kernel), .int, rfl, rfl⟩ ⟨_, rfl, w⟩
set_option maxRecDepth 100000 in
set_option maxHeartbeats 4000000 in
theorem kX2_forget {a0 : Nat} {h : AH} {K : AH → Prop} (w : wX2_forget a0 h K) : Cn mX2_forget (cwd mX2_forget) 1 0 0 [.ref a0] h (KV K) T0 := by
  refine Cn_of (by decide +kernel) rfl (Nat.le_of_ble_eq_true rfl) ?_
  show X mX2_forget 1 (KV K) T0 0 0 0 [(0, .ref a0)] [] h
  unfold wX2_forget at w
  refine X_aload_n (j := 0) (show decode cX2_forget 0 = .ok (.aload_n 0, 1) by decide +kernel) rfl rfl ?_
  refine X_iconst (v := (nI 0)) (show decode cX2_forget 1 = .ok (.iconst 0, 1) by decide +kernel) (by decide) ?_
  obtain ⟨s1, w⟩ := w
  refine X_putI fp_X2_21 (show decode cX2_forget 2 = .ok (.putfield 21, 3) by decide +kernel) (fun z => nomatch z) s1 rfl rfl ?_
  have w := w _ rfl
  exact X_vret ⟨(show decode cX2_forget 5 = .ok (.return_, 1) by decide +kernel), rfl⟩ ⟨rfl, w⟩
set_option maxRecDepth 100000 in
set_option maxHeartbeats 4000000 in
theorem kX9_restore {a0 : Nat} {h : AH} {K : Int32 → AH → Prop} {T : String → AH → Prop} (w : wX9_restore a0 h K T) : Cn mX9_restore (cwd mX9_restore) 8 1 6 [.ref a0] h (KI K) T := by
  refine Cn_of (by decide +kernel) rfl (Nat.le_of_ble_eq_true rfl) ?_
  show X mX9_restore 8 (KI K) T 1 6 0 [(0, .ref a0)] [] h
  unfold wX9_restore at w
  refine X_aload_n (j := 0) (show decode cX9_restore 0 = .ok (.aload_n 0, 1) by decide +kernel) rfl rfl ?_
  obtain ⟨s1, w⟩ := w
  refine X_getI fl_X9_50 (show decode cX9_restore 1 = .ok (.getfield 50, 3) by decide +kernel) s1 ?_
  refine X_if_ne (tgt := 18) (show decode cX9_restore 4 = .ok (.ifCond .ne 14, 3) by decide +kernel) (by decide) ⟨fun c2 => ?_, fun c2 => ?_⟩
  · have w := w.1 c2
    refine X_aload_n (j := 0) (show decode cX9_restore 18 = .ok (.aload_n 0, 1) by decide +kernel) rfl rfl ?_
    refine X_getR fl_X9_12 (show decode cX9_restore 19 = .ok (.getfield 12, 3) by decide +kernel) s1 ?_
    refine X_aload_n (j := 0) (show decode cX9_restore 22 = .ok (.aload_n 0, 1) by decide +kernel) rfl rfl ?_
    refine X_getR fl_X9_16 (show decode cX9_restore 23 = .ok (.getfield 16, 3) by decide +kernel) s1 ?_
    obtain ⟨s11, w⟩ := w
    refine X_vV (rc' := 1) (rs' := 6) (as := [.ref _]) mv_X9_215 (show decode cX9_restore 26 = .ok (.invokevirtual 215, 3) by decide +kernel) (by decide) (Nat.le_of_ble_eq_true rfl) (Nat.le_of_ble_eq_true rfl) rfl rfl (Nat.le_of_ble_eq_true rfl) (rcvD s11 (by decide) rfl) (kX7_copyFrom w) (fun E h hk => hk.elim) (fun h3 w => ?_)
    refine X_aload_n (j := 0) (show decode cX9_restore 29 = .ok (.aload_n 0, 1) by decide +kernel) rfl rfl ?_
    obtain ⟨s5, w⟩ := w
    refine X_getR fl_X9_25 (show decode cX9_restore 30 = .ok (.getfield 25, 3) by decide +kernel) s5 ?_
    obtain ⟨s10, w⟩ := w
    refine X_vV (rc' := 1) (rs' := 6) (as := []) mv_X9_368 (show decode cX9_restore 33 = .ok (.invokevirtual 368, 3) by decide +kernel) (by decide) (Nat.le_of_ble_eq_true rfl) (Nat.le_of_ble_eq_true rfl) rfl rfl (Nat.le_of_ble_eq_true rfl) (rcvD s10 (by decide) rfl) (kX2_forget w) (fun E h hk => hk.elim) (fun h6 w => ?_)
    refine X_aload_n (j := 0) (show decode cX9_restore 36 = .ok (.aload_n 0, 1) by decide +kernel) rfl rfl ?_
    obtain ⟨s8, w⟩ := w
    refine X_getR fl_X9_12 (show decode cX9_restore 37 = .ok (.getfield 12, 3) by decide +kernel) s8 ?_
    obtain ⟨s9, w⟩ := w
    refine X_getI fl_X9_173 (show decode cX9_restore 40 = .ok (.getfield 173, 3) by decide +kernel) s9 ?_
    exact X_iret ⟨(show decode cX9_restore 43 = .ok (.ireturn, 1) by decide +kernel), .int, rfl, rfl⟩ ⟨_, rfl, w⟩
  · have w := w.2 c2
    exact X_throwSW tw_X9_324_366 (show decode cX9_restore 7 = .ok (.new 324, 3) by decide +kernel) (show decode cX9_restore 10 = .ok (.dup, 1) by decide +kernel) (show decode cX9_restore 11 = .ok (.ldc_w 366, 3) by decide +kernel) (show decode cX9_restore 14 = .ok (.invokespecial 328, 3) by decide +kernel) (show decode cX9_restore 17 = .ok (.athrow, 1) by decide +kernel) (fun x hx => absurd hx List.not_mem_nil) (by decide) (Nat.le_of_ble_eq_true rfl) (Nat.le_of_ble_eq_true rfl) (Nat.le_of_ble_eq_true rfl) w
set_option maxRecDepth 100000 in
set_option maxHeartbeats 4000000 in
theorem kX10_init {a0 : Nat} {h : AH} {K : AH → Prop} (w : wX10_init a0 h K) : Cn mX10_init (cwd mX10_init) 2 12 3523 [.ref a0] h (KV K) T0 := by
  refine Cn_of (by decide +kernel) rfl (Nat.le_of_ble_eq_true rfl) ?_
  show X mX10_init 2 (KV K) T0 12 3523 0 [(0, .ref a0)] [] h
  unfold wX10_init at w
  refine X_aload_n (j := 0) (show decode cX10_init 0 = .ok (.aload_n 0, 1) by decide +kernel) rfl rfl ?_
  obtain ⟨s1, w⟩ := w
  refine X_objInit (show decode cX10_init 1 = .ok (.invokespecial 1, 3) by decide +kernel) gl_X10_1 gi_obj gco_obj s1 (by decide) (by decide) ?_
  refine X_aload_n (j := 0) (show decode cX10_init 4 = .ok (.aload_n 0, 1) by decide +kernel) rfl rfl ?_
  refine X_sipush (v := (nI 281)) (show decode cX10_init 5 = .ok (.sipush 281, 3) by decide +kernel) (by decide) ?_
  refine X_newa (N := 281) (rc' := 11) (rs' := 3242) na_0 (by decide) (show decode cX10_init 8 = .ok (.newarray .int, 2) by decide +kernel) (by decide) (by decide) (Nat.le_of_ble_eq_true rfl) (Nat.le_of_ble_eq_true rfl) (Nat.le_of_ble_eq_true rfl) ?_
  have w := w _ rfl
  obtain ⟨s3, w⟩ := w
  refine X_putR fp_X10_7 (show decode cX10_init 10 = .ok (.putfield 7, 3) by decide +kernel) (fun _ => rfl) (by first | exact Or.inl ⟨_, rfl⟩ | exact Or.inr ⟨_, rfl⟩) s3 ?_
  have w := w _ rfl
  refine X_aload_n (j := 0) (show decode cX10_init 13 = .ok (.aload_n 0, 1) by decide +kernel) rfl rfl ?_
  refine X_sipush (v := (nI 281)) (show decode cX10_init 14 = .ok (.sipush 281, 3) by decide +kernel) (by decide) ?_
  refine X_newa (N := 281) (rc' := 10) (rs' := 2961) na_0 (by decide) (show decode cX10_init 17 = .ok (.newarray .int, 2) by decide +kernel) (by decide) (by decide) (Nat.le_of_ble_eq_true rfl) (Nat.le_of_ble_eq_true rfl) (Nat.le_of_ble_eq_true rfl) ?_
  have w := w _ rfl
  obtain ⟨s6, w⟩ := w
  refine X_putR fp_X10_13 (show decode cX10_init 19 = .ok (.putfield 13, 3) by decide +kernel) (fun _ => rfl) (by first | exact Or.inl ⟨_, rfl⟩ | exact Or.inr ⟨_, rfl⟩) s6 ?_
  have w := w _ rfl
  refine X_aload_n (j := 0) (show decode cX10_init 22 = .ok (.aload_n 0, 1) by decide +kernel) rfl rfl ?_
  refine X_sipush (v := (nI 281)) (show decode cX10_init 23 = .ok (.sipush 281, 3) by decide +kernel) (by decide) ?_
  refine X_newa (N := 281) (rc' := 9) (rs' := 2680) na_0 (by decide) (show decode cX10_init 26 = .ok (.newarray .int, 2) by decide +kernel) (by decide) (by decide) (Nat.le_of_ble_eq_true rfl) (Nat.le_of_ble_eq_true rfl) (Nat.le_of_ble_eq_true rfl) ?_
  have w := w _ rfl
  obtain ⟨s9, w⟩ := w
  refine X_putR fp_X10_16 (show decode cX10_init 28 = .ok (.putfield 16, 3) by decide +kernel) (fun _ => rfl) (by first | exact Or.inl ⟨_, rfl⟩ | exact Or.inr ⟨_, rfl⟩) s9 ?_
  have w := w _ rfl
  refine X_aload_n (j := 0) (show decode cX10_init 31 = .ok (.aload_n 0, 1) by decide +kernel) rfl rfl ?_
  refine X_sipush (v := (nI 2248)) (show decode cX10_init 32 = .ok (.sipush 2248, 3) by decide +kernel) (by decide) ?_
  refine X_newa (N := 2248) (rc' := 8) (rs' := 432) na_0 (by decide) (show decode cX10_init 35 = .ok (.newarray .int, 2) by decide +kernel) (by decide) (by decide) (Nat.le_of_ble_eq_true rfl) (Nat.le_of_ble_eq_true rfl) (Nat.le_of_ble_eq_true rfl) ?_
  have w := w _ rfl
  obtain ⟨s12, w⟩ := w
  refine X_putR fp_X10_19 (show decode cX10_init 37 = .ok (.putfield 19, 3) by decide +kernel) (fun _ => rfl) (by first | exact Or.inl ⟨_, rfl⟩ | exact Or.inr ⟨_, rfl⟩) s12 ?_
  have w := w _ rfl
  refine X_aload_n (j := 0) (show decode cX10_init 40 = .ok (.aload_n 0, 1) by decide +kernel) rfl rfl ?_
  refine X_bipush (v := (nI 60)) (show decode cX10_init 41 = .ok (.bipush 60, 2) by decide +kernel) (by decide) ?_
  refine X_newa (N := 60) (rc' := 7) (rs' := 372) na_0 (by decide) (show decode cX10_init 43 = .ok (.newarray .int, 2) by decide +kernel) (by decide) (by decide) (Nat.le_of_ble_eq_true rfl) (Nat.le_of_ble_eq_true rfl) (Nat.le_of_ble_eq_true rfl) ?_
  have w := w _ rfl
  obtain ⟨s15, w⟩ := w
  refine X_putR fp_X10_22 (show decode cX10_init 45 = .ok (.putfield 22, 3) by decide +kernel) (fun _ => rfl) (by first | exact Or.inl ⟨_, rfl⟩ | exact Or.inr ⟨_, rfl⟩) s15 ?_
  have w := w _ rfl
  refine X_aload_n (j := 0) (show decode cX10_init 48 = .ok (.aload_n 0, 1) by decide +kernel) rfl rfl ?_
  refine X_sipush (v := (nI 240)) (show decode cX10_init 49 = .ok (.sipush 240, 3) by decide +kernel) (by decide) ?_
  refine X_newa (N := 240) (rc' := 6) (rs' := 132) na_0 (by decide) (show decode cX10_init 52 = .ok (.newarray .int, 2) by decide +kernel) (by decide) (by decide) (Nat.le_of_ble_eq_true rfl) (Nat.le_of_ble_eq_true rfl) (Nat.le_of_ble_eq_true rfl) ?_
  have w := w _ rfl
  obtain ⟨s18, w⟩ := w
  refine X_putR fp_X10_25 (show decode cX10_init 54 = .ok (.putfield 25, 3) by decide +kernel) (fun _ => rfl) (by first | exact Or.inl ⟨_, rfl⟩ | exact Or.inr ⟨_, rfl⟩) s18 ?_
  have w := w _ rfl
  refine X_aload_n (j := 0) (show decode cX10_init 57 = .ok (.aload_n 0, 1) by decide +kernel) rfl rfl ?_
  refine X_bipush (v := (nI 80)) (show decode cX10_init 58 = .ok (.bipush 80, 2) by decide +kernel) (by decide) ?_
  refine X_newa (N := 80) (rc' := 5) (rs' := 52) na_0 (by decide) (show decode cX10_init 60 = .ok (.newarray .int, 2) by decide +kernel) (by decide) (by decide) (Nat.le_of_ble_eq_true rfl) (Nat.le_of_ble_eq_true rfl) (Nat.le_of_ble_eq_true rfl) ?_
  have w := w _ rfl
  obtain ⟨s21, w⟩ := w
  refine X_putR fp_X10_28 (show decode cX10_init 62 = .ok (.putfield 28, 3) by decide +kernel) (fun _ => rfl) (by first | exact Or.inl ⟨_, rfl⟩ | exact Or.inr ⟨_, rfl⟩) s21 ?_
  have w := w _ rfl
  refine X_aload_n (j := 0) (show decode cX10_init 65 = .ok (.aload_n 0, 1) by decide +kernel) rfl rfl ?_
  refine X_bipush (v := (nI 12)) (show decode cX10_init 66 = .ok (.bipush 12, 2) by decide +kernel) (by decide) ?_
  refine X_newa (N := 12) (rc' := 4) (rs' := 40) na_0 (by decide) (show decode cX10_init 68 = .ok (.newarray .int, 2) by decide +kernel) (by decide) (by decide) (Nat.le_of_ble_eq_true rfl) (Nat.le_of_ble_eq_true rfl) (Nat.le_of_ble_eq_true rfl) ?_
  have w := w _ rfl
  obtain ⟨s24, w⟩ := w
  refine X_putR fp_X10_31 (show decode cX10_init 70 = .ok (.putfield 31, 3) by decide +kernel) (fun _ => rfl) (by first | exact Or.inl ⟨_, rfl⟩ | exact Or.inr ⟨_, rfl⟩) s24 ?_
  have w := w _ rfl
  refine X_aload_n (j := 0) (show decode cX10_init 73 = .ok (.aload_n 0, 1) by decide +kernel) rfl rfl ?_
  refine X_bipush (v := (nI 12)) (show decode cX10_init 74 = .ok (.bipush 12, 2) by decide +kernel) (by decide) ?_
  refine X_newa (N := 12) (rc' := 3) (rs' := 28) na_0 (by decide) (show decode cX10_init 76 = .ok (.newarray .int, 2) by decide +kernel) (by decide) (by decide) (Nat.le_of_ble_eq_true rfl) (Nat.le_of_ble_eq_true rfl) (Nat.le_of_ble_eq_true rfl) ?_
  have w := w _ rfl
  obtain ⟨s27, w⟩ := w
  refine X_putR fp_X10_34 (show decode cX10_init 78 = .ok (.putfield 34, 3) by decide +kernel) (fun _ => rfl) (by first | exact Or.inl ⟨_, rfl⟩ | exact Or.inr ⟨_, rfl⟩) s27 ?_
  have w := w _ rfl
  refine X_aload_n (j := 0) (show decode cX10_init 81 = .ok (.aload_n 0, 1) by decide +kernel) rfl rfl ?_
  refine X_bipush (v := (nI 12)) (show decode cX10_init 82 = .ok (.bipush 12, 2) by decide +kernel) (by decide) ?_
  refine X_newa (N := 12) (rc' := 2) (rs' := 16) na_0 (by decide) (show decode cX10_init 84 = .ok (.newarray .int, 2) by decide +kernel) (by decide) (by decide) (Nat.le_of_ble_eq_true rfl) (Nat.le_of_ble_eq_true rfl) (Nat.le_of_ble_eq_true rfl) ?_
  have w := w _ rfl
  obtain ⟨s30, w⟩ := w
  refine X_putR fp_X10_37 (show decode cX10_init 86 = .ok (.putfield 37, 3) by decide +kernel) (fun _ => rfl) (by first | exact Or.inl ⟨_, rfl⟩ | exact Or.inr ⟨_, rfl⟩) s30 ?_
  have w := w _ rfl
  refine X_aload_n (j := 0) (show decode cX10_init 89 = .ok (.aload_n 0, 1) by decide +kernel) rfl rfl ?_
  refine X_bipush (v := (nI 8)) (show decode cX10_init 90 = .ok (.bipush 8, 2) by decide +kernel) (by decide) ?_
  refine X_newa (N := 8) (rc' := 1) (rs' := 8) na_0 (by decide) (show decode cX10_init 92 = .ok (.newarray .int, 2) by decide +kernel) (by decide) (by decide) (Nat.le_of_ble_eq_true rfl) (Nat.le_of_ble_eq_true rfl) (Nat.le_of_ble_eq_true rfl) ?_
  have w := w _ rfl
  obtain ⟨s33, w⟩ := w
  refine X_putR fp_X10_40 (show decode cX10_init 94 = .ok (.putfield 40, 3) by decide +kernel) (fun _ => rfl) (by first | exact Or.inl ⟨_, rfl⟩ | exact Or.inr ⟨_, rfl⟩) s33 ?_
  have w := w _ rfl
  refine X_aload_n (j := 0) (show decode cX10_init 97 = .ok (.aload_n 0, 1) by decide +kernel) rfl rfl ?_
  refine X_bipush (v := (nI 8)) (show decode cX10_init 98 = .ok (.bipush 8, 2) by decide +kernel) (by decide) ?_
  refine X_newa (N := 8) (rc' := 0) (rs' := 0) na_0 (by decide) (show decode cX10_init 100 = .ok (.newarray .int, 2) by decide +kernel) (by decide) (by decide) (Nat.le_of_ble_eq_true rfl) (Nat.le_of_ble_eq_true rfl) (Nat.le_of_ble_eq_true rfl) ?_
  have w := w _ rfl
  obtain ⟨s36, w⟩ := w
  refine X_putR fp_X10_43 (show decode cX10_init 102 = .ok (.putfield 43, 3) by decide +kernel) (fun _ => rfl) (by first | exact Or.inl ⟨_, rfl⟩ | exact Or.inr ⟨_, rfl⟩) s36 ?_
  have w := w _ rfl
  refine X_aload_n (j := 0) (show decode cX10_init 105 = .ok (.aload_n 0, 1) by decide +kernel) rfl rfl ?_
  refine X_iconst (v := (-1)) (show decode cX10_init 106 = .ok (.iconst (-1), 1) by decide +kernel) (by decide) ?_
  refine X_putI fp_X10_46 (show decode cX10_init 107 = .ok (.putfield 46, 3) by decide +kernel) (fun z => nomatch z) s36 rfl rfl ?_
  have w := w _ rfl
  refine X_aload_n (j := 0) (show decode cX10_init 110 = .ok (.aload_n 0, 1) by decide +kernel) rfl rfl ?_
  refine X_iconst (v := (-1)) (show decode cX10_init 111 = .ok (.iconst (-1), 1) by decide +kernel) (by decide) ?_
  refine X_putI fp_X10_50 (show decode cX10_init 112 = .ok (.putfield 50, 3) by decide +kernel) (fun z => nomatch z) s36 rfl rfl ?_
  have w := w _ rfl
  refine X_aload_n (j := 0) (show decode cX10_init 115 = .ok (.aload_n 0, 1) by decide +kernel) rfl rfl ?_
  refine X_iconst (v := (-1)) (show decode cX10_init 116 = .ok (.iconst (-1), 1) by decide +kernel) (by decide) ?_
  refine X_putI fp_X10_53 (show decode cX10_init 117 = .ok (.putfield 53, 3) by decide +kernel) (fun z => nomatch z) s36 rfl rfl ?_
  have w := w _ rfl
  exact X_vret ⟨(show decode cX10_init 120 = .ok (.return_, 1) by decide +kernel), rfl⟩ ⟨rfl, w⟩
set_option maxRecDepth 100000 in
set_option maxHeartbeats 4000000 in
theorem kX10_thrown {a0 : Nat} {h : AH} {K : Int32 → AH → Prop} (w : wX10_thrown a0 h K) : Cn mX10_thrown (cwd mX10_thrown) 1 0 0 [.ref a0] h (KI K) T0 := by
  refine Cn_of (by decide +kernel) rfl (Nat.le_of_ble_eq_true rfl) ?_
  show X mX10_thrown 1 (KI K) T0 0 0 0 [(0, .ref a0)] [] h
  unfold wX10_thrown at w
  refine X_aload_n (j := 0) (show decode cX10_thrown 0 = .ok (.aload_n 0, 1) by decide +kernel) rfl rfl ?_
  obtain ⟨s1, w⟩ := w
  refine X_getI fl_X10_56 (show decode cX10_thrown 1 = .ok (.getfield 56, 3) by decide +kernel) s1 ?_
  exact X_iret ⟨(show decode cX10_thrown 4 = .ok (.ireturn, 1) by decide +kernel), .int, rfl, rfl⟩ ⟨_, rfl, w⟩
set_option maxRecDepth 100000 in
set_option maxHeartbeats 4000000 in
theorem kX10_fails {a0 : Nat} {a1 : Int32} {h : AH} {K : Int32 → AH → Prop} (w : wX10_fails a0 a1 h K) : Cn mX10_fails (cwd mX10_fails) 1 0 0 [.ref a0, .int a1] h (KI K) T0 := by
  refine Cn_of (by decide +kernel) rfl (Nat.le_of_ble_eq_true rfl) ?_
  show X mX10_fails 1 (KI K) T0 0 0 0 [(0, .ref a0), (1, .int a1)] [] h
  unfold wX10_fails at w
  refine X_aload_n (j := 0) (show decode cX10_fails 0 = .ok (.aload_n 0, 1) by decide +kernel) rfl rfl ?_
  refine X_iload_n (j := 1) (show decode cX10_fails 1 = .ok (.iload_n 1, 1) by decide +kernel) rfl rfl ?_
  obtain ⟨s1, w⟩ := w
  refine X_putI fp_X10_56 (show decode cX10_fails 2 = .ok (.putfield 56, 3) by decide +kernel) (fun z => nomatch z) s1 rfl rfl ?_
  have w := w _ rfl
  refine X_iconst (v := (nI 0)) (show decode cX10_fails 5 = .ok (.iconst 0, 1) by decide +kernel) (by decide) ?_
  exact X_iret ⟨(show decode cX10_fails 6 = .ok (.ireturn, 1) by decide +kernel), .int, rfl, rfl⟩ ⟨_, rfl, w⟩
set_option maxRecDepth 100000 in
set_option maxHeartbeats 4000000 in
theorem kX10_in {a0 : Int32} {a1 : Int32} {a2 : Int32} {h : AH} {K : Int32 → AH → Prop} (w : wX10_in a0 a1 a2 h K) : Cn mX10_in (cwd mX10_in) 1 0 0 [.int a0, .int a1, .int a2] h (KI K) T0 := by
  refine Cn_of (by decide +kernel) rfl (Nat.le_of_ble_eq_true rfl) ?_
  show X mX10_in 1 (KI K) T0 0 0 0 [(0, .int a0), (1, .int a1), (2, .int a2)] [] h
  unfold wX10_in at w
  refine X_iload_n (j := 0) (show decode cX10_in 0 = .ok (.iload_n 0, 1) by decide +kernel) rfl rfl ?_
  refine X_iload_n (j := 1) (show decode cX10_in 1 = .ok (.iload_n 1, 1) by decide +kernel) rfl rfl ?_
  refine X_icmp_lt (tgt := 14) (show decode cX10_in 2 = .ok (.if_icmp .lt 12, 3) by decide +kernel) (by decide) ⟨fun c1 => ?_, fun c1 => ?_⟩
  · have w := w.1 c1
    refine X_iconst (v := (nI 0)) (show decode cX10_in 14 = .ok (.iconst 0, 1) by decide +kernel) (by decide) ?_
    exact X_iret ⟨(show decode cX10_in 15 = .ok (.ireturn, 1) by decide +kernel), .boolean, rfl, (by decide)⟩ ⟨_, rfl, w⟩
  · have w := w.2 c1
    refine X_iload_n (j := 0) (show decode cX10_in 5 = .ok (.iload_n 0, 1) by decide +kernel) rfl rfl ?_
    refine X_iload_n (j := 2) (show decode cX10_in 6 = .ok (.iload_n 2, 1) by decide +kernel) rfl rfl ?_
    refine X_icmp_gt (tgt := 14) (show decode cX10_in 7 = .ok (.if_icmp .gt 7, 3) by decide +kernel) (by decide) ⟨fun c2 => ?_, fun c2 => ?_⟩
    · have w := w.1 c2
      refine X_iconst (v := (nI 0)) (show decode cX10_in 14 = .ok (.iconst 0, 1) by decide +kernel) (by decide) ?_
      exact X_iret ⟨(show decode cX10_in 15 = .ok (.ireturn, 1) by decide +kernel), .boolean, rfl, (by decide)⟩ ⟨_, rfl, w⟩
    · have w := w.2 c2
      refine X_iconst (v := (nI 1)) (show decode cX10_in 10 = .ok (.iconst 1, 1) by decide +kernel) (by decide) ?_
      refine X_goto (tgt := 15) (show decode cX10_in 11 = .ok (.goto 4, 3) by decide +kernel) (by decide) ?_
      exact X_iret ⟨(show decode cX10_in 15 = .ok (.ireturn, 1) by decide +kernel), .boolean, rfl, (by decide)⟩ ⟨_, rfl, w⟩
set_option maxRecDepth 100000 in
set_option maxHeartbeats 4000000 in
theorem kX10_remembers_L7 {K : AH → Prop}    : ∀ (n : Nat) (x0 : Nat) (x1 : Int32) (h : AH), wX10_remembers_L7 K   n x0 x1 h → X mX10_remembers 1 (KV K) T0 0 0 7 [(0, .ref x0), (1, .int x1)] [] h := by
  intro n
  induction n with
  | zero => intro _ _ _ w; exact w.elim
  | succ n ih =>
    intro x0 x1 h w
    rw [wX10_remembers_L7] at w
    refine X_iload_n (j := 1) (show decode cX10_remembers 7 = .ok (.iload_n 1, 1) by decide +kernel) rfl rfl ?_
    refine X_sipush (v := (nI 281)) (show decode cX10_remembers 8 = .ok (.sipush 281, 3) by decide +kernel) (by decide) ?_
    refine X_icmp_ge (tgt := 32) (show decode cX10_remembers 11 = .ok (.if_icmp .ge 21, 3) by decide +kernel) (by decide) ⟨fun c3 => ?_, fun c3 => ?_⟩
    · have w := w.1 c3
      exact X_vret ⟨(show decode cX10_remembers 32 = .ok (.return_, 1) by decide +kernel), rfl⟩ ⟨rfl, w⟩
    · have w := w.2 c3
      refine X_aload_n (j := 0) (show decode cX10_remembers 14 = .ok (.aload_n 0, 1) by decide +kernel) rfl rfl ?_
      obtain ⟨s4, w⟩ := w
      refine X_getR fl_X10_13 (show decode cX10_remembers 15 = .ok (.getfield 13, 3) by decide +kernel) s4 ?_
      refine X_iload_n (j := 1) (show decode cX10_remembers 18 = .ok (.iload_n 1, 1) by decide +kernel) rfl rfl ?_
      refine X_aload_n (j := 0) (show decode cX10_remembers 19 = .ok (.aload_n 0, 1) by decide +kernel) rfl rfl ?_
      refine X_getR fl_X10_7 (show decode cX10_remembers 20 = .ok (.getfield 7, 3) by decide +kernel) s4 ?_
      refine X_iload_n (j := 1) (show decode cX10_remembers 23 = .ok (.iload_n 1, 1) by decide +kernel) rfl rfl ?_
      obtain ⟨s5, w⟩ := w
      obtain ⟨s6, w⟩ := w
      refine X_iald (show decode cX10_remembers 24 = .ok (.iaload, 1) by decide +kernel) (isA_eq s5) s6 ?_
      obtain ⟨s7, w⟩ := w
      obtain ⟨s8, w⟩ := w
      obtain ⟨s9, w⟩ := w
      refine X_iast (show decode cX10_remembers 25 = .ok (.iastore, 1) by decide +kernel) (isA_eq s7) s8 s9 ?_
      have w := w _ rfl
      refine X_iinc (j := 1) (v := _ + (nI 1)) (ls' := [(0, .ref _), (1, .int _)]) (show decode cX10_remembers 26 = .ok (.iinc 1 1, 3) by decide +kernel) rfl rfl (Nat.le_of_ble_eq_true rfl) rfl ?_
      refine X_goto (tgt := 7) (show decode cX10_remembers 29 = .ok (.goto (-22), 3) by decide +kernel) (by decide) ?_
      exact ih _ _ _ w
set_option maxRecDepth 100000 in
set_option maxHeartbeats 4000000 in
theorem kX10_remembers {a0 : Nat} {h : AH} {K : AH → Prop} (w : wX10_remembers a0 h K) : Cn mX10_remembers (cwd mX10_remembers) 1 0 0 [.ref a0] h (KV K) T0 := by
  refine Cn_of (by decide +kernel) rfl (Nat.le_of_ble_eq_true rfl) ?_
  show X mX10_remembers 1 (KV K) T0 0 0 0 [(0, .ref a0)] [] h
  unfold wX10_remembers at w
  refine X_aload_n (j := 0) (show decode cX10_remembers 0 = .ok (.aload_n 0, 1) by decide +kernel) rfl rfl ?_
  refine X_iconst (v := (nI 0)) (show decode cX10_remembers 1 = .ok (.iconst 0, 1) by decide +kernel) (by decide) ?_
  obtain ⟨s1, w⟩ := w
  refine X_putI fp_X10_56 (show decode cX10_remembers 2 = .ok (.putfield 56, 3) by decide +kernel) (fun z => nomatch z) s1 rfl rfl ?_
  have w := w _ rfl
  refine X_iconst (v := (nI 0)) (show decode cX10_remembers 5 = .ok (.iconst 0, 1) by decide +kernel) (by decide) ?_
  refine X_istore_n (ls' := [(0, .ref _), (1, .int _)]) (show decode cX10_remembers 6 = .ok (.istore_n 1, 1) by decide +kernel) rfl (by decide) rfl ?_
  obtain ⟨n11, w⟩ := w
  exact kX10_remembers_L7  n11 _ _ _ w
set_option maxRecDepth 100000 in
set_option maxHeartbeats 4000000 in
theorem kX10_changed_L55 {K : Int32 → AH → Prop}    : ∀ (n : Nat) (x0 : Nat) (x1 : Int32) (x2 : Int32) (h : AH), wX10_changed_L55 K   n x0 x1 x2 h → X mX10_changed 1 (KI K) T0 0 0 55 [(0, .ref x0), (1, .int x1), (2, .int x2)] [] h := by
  intro n
  induction n with
  | zero => intro _ _ _ _ w; exact w.elim
  | succ n ih =>
    intro x0 x1 x2 h w
    rw [wX10_changed_L55] at w
    refine X_iload_n (j := 2) (show decode cX10_changed 55 = .ok (.iload_n 2, 1) by decide +kernel) rfl rfl ?_
    refine X_sipush (v := (nI 281)) (show decode cX10_changed 56 = .ok (.sipush 281, 3) by decide +kernel) (by decide) ?_
    refine X_icmp_ge (tgt := 91) (show decode cX10_changed 59 = .ok (.if_icmp .ge 32, 3) by decide +kernel) (by decide) ⟨fun c4 => ?_, fun c4 => ?_⟩
    · have w := w.1 c4
      refine X_iload_n (j := 1) (show decode cX10_changed 91 = .ok (.iload_n 1, 1) by decide +kernel) rfl rfl ?_
      exact X_iret ⟨(show decode cX10_changed 92 = .ok (.ireturn, 1) by decide +kernel), .int, rfl, rfl⟩ ⟨_, rfl, w⟩
    · have w := w.2 c4
      refine X_aload_n (j := 0) (show decode cX10_changed 62 = .ok (.aload_n 0, 1) by decide +kernel) rfl rfl ?_
      obtain ⟨s5, w⟩ := w
      refine X_getR fl_X10_19 (show decode cX10_changed 63 = .ok (.getfield 19, 3) by decide +kernel) s5 ?_
      refine X_sipush (v := (nI 281)) (show decode cX10_changed 66 = .ok (.sipush 281, 3) by decide +kernel) (by decide) ?_
      refine X_aload_n (j := 0) (show decode cX10_changed 69 = .ok (.aload_n 0, 1) by decide +kernel) rfl rfl ?_
      refine X_getI fl_X10_59 (show decode cX10_changed 70 = .ok (.getfield 59, 3) by decide +kernel) s5 ?_
      refine X_iconst (v := (nI 1)) (show decode cX10_changed 73 = .ok (.iconst 1, 1) by decide +kernel) (by decide) ?_
      refine X_isub (show decode cX10_changed 74 = .ok (.isub, 1) by decide +kernel) ?_
      refine X_imul (show decode cX10_changed 75 = .ok (.imul, 1) by decide +kernel) ?_
      refine X_iload_n (j := 2) (show decode cX10_changed 76 = .ok (.iload_n 2, 1) by decide +kernel) rfl rfl ?_
      refine X_iadd (show decode cX10_changed 77 = .ok (.iadd, 1) by decide +kernel) ?_
      refine X_aload_n (j := 0) (show decode cX10_changed 78 = .ok (.aload_n 0, 1) by decide +kernel) rfl rfl ?_
      refine X_getR fl_X10_13 (show decode cX10_changed 79 = .ok (.getfield 13, 3) by decide +kernel) s5 ?_
      refine X_iload_n (j := 2) (show decode cX10_changed 82 = .ok (.iload_n 2, 1) by decide +kernel) rfl rfl ?_
      obtain ⟨s6, w⟩ := w
      obtain ⟨s7, w⟩ := w
      refine X_iald (show decode cX10_changed 83 = .ok (.iaload, 1) by decide +kernel) (isA_eq s6) s7 ?_
      obtain ⟨s8, w⟩ := w
      obtain ⟨s9, w⟩ := w
      obtain ⟨s10, w⟩ := w
      refine X_iast (show decode cX10_changed 84 = .ok (.iastore, 1) by decide +kernel) (isA_eq s8) s9 s10 ?_
      have w := w _ rfl
      refine X_iinc (j := 2) (v := _ + (nI 1)) (ls' := [(0, .ref _), (1, .int _), (2, .int _)]) (show decode cX10_changed 85 = .ok (.iinc 2 1, 3) by decide +kernel) rfl rfl (Nat.le_of_ble_eq_true rfl) rfl ?_
      refine X_goto (tgt := 55) (show decode cX10_changed 88 = .ok (.goto (-33), 3) by decide +kernel) (by decide) ?_
      exact ih _ _ _ _ w
set_option maxRecDepth 100000 in
set_option maxHeartbeats 4000000 in
theorem kX10_changed_L11 {K : Int32 → AH → Prop} {c40 : Nat → Int32 → AH → Prop} (hc40 : ∀ x0 x1 h, c40 x0 x1 h → X mX10_changed 1 (KI K) T0 0 0 40 [(0, .ref x0), (1, .int x1)] [] h)  : ∀ (n : Nat) (x0 : Nat) (x1 : Int32) (x2 : Int32) (h : AH), wX10_changed_L11 K c40  n x0 x1 x2 h → X mX10_changed 1 (KI K) T0 0 0 11 [(0, .ref x0), (1, .int x1), (2, .int x2)] [] h := by
  intro n
  induction n with
  | zero => intro _ _ _ _ w; exact w.elim
  | succ n ih =>
    intro x0 x1 x2 h w
    rw [wX10_changed_L11] at w
    refine X_iload_n (j := 2) (show decode cX10_changed 11 = .ok (.iload_n 2, 1) by decide +kernel) rfl rfl ?_
    refine X_sipush (v := (nI 1967)) (show decode cX10_changed 12 = .ok (.sipush 1967, 3) by decide +kernel) (by decide) ?_
    refine X_icmp_ge (tgt := 40) (show decode cX10_changed 15 = .ok (.if_icmp .ge 25, 3) by decide +kernel) (by decide) ⟨fun c13 => ?_, fun c13 => ?_⟩
    · have w := w.1 c13
      refine X_pick (ls' := [(0, .ref _), (1, .int _)]) [0, 1] rfl ?_
      exact hc40 _ _ _ w
    · have w := w.2 c13
      refine X_aload_n (j := 0) (show decode cX10_changed 18 = .ok (.aload_n 0, 1) by decide +kernel) rfl rfl ?_
      obtain ⟨s14, w⟩ := w
      refine X_getR fl_X10_19 (show decode cX10_changed 19 = .ok (.getfield 19, 3) by decide +kernel) s14 ?_
      refine X_iload_n (j := 2) (show decode cX10_changed 22 = .ok (.iload_n 2, 1) by decide +kernel) rfl rfl ?_
      refine X_aload_n (j := 0) (show decode cX10_changed 23 = .ok (.aload_n 0, 1) by decide +kernel) rfl rfl ?_
      refine X_getR fl_X10_19 (show decode cX10_changed 24 = .ok (.getfield 19, 3) by decide +kernel) s14 ?_
      refine X_iload_n (j := 2) (show decode cX10_changed 27 = .ok (.iload_n 2, 1) by decide +kernel) rfl rfl ?_
      refine X_sipush (v := (nI 281)) (show decode cX10_changed 28 = .ok (.sipush 281, 3) by decide +kernel) (by decide) ?_
      refine X_iadd (show decode cX10_changed 31 = .ok (.iadd, 1) by decide +kernel) ?_
      obtain ⟨s15, w⟩ := w
      obtain ⟨s16, w⟩ := w
      refine X_iald (show decode cX10_changed 32 = .ok (.iaload, 1) by decide +kernel) (isA_eq s15) s16 ?_
      obtain ⟨s17, w⟩ := w
      obtain ⟨s18, w⟩ := w
      refine X_iast (show decode cX10_changed 33 = .ok (.iastore, 1) by decide +kernel) (isA_eq s15) s17 s18 ?_
      have w := w _ rfl
      refine X_iinc (j := 2) (v := _ + (nI 1)) (ls' := [(0, .ref _), (1, .int _), (2, .int _)]) (show decode cX10_changed 34 = .ok (.iinc 2 1, 3) by decide +kernel) rfl rfl (Nat.le_of_ble_eq_true rfl) rfl ?_
      refine X_goto (tgt := 11) (show decode cX10_changed 37 = .ok (.goto (-26), 3) by decide +kernel) (by decide) ?_
      exact ih _ _ _ _ w
set_option maxRecDepth 100000 in
set_option maxHeartbeats 4000000 in
theorem kX10_changed {a0 : Nat} {a1 : Int32} {h : AH} {K : Int32 → AH → Prop} (w : wX10_changed a0 a1 h K) : Cn mX10_changed (cwd mX10_changed) 1 0 0 [.ref a0, .int a1] h (KI K) T0 := by
  refine Cn_of (by decide +kernel) rfl (Nat.le_of_ble_eq_true rfl) ?_
  show X mX10_changed 1 (KI K) T0 0 0 0 [(0, .ref a0), (1, .int a1)] [] h
  unfold wX10_changed at w
  refine X_aload_n (j := 0) (show decode cX10_changed 0 = .ok (.aload_n 0, 1) by decide +kernel) rfl rfl ?_
  obtain ⟨s1, w⟩ := w
  refine X_getI fl_X10_59 (show decode cX10_changed 1 = .ok (.getfield 59, 3) by decide +kernel) s1 ?_
  refine X_bipush (v := (nI 8)) (show decode cX10_changed 4 = .ok (.bipush 8, 2) by decide +kernel) (by decide) ?_
  refine X_icmp_ne (tgt := 43) (show decode cX10_changed 6 = .ok (.if_icmp .ne 37, 3) by decide +kernel) (by decide) ⟨fun c2 => ?_, fun c2 => ?_⟩
  · have w := w.1 c2
    refine X_aload_n (j := 0) (show decode cX10_changed 43 = .ok (.aload_n 0, 1) by decide +kernel) rfl rfl ?_
    refine X_dup (show decode cX10_changed 44 = .ok (.dup, 1) by decide +kernel) rfl ?_
    refine X_getI fl_X10_59 (show decode cX10_changed 45 = .ok (.getfield 59, 3) by decide +kernel) s1 ?_
    refine X_iconst (v := (nI 1)) (show decode cX10_changed 48 = .ok (.iconst 1, 1) by decide +kernel) (by decide) ?_
    refine X_iadd (show decode cX10_changed 49 = .ok (.iadd, 1) by decide +kernel) ?_
    refine X_putI fp_X10_59 (show decode cX10_changed 50 = .ok (.putfield 59, 3) by decide +kernel) (fun z => nomatch z) s1 rfl rfl ?_
    have w := w _ rfl
    refine X_iconst (v := (nI 0)) (show decode cX10_changed 53 = .ok (.iconst 0, 1) by decide +kernel) (by decide) ?_
    refine X_istore_n (ls' := [(0, .ref _), (1, .int _), (2, .int _)]) (show decode cX10_changed 54 = .ok (.istore_n 2, 1) by decide +kernel) rfl (by decide) rfl ?_
    obtain ⟨n12, w⟩ := w
    exact kX10_changed_L55  n12 _ _ _ _ w
  · have w := w.2 c2
    refine X_iconst (v := (nI 0)) (show decode cX10_changed 9 = .ok (.iconst 0, 1) by decide +kernel) (by decide) ?_
    refine X_istore_n (ls' := [(0, .ref _), (1, .int _), (2, .int _)]) (show decode cX10_changed 10 = .ok (.istore_n 2, 1) by decide +kernel) rfl (by decide) rfl ?_
    obtain ⟨n24, w⟩ := w
    refine kX10_changed_L11 ?_ n24 _ _ _ _ w
    · intro x0_20 x1_21 h22 w
      refine X_goto (tgt := 53) (show decode cX10_changed 40 = .ok (.goto 13, 3) by decide +kernel) (by decide) ?_
      refine X_iconst (v := (nI 0)) (show decode cX10_changed 53 = .ok (.iconst 0, 1) by decide +kernel) (by decide) ?_
      refine X_istore_n (ls' := [(0, .ref _), (1, .int _), (2, .int _)]) (show decode cX10_changed 54 = .ok (.istore_n 2, 1) by decide +kernel) rfl (by decide) rfl ?_
      obtain ⟨n23, w⟩ := w
      exact kX10_changed_L55  n23 _ _ _ _ w
set_option maxRecDepth 100000 in
set_option maxHeartbeats 4000000 in
theorem kX10_done {a0 : Nat} {a1 : Int32} {h : AH} {K : Int32 → AH → Prop} (w : wX10_done a0 a1 h K) : Cn mX10_done (cwd mX10_done) 1 0 0 [.ref a0, .int a1] h (KI K) T0 := by
  refine Cn_of (by decide +kernel) rfl (Nat.le_of_ble_eq_true rfl) ?_
  show X mX10_done 1 (KI K) T0 0 0 0 [(0, .ref a0), (1, .int a1)] [] h
  unfold wX10_done at w
  refine X_aload_n (j := 0) (show decode cX10_done 0 = .ok (.aload_n 0, 1) by decide +kernel) rfl rfl ?_
  refine X_iload_n (j := 1) (show decode cX10_done 1 = .ok (.iload_n 1, 1) by decide +kernel) rfl rfl ?_
  obtain ⟨s1, w⟩ := w
  refine X_putI fp_X10_62 (show decode cX10_done 2 = .ok (.putfield 62, 3) by decide +kernel) (fun z => nomatch z) s1 rfl rfl ?_
  have w := w _ rfl
  refine X_iconst (v := (nI 0)) (show decode cX10_done 5 = .ok (.iconst 0, 1) by decide +kernel) (by decide) ?_
  exact X_iret ⟨(show decode cX10_done 6 = .ok (.ireturn, 1) by decide +kernel), .int, rfl, rfl⟩ ⟨_, rfl, w⟩
set_option maxRecDepth 100000 in
set_option maxHeartbeats 4000000 in
theorem kX10_ends {a0 : Nat} {a1 : Int32} {h : AH} {K : Int32 → AH → Prop} (w : wX10_ends a0 a1 h K) : Cn mX10_ends (cwd mX10_ends) 2 0 0 [.ref a0, .int a1] h (KI K) T0 := by
  refine Cn_of (by decide +kernel) rfl (Nat.le_of_ble_eq_true rfl) ?_
  show X mX10_ends 2 (KI K) T0 0 0 0 [(0, .ref a0), (1, .int a1)] [] h
  unfold wX10_ends at w
  refine X_iload_n (j := 1) (show decode cX10_ends 0 = .ok (.iload_n 1, 1) by decide +kernel) rfl rfl ?_
  refine X_if_ne (tgt := 15) (show decode cX10_ends 1 = .ok (.ifCond .ne 14, 3) by decide +kernel) (by decide) ⟨fun c1 => ?_, fun c1 => ?_⟩
  · have w := w.1 c1
    refine X_aload_n (j := 0) (show decode cX10_ends 15 = .ok (.aload_n 0, 1) by decide +kernel) rfl rfl ?_
    refine X_iload_n (j := 1) (show decode cX10_ends 16 = .ok (.iload_n 1, 1) by decide +kernel) rfl rfl ?_
    obtain ⟨s4, w⟩ := w
    refine X_vI (rc' := 0) (rs' := 0) (as := [.int _]) mv_X10_69 (show decode cX10_ends 17 = .ok (.invokevirtual 69, 3) by decide +kernel) (by decide) (Nat.le_of_ble_eq_true rfl) (Nat.le_of_ble_eq_true rfl) rfl rfl (Nat.le_of_ble_eq_true rfl) (rcvD s4 (by decide) rfl) (kX10_fails w) (fun E h hk => hk.elim) (fun r3 h2 w => ?_)
    exact X_iret ⟨(show decode cX10_ends 20 = .ok (.ireturn, 1) by decide +kernel), .int, rfl, rfl⟩ ⟨_, rfl, w⟩
  · have w := w.2 c1
    refine X_aload_n (j := 0) (show decode cX10_ends 4 = .ok (.aload_n 0, 1) by decide +kernel) rfl rfl ?_
    refine X_aload_n (j := 0) (show decode cX10_ends 5 = .ok (.aload_n 0, 1) by decide +kernel) rfl rfl ?_
    obtain ⟨s5, w⟩ := w
    refine X_getI fl_X10_62 (show decode cX10_ends 6 = .ok (.getfield 62, 3) by decide +kernel) s5 ?_
    refine X_vI (rc' := 0) (rs' := 0) (as := [.int _]) mv_X10_65 (show decode cX10_ends 9 = .ok (.invokevirtual 65, 3) by decide +kernel) (by decide) (Nat.le_of_ble_eq_true rfl) (Nat.le_of_ble_eq_true rfl) rfl rfl (Nat.le_of_ble_eq_true rfl) (rcvD s5 (by decide) rfl) (kX10_changed w) (fun E h hk => hk.elim) (fun r7 h6 w => ?_)
    refine X_goto (tgt := 20) (show decode cX10_ends 12 = .ok (.goto 8, 3) by decide +kernel) (by decide) ?_
    exact X_iret ⟨(show decode cX10_ends 20 = .ok (.ireturn, 1) by decide +kernel), .int, rfl, rfl⟩ ⟨_, rfl, w⟩
set_option maxRecDepth 100000 in
set_option maxHeartbeats 4000000 in
theorem kX10_isBlock {a0 : Nat} {a1 : Int32} {h : AH} {K : Int32 → AH → Prop} (w : wX10_isBlock a0 a1 h K) : Cn mX10_isBlock (cwd mX10_isBlock) 2 0 0 [.ref a0, .int a1] h (KI K) T0 := by
  refine Cn_of (by decide +kernel) rfl (Nat.le_of_ble_eq_true rfl) ?_
  show X mX10_isBlock 2 (KI K) T0 0 0 0 [(0, .ref a0), (1, .int a1)] [] h
  unfold wX10_isBlock at w
  refine X_iload_n (j := 1) (show decode cX10_isBlock 0 = .ok (.iload_n 1, 1) by decide +kernel) rfl rfl ?_
  refine X_iconst (v := (nI 0)) (show decode cX10_isBlock 1 = .ok (.iconst 0, 1) by decide +kernel) (by decide) ?_
  refine X_aload_n (j := 0) (show decode cX10_isBlock 2 = .ok (.aload_n 0, 1) by decide +kernel) rfl rfl ?_
  obtain ⟨s1, w⟩ := w
  refine X_getR fl_X10_7 (show decode cX10_isBlock 3 = .ok (.getfield 7, 3) by decide +kernel) s1 ?_
  refine X_iconst (v := (nI 0)) (show decode cX10_isBlock 6 = .ok (.iconst 0, 1) by decide +kernel) (by decide) ?_
  obtain ⟨s2, w⟩ := w
  obtain ⟨s3, w⟩ := w
  refine X_iald (show decode cX10_isBlock 7 = .ok (.iaload, 1) by decide +kernel) (isA_eq s2) s3 ?_
  refine X_iconst (v := (nI 1)) (show decode cX10_isBlock 8 = .ok (.iconst 1, 1) by decide +kernel) (by decide) ?_
  refine X_isub (show decode cX10_isBlock 9 = .ok (.isub, 1) by decide +kernel) ?_
  refine X_sI (rc' := 0) (rs' := 0) (as := [.int _, .int _, .int _]) ms_X10_72 (show decode cX10_isBlock 10 = .ok (.invokestatic 72, 3) by decide +kernel) (by decide) (Nat.le_of_ble_eq_true rfl) (Nat.le_of_ble_eq_true rfl) rfl rfl (Nat.le_of_ble_eq_true rfl) (kX10_in w) (fun E h hk => hk.elim) (fun r5 h4 w => ?_)
  obtain ⟨s6, w⟩ := w
  exact X_iret ⟨(show decode cX10_isBlock 13 = .ok (.ireturn, 1) by decide +kernel), .boolean, rfl, s6⟩ ⟨_, rfl, w⟩
set_option maxRecDepth 100000 in
set_option maxHeartbeats 4000000 in
theorem kX10_isPoint {a0 : Nat} {a1 : Int32} {h : AH} {K : Int32 → AH → Prop} (w : wX10_isPoint a0 a1 h K) : Cn mX10_isPoint (cwd mX10_isPoint) 2 0 0 [.ref a0, .int a1] h (KI K) T0 := by
  refine Cn_of (by decide +kernel) rfl (Nat.le_of_ble_eq_true rfl) ?_
  show X mX10_isPoint 2 (KI K) T0 0 0 0 [(0, .ref a0), (1, .int a1)] [] h
  unfold wX10_isPoint at w
  refine X_iload_n (j := 1) (show decode cX10_isPoint 0 = .ok (.iload_n 1, 1) by decide +kernel) rfl rfl ?_
  refine X_iconst (v := (nI 0)) (show decode cX10_isPoint 1 = .ok (.iconst 0, 1) by decide +kernel) (by decide) ?_
  refine X_aload_n (j := 0) (show decode cX10_isPoint 2 = .ok (.aload_n 0, 1) by decide +kernel) rfl rfl ?_
  obtain ⟨s1, w⟩ := w
  refine X_getR fl_X10_7 (show decode cX10_isPoint 3 = .ok (.getfield 7, 3) by decide +kernel) s1 ?_
  refine X_iconst (v := (nI 1)) (show decode cX10_isPoint 6 = .ok (.iconst 1, 1) by decide +kernel) (by decide) ?_
  obtain ⟨s2, w⟩ := w
  obtain ⟨s3, w⟩ := w
  refine X_iald (show decode cX10_isPoint 7 = .ok (.iaload, 1) by decide +kernel) (isA_eq s2) s3 ?_
  refine X_iconst (v := (nI 1)) (show decode cX10_isPoint 8 = .ok (.iconst 1, 1) by decide +kernel) (by decide) ?_
  refine X_isub (show decode cX10_isPoint 9 = .ok (.isub, 1) by decide +kernel) ?_
  refine X_sI (rc' := 0) (rs' := 0) (as := [.int _, .int _, .int _]) ms_X10_72 (show decode cX10_isPoint 10 = .ok (.invokestatic 72, 3) by decide +kernel) (by decide) (Nat.le_of_ble_eq_true rfl) (Nat.le_of_ble_eq_true rfl) rfl rfl (Nat.le_of_ble_eq_true rfl) (kX10_in w) (fun E h hk => hk.elim) (fun r5 h4 w => ?_)
  obtain ⟨s6, w⟩ := w
  exact X_iret ⟨(show decode cX10_isPoint 13 = .ok (.ireturn, 1) by decide +kernel), .boolean, rfl, s6⟩ ⟨_, rfl, w⟩
set_option maxRecDepth 100000 in
set_option maxHeartbeats 4000000 in
theorem kX10_block {a0 : Nat} {a1 : Int32} {a2 : Int32} {h : AH} {K : Int32 → AH → Prop} (w : wX10_block a0 a1 a2 h K) : Cn mX10_block (cwd mX10_block) 1 0 0 [.ref a0, .int a1, .int a2] h (KI K) T0 := by
  refine Cn_of (by decide +kernel) rfl (Nat.le_of_ble_eq_true rfl) ?_
  show X mX10_block 1 (KI K) T0 0 0 0 [(0, .ref a0), (1, .int a1), (2, .int a2)] [] h
  unfold wX10_block at w
  refine X_aload_n (j := 0) (show decode cX10_block 0 = .ok (.aload_n 0, 1) by decide +kernel) rfl rfl ?_
  obtain ⟨s1, w⟩ := w
  refine X_getR fl_X10_7 (show decode cX10_block 1 = .ok (.getfield 7, 3) by decide +kernel) s1 ?_
  refine X_bipush (v := (nI 9)) (show decode cX10_block 4 = .ok (.bipush 9, 2) by decide +kernel) (by decide) ?_
  refine X_bipush (v := (nI 6)) (show decode cX10_block 6 = .ok (.bipush 6, 2) by decide +kernel) (by decide) ?_
  refine X_iload_n (j := 1) (show decode cX10_block 8 = .ok (.iload_n 1, 1) by decide +kernel) rfl rfl ?_
  refine X_imul (show decode cX10_block 9 = .ok (.imul, 1) by decide +kernel) ?_
  refine X_iadd (show decode cX10_block 10 = .ok (.iadd, 1) by decide +kernel) ?_
  refine X_iload_n (j := 2) (show decode cX10_block 11 = .ok (.iload_n 2, 1) by decide +kernel) rfl rfl ?_
  refine X_iadd (show decode cX10_block 12 = .ok (.iadd, 1) by decide +kernel) ?_
  obtain ⟨s2, w⟩ := w
  obtain ⟨s3, w⟩ := w
  refine X_iald (show decode cX10_block 13 = .ok (.iaload, 1) by decide +kernel) (isA_eq s2) s3 ?_
  exact X_iret ⟨(show decode cX10_block 14 = .ok (.ireturn, 1) by decide +kernel), .int, rfl, rfl⟩ ⟨_, rfl, w⟩
set_option maxRecDepth 100000 in
set_option maxHeartbeats 4000000 in
theorem kX10_puts {a0 : Nat} {a1 : Int32} {a2 : Int32} {a3 : Int32} {h : AH} {K : AH → Prop} (w : wX10_puts a0 a1 a2 a3 h K) : Cn mX10_puts (cwd mX10_puts) 1 0 0 [.ref a0, .int a1, .int a2, .int a3] h (KV K) T0 := by
  refine Cn_of (by decide +kernel) rfl (Nat.le_of_ble_eq_true rfl) ?_
  show X mX10_puts 1 (KV K) T0 0 0 0 [(0, .ref a0), (1, .int a1), (2, .int a2), (3, .int a3)] [] h
  unfold wX10_puts at w
  refine X_aload_n (j := 0) (show decode cX10_puts 0 = .ok (.aload_n 0, 1) by decide +kernel) rfl rfl ?_
  obtain ⟨s1, w⟩ := w
  refine X_getR fl_X10_7 (show decode cX10_puts 1 = .ok (.getfield 7, 3) by decide +kernel) s1 ?_
  refine X_bipush (v := (nI 9)) (show decode cX10_puts 4 = .ok (.bipush 9, 2) by decide +kernel) (by decide) ?_
  refine X_bipush (v := (nI 6)) (show decode cX10_puts 6 = .ok (.bipush 6, 2) by decide +kernel) (by decide) ?_
  refine X_iload_n (j := 1) (show decode cX10_puts 8 = .ok (.iload_n 1, 1) by decide +kernel) rfl rfl ?_
  refine X_imul (show decode cX10_puts 9 = .ok (.imul, 1) by decide +kernel) ?_
  refine X_iadd (show decode cX10_puts 10 = .ok (.iadd, 1) by decide +kernel) ?_
  refine X_iload_n (j := 2) (show decode cX10_puts 11 = .ok (.iload_n 2, 1) by decide +kernel) rfl rfl ?_
  refine X_iadd (show decode cX10_puts 12 = .ok (.iadd, 1) by decide +kernel) ?_
  refine X_iload_n (j := 3) (show decode cX10_puts 13 = .ok (.iload_n 3, 1) by decide +kernel) rfl rfl ?_
  obtain ⟨s2, w⟩ := w
  obtain ⟨s3, w⟩ := w
  obtain ⟨s4, w⟩ := w
  refine X_iast (show decode cX10_puts 14 = .ok (.iastore, 1) by decide +kernel) (isA_eq s2) s3 s4 ?_
  have w := w _ rfl
  exact X_vret ⟨(show decode cX10_puts 15 = .ok (.return_, 1) by decide +kernel), rfl⟩ ⟨rfl, w⟩
set_option maxRecDepth 100000 in
set_option maxHeartbeats 4000000 in
theorem kX10_point {a0 : Nat} {a1 : Int32} {a2 : Int32} {h : AH} {K : Int32 → AH → Prop} (w : wX10_point a0 a1 a2 h K) : Cn mX10_point (cwd mX10_point) 1 0 0 [.ref a0, .int a1, .int a2] h (KI K) T0 := by
  refine Cn_of (by decide +kernel) rfl (Nat.le_of_ble_eq_true rfl) ?_
  show X mX10_point 1 (KI K) T0 0 0 0 [(0, .ref a0), (1, .int a1), (2, .int a2)] [] h
  unfold wX10_point at w
  refine X_aload_n (j := 0) (show decode cX10_point 0 = .ok (.aload_n 0, 1) by decide +kernel) rfl rfl ?_
  obtain ⟨s1, w⟩ := w
  refine X_getR fl_X10_7 (show decode cX10_point 1 = .ok (.getfield 7, 3) by decide +kernel) s1 ?_
  refine X_bipush (v := (nI 81)) (show decode cX10_point 4 = .ok (.bipush 81, 2) by decide +kernel) (by decide) ?_
  refine X_iconst (v := (nI 5)) (show decode cX10_point 6 = .ok (.iconst 5, 1) by decide +kernel) (by decide) ?_
  refine X_iload_n (j := 1) (show decode cX10_point 7 = .ok (.iload_n 1, 1) by decide +kernel) rfl rfl ?_
  refine X_imul (show decode cX10_point 8 = .ok (.imul, 1) by decide +kernel) ?_
  refine X_iadd (show decode cX10_point 9 = .ok (.iadd, 1) by decide +kernel) ?_
  refine X_iload_n (j := 2) (show decode cX10_point 10 = .ok (.iload_n 2, 1) by decide +kernel) rfl rfl ?_
  refine X_iadd (show decode cX10_point 11 = .ok (.iadd, 1) by decide +kernel) ?_
  obtain ⟨s2, w⟩ := w
  obtain ⟨s3, w⟩ := w
  refine X_iald (show decode cX10_point 12 = .ok (.iaload, 1) by decide +kernel) (isA_eq s2) s3 ?_
  exact X_iret ⟨(show decode cX10_point 13 = .ok (.ireturn, 1) by decide +kernel), .int, rfl, rfl⟩ ⟨_, rfl, w⟩
set_option maxRecDepth 100000 in
set_option maxHeartbeats 4000000 in
theorem kX10_train {a0 : Nat} {a1 : Int32} {a2 : Int32} {h : AH} {K : Int32 → AH → Prop} (w : wX10_train a0 a1 a2 h K) : Cn mX10_train (cwd mX10_train) 1 0 0 [.ref a0, .int a1, .int a2] h (KI K) T0 := by
  refine Cn_of (by decide +kernel) rfl (Nat.le_of_ble_eq_true rfl) ?_
  show X mX10_train 1 (KI K) T0 0 0 0 [(0, .ref a0), (1, .int a1), (2, .int a2)] [] h
  unfold wX10_train at w
  refine X_aload_n (j := 0) (show decode cX10_train 0 = .ok (.aload_n 0, 1) by decide +kernel) rfl rfl ?_
  obtain ⟨s1, w⟩ := w
  refine X_getR fl_X10_7 (show decode cX10_train 1 = .ok (.getfield 7, 3) by decide +kernel) s1 ?_
  refine X_bipush (v := (nI 121)) (show decode cX10_train 4 = .ok (.bipush 121, 2) by decide +kernel) (by decide) ?_
  refine X_bipush (v := (nI 19)) (show decode cX10_train 6 = .ok (.bipush 19, 2) by decide +kernel) (by decide) ?_
  refine X_iload_n (j := 1) (show decode cX10_train 8 = .ok (.iload_n 1, 1) by decide +kernel) rfl rfl ?_
  refine X_imul (show decode cX10_train 9 = .ok (.imul, 1) by decide +kernel) ?_
  refine X_iadd (show decode cX10_train 10 = .ok (.iadd, 1) by decide +kernel) ?_
  refine X_iload_n (j := 2) (show decode cX10_train 11 = .ok (.iload_n 2, 1) by decide +kernel) rfl rfl ?_
  refine X_iadd (show decode cX10_train 12 = .ok (.iadd, 1) by decide +kernel) ?_
  obtain ⟨s2, w⟩ := w
  obtain ⟨s3, w⟩ := w
  refine X_iald (show decode cX10_train 13 = .ok (.iaload, 1) by decide +kernel) (isA_eq s2) s3 ?_
  exact X_iret ⟨(show decode cX10_train 14 = .ok (.ireturn, 1) by decide +kernel), .int, rfl, rfl⟩ ⟨_, rfl, w⟩
set_option maxRecDepth 100000 in
set_option maxHeartbeats 4000000 in
theorem kX10_tells {a0 : Nat} {a1 : Int32} {a2 : Int32} {a3 : Int32} {h : AH} {K : AH → Prop} (w : wX10_tells a0 a1 a2 a3 h K) : Cn mX10_tells (cwd mX10_tells) 1 0 0 [.ref a0, .int a1, .int a2, .int a3] h (KV K) T0 := by
  refine Cn_of (by decide +kernel) rfl (Nat.le_of_ble_eq_true rfl) ?_
  show X mX10_tells 1 (KV K) T0 0 0 0 [(0, .ref a0), (1, .int a1), (2, .int a2), (3, .int a3)] [] h
  unfold wX10_tells at w
  refine X_aload_n (j := 0) (show decode cX10_tells 0 = .ok (.aload_n 0, 1) by decide +kernel) rfl rfl ?_
  obtain ⟨s1, w⟩ := w
  refine X_getR fl_X10_7 (show decode cX10_tells 1 = .ok (.getfield 7, 3) by decide +kernel) s1 ?_
  refine X_bipush (v := (nI 121)) (show decode cX10_tells 4 = .ok (.bipush 121, 2) by decide +kernel) (by decide) ?_
  refine X_bipush (v := (nI 19)) (show decode cX10_tells 6 = .ok (.bipush 19, 2) by decide +kernel) (by decide) ?_
  refine X_iload_n (j := 1) (show decode cX10_tells 8 = .ok (.iload_n 1, 1) by decide +kernel) rfl rfl ?_
  refine X_imul (show decode cX10_tells 9 = .ok (.imul, 1) by decide +kernel) ?_
  refine X_iadd (show decode cX10_tells 10 = .ok (.iadd, 1) by decide +kernel) ?_
  refine X_iload_n (j := 2) (show decode cX10_tells 11 = .ok (.iload_n 2, 1) by decide +kernel) rfl rfl ?_
  refine X_iadd (show decode cX10_tells 12 = .ok (.iadd, 1) by decide +kernel) ?_
  refine X_iload_n (j := 3) (show decode cX10_tells 13 = .ok (.iload_n 3, 1) by decide +kernel) rfl rfl ?_
  obtain ⟨s2, w⟩ := w
  obtain ⟨s3, w⟩ := w
  obtain ⟨s4, w⟩ := w
  refine X_iast (show decode cX10_tells 14 = .ok (.iastore, 1) by decide +kernel) (isA_eq s2) s3 s4 ?_
  have w := w _ rfl
  exact X_vret ⟨(show decode cX10_tells 15 = .ok (.return_, 1) by decide +kernel), rfl⟩ ⟨rfl, w⟩
set_option maxRecDepth 100000 in
set_option maxHeartbeats 4000000 in
theorem kX10_placeOf_L2 {K : Int32 → AH → Prop}    : ∀ (n : Nat) (x0 : Nat) (x1 : Int32) (x2 : Int32) (h : AH), wX10_placeOf_L2 K   n x0 x1 x2 h → X mX10_placeOf 2 (KI K) T0 0 0 2 [(0, .ref x0), (1, .int x1), (2, .int x2)] [] h := by
  intro n
  induction n with
  | zero => intro _ _ _ _ w; exact w.elim
  | succ n ih =>
    intro x0 x1 x2 h w
    rw [wX10_placeOf_L2] at w
    refine X_iload_n (j := 2) (show decode cX10_placeOf 2 = .ok (.iload_n 2, 1) by decide +kernel) rfl rfl ?_
    refine X_aload_n (j := 0) (show decode cX10_placeOf 3 = .ok (.aload_n 0, 1) by decide +kernel) rfl rfl ?_
    obtain ⟨s1, w⟩ := w
    refine X_getR fl_X10_7 (show decode cX10_placeOf 4 = .ok (.getfield 7, 3) by decide +kernel) s1 ?_
    refine X_iconst (v := (nI 4)) (show decode cX10_placeOf 7 = .ok (.iconst 4, 1) by decide +kernel) (by decide) ?_
    obtain ⟨s2, w⟩ := w
    obtain ⟨s3, w⟩ := w
    refine X_iald (show decode cX10_placeOf 8 = .ok (.iaload, 1) by decide +kernel) (isA_eq s2) s3 ?_
    refine X_icmp_ge (tgt := 30) (show decode cX10_placeOf 9 = .ok (.if_icmp .ge 21, 3) by decide +kernel) (by decide) ⟨fun c4 => ?_, fun c4 => ?_⟩
    · have w := w.1 c4
      refine X_iconst (v := (-1)) (show decode cX10_placeOf 30 = .ok (.iconst (-1), 1) by decide +kernel) (by decide) ?_
      exact X_iret ⟨(show decode cX10_placeOf 31 = .ok (.ireturn, 1) by decide +kernel), .int, rfl, rfl⟩ ⟨_, rfl, w⟩
    · have w := w.2 c4
      refine X_aload_n (j := 0) (show decode cX10_placeOf 12 = .ok (.aload_n 0, 1) by decide +kernel) rfl rfl ?_
      refine X_iload_n (j := 2) (show decode cX10_placeOf 13 = .ok (.iload_n 2, 1) by decide +kernel) rfl rfl ?_
      refine X_iconst (v := (nI 0)) (show decode cX10_placeOf 14 = .ok (.iconst 0, 1) by decide +kernel) (by decide) ?_
      refine X_vI (rc' := 0) (rs' := 0) (as := [.int _, .int _]) mv_X10_76 (show decode cX10_placeOf 15 = .ok (.invokevirtual 76, 3) by decide +kernel) (by decide) (Nat.le_of_ble_eq_true rfl) (Nat.le_of_ble_eq_true rfl) rfl rfl (Nat.le_of_ble_eq_true rfl) (rcvD s1 (by decide) rfl) (kX10_train w) (fun E h hk => hk.elim) (fun r6 h5 w => ?_)
      refine X_iload_n (j := 1) (show decode cX10_placeOf 18 = .ok (.iload_n 1, 1) by decide +kernel) rfl rfl ?_
      refine X_icmp_ne (tgt := 24) (show decode cX10_placeOf 19 = .ok (.if_icmp .ne 5, 3) by decide +kernel) (by decide) ⟨fun c7 => ?_, fun c7 => ?_⟩
      · have w := w.1 c7
        refine X_iinc (j := 2) (v := _ + (nI 1)) (ls' := [(0, .ref _), (1, .int _), (2, .int _)]) (show decode cX10_placeOf 24 = .ok (.iinc 2 1, 3) by decide +kernel) rfl rfl (Nat.le_of_ble_eq_true rfl) rfl ?_
        refine X_goto (tgt := 2) (show decode cX10_placeOf 27 = .ok (.goto (-25), 3) by decide +kernel) (by decide) ?_
        exact ih _ _ _ _ w
      · have w := w.2 c7
        refine X_iload_n (j := 2) (show decode cX10_placeOf 22 = .ok (.iload_n 2, 1) by decide +kernel) rfl rfl ?_
        exact X_iret ⟨(show decode cX10_placeOf 23 = .ok (.ireturn, 1) by decide +kernel), .int, rfl, rfl⟩ ⟨_, rfl, w⟩
set_option maxRecDepth 100000 in
set_option maxHeartbeats 4000000 in
theorem kX10_placeOf {a0 : Nat} {a1 : Int32} {h : AH} {K : Int32 → AH → Prop} (w : wX10_placeOf a0 a1 h K) : Cn mX10_placeOf (cwd mX10_placeOf) 2 0 0 [.ref a0, .int a1] h (KI K) T0 := by
  refine Cn_of (by decide +kernel) rfl (Nat.le_of_ble_eq_true rfl) ?_
  show X mX10_placeOf 2 (KI K) T0 0 0 0 [(0, .ref a0), (1, .int a1)] [] h
  unfold wX10_placeOf at w
  refine X_iconst (v := (nI 0)) (show decode cX10_placeOf 0 = .ok (.iconst 0, 1) by decide +kernel) (by decide) ?_
  refine X_istore_n (ls' := [(0, .ref _), (1, .int _), (2, .int _)]) (show decode cX10_placeOf 1 = .ok (.istore_n 2, 1) by decide +kernel) rfl (by decide) rfl ?_
  obtain ⟨n8, w⟩ := w
  exact kX10_placeOf_L2  n8 _ _ _ _ w
set_option maxRecDepth 100000 in
set_option maxHeartbeats 4000000 in
theorem kX10_look {a0 : Nat} {a1 : Int32} {h : AH} {K : Int32 → AH → Prop} (w : wX10_look a0 a1 h K) : Cn mX10_look (cwd mX10_look) 2 0 0 [.ref a0, .int a1] h (KI K) T0 := by
  refine Cn_of (by decide +kernel) rfl (Nat.le_of_ble_eq_true rfl) ?_
  show X mX10_look 2 (KI K) T0 0 0 0 [(0, .ref a0), (1, .int a1)] [] h
  unfold wX10_look at w
  refine X_aload_n (j := 0) (show decode cX10_look 0 = .ok (.aload_n 0, 1) by decide +kernel) rfl rfl ?_
  refine X_iload_n (j := 1) (show decode cX10_look 1 = .ok (.iload_n 1, 1) by decide +kernel) rfl rfl ?_
  refine X_iconst (v := (nI 1)) (show decode cX10_look 2 = .ok (.iconst 1, 1) by decide +kernel) (by decide) ?_
  obtain ⟨s12, w⟩ := w
  refine X_vI (rc' := 0) (rs' := 0) (as := [.int _, .int _]) mv_X10_80 (show decode cX10_look 3 = .ok (.invokevirtual 80, 3) by decide +kernel) (by decide) (Nat.le_of_ble_eq_true rfl) (Nat.le_of_ble_eq_true rfl) rfl rfl (Nat.le_of_ble_eq_true rfl) (rcvD s12 (by decide) rfl) (kX10_block w) (fun E h hk => hk.elim) (fun r2 h1 w => ?_)
  refine X_iconst (v := (nI 1)) (show decode cX10_look 6 = .ok (.iconst 1, 1) by decide +kernel) (by decide) ?_
  refine X_icmp_ne (tgt := 15) (show decode cX10_look 7 = .ok (.if_icmp .ne 8, 3) by decide +kernel) (by decide) ⟨fun c3 => ?_, fun c3 => ?_⟩
  · have w := w.1 c3
    refine X_aload_n (j := 0) (show decode cX10_look 15 = .ok (.aload_n 0, 1) by decide +kernel) rfl rfl ?_
    refine X_iload_n (j := 1) (show decode cX10_look 16 = .ok (.iload_n 1, 1) by decide +kernel) rfl rfl ?_
    refine X_iconst (v := (nI 4)) (show decode cX10_look 17 = .ok (.iconst 4, 1) by decide +kernel) (by decide) ?_
    obtain ⟨s11, w⟩ := w
    refine X_vI (rc' := 0) (rs' := 0) (as := [.int _, .int _]) mv_X10_80 (show decode cX10_look 18 = .ok (.invokevirtual 80, 3) by decide +kernel) (by decide) (Nat.le_of_ble_eq_true rfl) (Nat.le_of_ble_eq_true rfl) rfl rfl (Nat.le_of_ble_eq_true rfl) (rcvD s11 (by decide) rfl) (kX10_block w) (fun E h hk => hk.elim) (fun r5 h4 w => ?_)
    refine X_if_le (tgt := 29) (show decode cX10_look 21 = .ok (.ifCond .le 8, 3) by decide +kernel) (by decide) ⟨fun c6 => ?_, fun c6 => ?_⟩
    · have w := w.1 c6
      refine X_aload_n (j := 0) (show decode cX10_look 29 = .ok (.aload_n 0, 1) by decide +kernel) rfl rfl ?_
      refine X_iload_n (j := 1) (show decode cX10_look 30 = .ok (.iload_n 1, 1) by decide +kernel) rfl rfl ?_
      refine X_iconst (v := (nI 5)) (show decode cX10_look 31 = .ok (.iconst 5, 1) by decide +kernel) (by decide) ?_
      obtain ⟨s10, w⟩ := w
      refine X_vI (rc' := 0) (rs' := 0) (as := [.int _, .int _]) mv_X10_80 (show decode cX10_look 32 = .ok (.invokevirtual 80, 3) by decide +kernel) (by decide) (Nat.le_of_ble_eq_true rfl) (Nat.le_of_ble_eq_true rfl) rfl rfl (Nat.le_of_ble_eq_true rfl) (rcvD s10 (by decide) rfl) (kX10_block w) (fun E h hk => hk.elim) (fun r8 h7 w => ?_)
      refine X_if_le (tgt := 43) (show decode cX10_look 35 = .ok (.ifCond .le 8, 3) by decide +kernel) (by decide) ⟨fun c9 => ?_, fun c9 => ?_⟩
      · have w := w.1 c9
        refine X_bipush (v := (nI 102)) (show decode cX10_look 43 = .ok (.bipush 102, 2) by decide +kernel) (by decide) ?_
        exact X_iret ⟨(show decode cX10_look 45 = .ok (.ireturn, 1) by decide +kernel), .int, rfl, rfl⟩ ⟨_, rfl, w⟩
      · have w := w.2 c9
        refine X_bipush (v := (nI 114)) (show decode cX10_look 38 = .ok (.bipush 114, 2) by decide +kernel) (by decide) ?_
        refine X_goto (tgt := 45) (show decode cX10_look 40 = .ok (.goto 5, 3) by decide +kernel) (by decide) ?_
        exact X_iret ⟨(show decode cX10_look 45 = .ok (.ireturn, 1) by decide +kernel), .int, rfl, rfl⟩ ⟨_, rfl, w⟩
    · have w := w.2 c6
      refine X_bipush (v := (nI 111)) (show decode cX10_look 24 = .ok (.bipush 111, 2) by decide +kernel) (by decide) ?_
      refine X_goto (tgt := 45) (show decode cX10_look 26 = .ok (.goto 19, 3) by decide +kernel) (by decide) ?_
      exact X_iret ⟨(show decode cX10_look 45 = .ok (.ireturn, 1) by decide +kernel), .int, rfl, rfl⟩ ⟨_, rfl, w⟩
  · have w := w.2 c3
    refine X_bipush (v := (nI 115)) (show decode cX10_look 10 = .ok (.bipush 115, 2) by decide +kernel) (by decide) ?_
    refine X_goto (tgt := 45) (show decode cX10_look 12 = .ok (.goto 33, 3) by decide +kernel) (by decide) ?_
    exact X_iret ⟨(show decode cX10_look 45 = .ok (.ireturn, 1) by decide +kernel), .int, rfl, rfl⟩ ⟨_, rfl, w⟩
set_option maxRecDepth 100000 in
set_option maxHeartbeats 4000000 in
theorem kX10_shutMany_L4 {K : Int32 → AH → Prop}    : ∀ (n : Nat) (x0 : Nat) (x1 : Int32) (x2 : Int32) (h : AH), wX10_shutMany_L4 K   n x0 x1 x2 h → X mX10_shutMany 2 (KI K) T0 0 0 4 [(0, .ref x0), (1, .int x1), (2, .int x2)] [] h := by
  intro n
  induction n with
  | zero => intro _ _ _ _ w; exact w.elim
  | succ n ih =>
    intro x0 x1 x2 h w
    rw [wX10_shutMany_L4] at w
    refine X_iload_n (j := 2) (show decode cX10_shutMany 4 = .ok (.iload_n 2, 1) by decide +kernel) rfl rfl ?_
    refine X_aload_n (j := 0) (show decode cX10_shutMany 5 = .ok (.aload_n 0, 1) by decide +kernel) rfl rfl ?_
    obtain ⟨s1, w⟩ := w
    refine X_getR fl_X10_7 (show decode cX10_shutMany 6 = .ok (.getfield 7, 3) by decide +kernel) s1 ?_
    refine X_iconst (v := (nI 0)) (show decode cX10_shutMany 9 = .ok (.iconst 0, 1) by decide +kernel) (by decide) ?_
    obtain ⟨s2, w⟩ := w
    obtain ⟨s3, w⟩ := w
    refine X_iald (show decode cX10_shutMany 10 = .ok (.iaload, 1) by decide +kernel) (isA_eq s2) s3 ?_
    refine X_icmp_ge (tgt := 29) (show decode cX10_shutMany 11 = .ok (.if_icmp .ge 18, 3) by decide +kernel) (by decide) ⟨fun c4 => ?_, fun c4 => ?_⟩
    · have w := w.1 c4
      refine X_iload_n (j := 1) (show decode cX10_shutMany 29 = .ok (.iload_n 1, 1) by decide +kernel) rfl rfl ?_
      exact X_iret ⟨(show decode cX10_shutMany 30 = .ok (.ireturn, 1) by decide +kernel), .int, rfl, rfl⟩ ⟨_, rfl, w⟩
    · have w := w.2 c4
      refine X_iload_n (j := 1) (show decode cX10_shutMany 14 = .ok (.iload_n 1, 1) by decide +kernel) rfl rfl ?_
      refine X_aload_n (j := 0) (show decode cX10_shutMany 15 = .ok (.aload_n 0, 1) by decide +kernel) rfl rfl ?_
      refine X_iload_n (j := 2) (show decode cX10_shutMany 16 = .ok (.iload_n 2, 1) by decide +kernel) rfl rfl ?_
      refine X_iconst (v := (nI 1)) (show decode cX10_shutMany 17 = .ok (.iconst 1, 1) by decide +kernel) (by decide) ?_
      refine X_vI (rc' := 0) (rs' := 0) (as := [.int _, .int _]) mv_X10_80 (show decode cX10_shutMany 18 = .ok (.invokevirtual 80, 3) by decide +kernel) (by decide) (Nat.le_of_ble_eq_true rfl) (Nat.le_of_ble_eq_true rfl) rfl rfl (Nat.le_of_ble_eq_true rfl) (rcvD s1 (by decide) rfl) (kX10_block w) (fun E h hk => hk.elim) (fun r6 h5 w => ?_)
      refine X_iadd (show decode cX10_shutMany 21 = .ok (.iadd, 1) by decide +kernel) ?_
      refine X_istore_n (ls' := [(0, .ref _), (1, .int _), (2, .int _)]) (show decode cX10_shutMany 22 = .ok (.istore_n 1, 1) by decide +kernel) rfl (by decide) rfl ?_
      refine X_iinc (j := 2) (v := _ + (nI 1)) (ls' := [(0, .ref _), (1, .int _), (2, .int _)]) (show decode cX10_shutMany 23 = .ok (.iinc 2 1, 3) by decide +kernel) rfl rfl (Nat.le_of_ble_eq_true rfl) rfl ?_
      refine X_goto (tgt := 4) (show decode cX10_shutMany 26 = .ok (.goto (-22), 3) by decide +kernel) (by decide) ?_
      exact ih _ _ _ _ w
set_option maxRecDepth 100000 in
set_option maxHeartbeats 4000000 in
theorem kX10_shutMany {a0 : Nat} {h : AH} {K : Int32 → AH → Prop} (w : wX10_shutMany a0 h K) : Cn mX10_shutMany (cwd mX10_shutMany) 2 0 0 [.ref a0] h (KI K) T0 := by
  refine Cn_of (by decide +kernel) rfl (Nat.le_of_ble_eq_true rfl) ?_
  show X mX10_shutMany 2 (KI K) T0 0 0 0 [(0, .ref a0)] [] h
  unfold wX10_shutMany at w
  refine X_iconst (v := (nI 0)) (show decode cX10_shutMany 0 = .ok (.iconst 0, 1) by decide +kernel) (by decide) ?_
  refine X_istore_n (ls' := [(0, .ref _), (1, .int _)]) (show decode cX10_shutMany 1 = .ok (.istore_n 1, 1) by decide +kernel) rfl (by decide) rfl ?_
  refine X_iconst (v := (nI 0)) (show decode cX10_shutMany 2 = .ok (.iconst 0, 1) by decide +kernel) (by decide) ?_
  refine X_istore_n (ls' := [(0, .ref _), (1, .int _), (2, .int _)]) (show decode cX10_shutMany 3 = .ok (.istore_n 2, 1) by decide +kernel) rfl (by decide) rfl ?_
  obtain ⟨n7, w⟩ := w
  exact kX10_shutMany_L4  n7 _ _ _ _ w
set_option maxRecDepth 100000 in
set_option maxHeartbeats 4000000 in
theorem kX10_exit {a0 : Nat} {a1 : Int32} {a2 : Int32} {h : AH} {K : Int32 → AH → Prop} (w : wX10_exit a0 a1 a2 h K) : Cn mX10_exit (cwd mX10_exit) 2 0 0 [.ref a0, .int a1, .int a2] h (KI K) T0 := by
  refine Cn_of (by decide +kernel) rfl (Nat.le_of_ble_eq_true rfl) ?_
  show X mX10_exit 2 (KI K) T0 0 0 0 [(0, .ref a0), (1, .int a1), (2, .int a2)] [] h
  unfold wX10_exit at w
  refine X_aload_n (j := 0) (show decode cX10_exit 0 = .ok (.aload_n 0, 1) by decide +kernel) rfl rfl ?_
  refine X_iload_n (j := 1) (show decode cX10_exit 1 = .ok (.iload_n 1, 1) by decide +kernel) rfl rfl ?_
  refine X_iconst (v := (nI 3)) (show decode cX10_exit 2 = .ok (.iconst 3, 1) by decide +kernel) (by decide) ?_
  obtain ⟨s14, w⟩ := w
  refine X_vI (rc' := 0) (rs' := 0) (as := [.int _, .int _]) mv_X10_80 (show decode cX10_exit 3 = .ok (.invokevirtual 80, 3) by decide +kernel) (by decide) (Nat.le_of_ble_eq_true rfl) (Nat.le_of_ble_eq_true rfl) rfl rfl (Nat.le_of_ble_eq_true rfl) (rcvD s14 (by decide) rfl) (kX10_block w) (fun E h hk => hk.elim) (fun r2 h1 w => ?_)
  refine X_if_le (tgt := 25) (show decode cX10_exit 6 = .ok (.ifCond .le 19, 3) by decide +kernel) (by decide) ⟨fun c3 => ?_, fun c3 => ?_⟩
  · have w := w.1 c3
    refine X_iload_n (j := 2) (show decode cX10_exit 25 = .ok (.iload_n 2, 1) by decide +kernel) rfl rfl ?_
    refine X_if_ne (tgt := 40) (show decode cX10_exit 26 = .ok (.ifCond .ne 14, 3) by decide +kernel) (by decide) ⟨fun c4 => ?_, fun c4 => ?_⟩
    · have w := w.1 c4
      refine X_iconst (v := (-1)) (show decode cX10_exit 40 = .ok (.iconst (-1), 1) by decide +kernel) (by decide) ?_
      exact X_iret ⟨(show decode cX10_exit 41 = .ok (.ireturn, 1) by decide +kernel), .int, rfl, rfl⟩ ⟨_, rfl, w⟩
    · have w := w.2 c4
      refine X_aload_n (j := 0) (show decode cX10_exit 29 = .ok (.aload_n 0, 1) by decide +kernel) rfl rfl ?_
      refine X_iload_n (j := 1) (show decode cX10_exit 30 = .ok (.iload_n 1, 1) by decide +kernel) rfl rfl ?_
      refine X_iconst (v := (nI 2)) (show decode cX10_exit 31 = .ok (.iconst 2, 1) by decide +kernel) (by decide) ?_
      obtain ⟨s7, w⟩ := w
      refine X_vI (rc' := 0) (rs' := 0) (as := [.int _, .int _]) mv_X10_80 (show decode cX10_exit 32 = .ok (.invokevirtual 80, 3) by decide +kernel) (by decide) (Nat.le_of_ble_eq_true rfl) (Nat.le_of_ble_eq_true rfl) rfl rfl (Nat.le_of_ble_eq_true rfl) (rcvD s7 (by decide) rfl) (kX10_block w) (fun E h hk => hk.elim) (fun r6 h5 w => ?_)
      refine X_iconst (v := (nI 1)) (show decode cX10_exit 35 = .ok (.iconst 1, 1) by decide +kernel) (by decide) ?_
      refine X_isub (show decode cX10_exit 36 = .ok (.isub, 1) by decide +kernel) ?_
      refine X_goto (tgt := 41) (show decode cX10_exit 37 = .ok (.goto 4, 3) by decide +kernel) (by decide) ?_
      exact X_iret ⟨(show decode cX10_exit 41 = .ok (.ireturn, 1) by decide +kernel), .int, rfl, rfl⟩ ⟨_, rfl, w⟩
  · have w := w.2 c3
    refine X_aload_n (j := 0) (show decode cX10_exit 9 = .ok (.aload_n 0, 1) by decide +kernel) rfl rfl ?_
    refine X_aload_n (j := 0) (show decode cX10_exit 10 = .ok (.aload_n 0, 1) by decide +kernel) rfl rfl ?_
    refine X_iload_n (j := 1) (show decode cX10_exit 11 = .ok (.iload_n 1, 1) by decide +kernel) rfl rfl ?_
    refine X_iconst (v := (nI 3)) (show decode cX10_exit 12 = .ok (.iconst 3, 1) by decide +kernel) (by decide) ?_
    obtain ⟨s13, w⟩ := w
    refine X_vI (rc' := 0) (rs' := 0) (as := [.int _, .int _]) mv_X10_80 (show decode cX10_exit 13 = .ok (.invokevirtual 80, 3) by decide +kernel) (by decide) (Nat.le_of_ble_eq_true rfl) (Nat.le_of_ble_eq_true rfl) rfl rfl (Nat.le_of_ble_eq_true rfl) (rcvD s13 (by decide) rfl) (kX10_block w) (fun E h hk => hk.elim) (fun r9 h8 w => ?_)
    refine X_iconst (v := (nI 1)) (show decode cX10_exit 16 = .ok (.iconst 1, 1) by decide +kernel) (by decide) ?_
    refine X_isub (show decode cX10_exit 17 = .ok (.isub, 1) by decide +kernel) ?_
    refine X_iconst (v := (nI 1)) (show decode cX10_exit 18 = .ok (.iconst 1, 1) by decide +kernel) (by decide) ?_
    refine X_iload_n (j := 2) (show decode cX10_exit 19 = .ok (.iload_n 2, 1) by decide +kernel) rfl rfl ?_
    refine X_iadd (show decode cX10_exit 20 = .ok (.iadd, 1) by decide +kernel) ?_
    obtain ⟨s12, w⟩ := w
    refine X_vI (rc' := 0) (rs' := 0) (as := [.int _, .int _]) mv_X10_83 (show decode cX10_exit 21 = .ok (.invokevirtual 83, 3) by decide +kernel) (by decide) (Nat.le_of_ble_eq_true rfl) (Nat.le_of_ble_eq_true rfl) rfl rfl (Nat.le_of_ble_eq_true rfl) (rcvD s12 (by decide) rfl) (kX10_point w) (fun E h hk => hk.elim) (fun r11 h10 w => ?_)
    exact X_iret ⟨(show decode cX10_exit 24 = .ok (.ireturn, 1) by decide +kernel), .int, rfl, rfl⟩ ⟨_, rfl, w⟩
set_option maxRecDepth 100000 in
set_option maxHeartbeats 4000000 in
theorem kX10_measures_L2 {K : AH → Prop} {c32 : Nat → Int32 → AH → Prop} (hc32 : ∀ x0 x1 h, c32 x0 x1 h → X mX10_measures 3 (KV K) T0 0 0 32 [(0, .ref x0), (1, .int x1)] [] h)  : ∀ (n : Nat) (x0 : Nat) (x1 : Int32) (x2 : Int32) (h : AH), wX10_measures_L2 K c32  n x0 x1 x2 h → X mX10_measures 3 (KV K) T0 0 0 2 [(0, .ref x0), (1, .int x1), (2, .int x2)] [] h := by
  intro n
  induction n with
  | zero => intro _ _ _ _ w; exact w.elim
  | succ n ih =>
    intro x0 x1 x2 h w
    rw [wX10_measures_L2] at w
    refine X_iload_n (j := 2) (show decode cX10_measures 2 = .ok (.iload_n 2, 1) by decide +kernel) rfl rfl ?_
    refine X_bipush (v := (nI 12)) (show decode cX10_measures 3 = .ok (.bipush 12, 2) by decide +kernel) (by decide) ?_
    refine X_icmp_ge (tgt := 32) (show decode cX10_measures 5 = .ok (.if_icmp .ge 27, 3) by decide +kernel) (by decide) ⟨fun c1 => ?_, fun c1 => ?_⟩
    · have w := w.1 c1
      refine X_pick (ls' := [(0, .ref _), (1, .int _)]) [0, 1] rfl ?_
      exact hc32 _ _ _ w
    · have w := w.2 c1
      refine X_aload_n (j := 0) (show decode cX10_measures 8 = .ok (.aload_n 0, 1) by decide +kernel) rfl rfl ?_
      obtain ⟨s2, w⟩ := w
      refine X_getR fl_X10_31 (show decode cX10_measures 9 = .ok (.getfield 31, 3) by decide +kernel) s2 ?_
      refine X_iload_n (j := 2) (show decode cX10_measures 12 = .ok (.iload_n 2, 1) by decide +kernel) rfl rfl ?_
      refine X_sipush (v := (nI 9999)) (show decode cX10_measures 13 = .ok (.sipush 9999, 3) by decide +kernel) (by decide) ?_
      obtain ⟨s3, w⟩ := w
      obtain ⟨s4, w⟩ := w
      obtain ⟨s5, w⟩ := w
      refine X_iast (show decode cX10_measures 16 = .ok (.iastore, 1) by decide +kernel) (isA_eq s3) s4 s5 ?_
      have w := w _ rfl
      refine X_aload_n (j := 0) (show decode cX10_measures 17 = .ok (.aload_n 0, 1) by decide +kernel) rfl rfl ?_
      refine X_getR fl_X10_34 (show decode cX10_measures 18 = .ok (.getfield 34, 3) by decide +kernel) s2 ?_
      refine X_iload_n (j := 2) (show decode cX10_measures 21 = .ok (.iload_n 2, 1) by decide +kernel) rfl rfl ?_
      refine X_sipush (v := (nI 9999)) (show decode cX10_measures 22 = .ok (.sipush 9999, 3) by decide +kernel) (by decide) ?_
      obtain ⟨s7, w⟩ := w
      obtain ⟨s8, w⟩ := w
      obtain ⟨s9, w⟩ := w
      refine X_iast (show decode cX10_measures 25 = .ok (.iastore, 1) by decide +kernel) (isA_eq s7) s8 s9 ?_
      have w := w _ rfl
      refine X_iinc (j := 2) (v := _ + (nI 1)) (ls' := [(0, .ref _), (1, .int _), (2, .int _)]) (show decode cX10_measures 26 = .ok (.iinc 2 1, 3) by decide +kernel) rfl rfl (Nat.le_of_ble_eq_true rfl) rfl ?_
      refine X_goto (tgt := 2) (show decode cX10_measures 29 = .ok (.goto (-27), 3) by decide +kernel) (by decide) ?_
      exact ih _ _ _ _ w
set_option maxRecDepth 100000 in
set_option maxHeartbeats 4000000 in
theorem kX10_measures_J178 {K : AH → Prop} {c81 : Nat → Int32 → Int32 → Int32 → Int32 → AH → Prop} (hc81 : ∀ x0 x1 x2 x3 x4 h, c81 x0 x1 x2 x3 x4 h → X mX10_measures 3 (KV K) T0 0 0 81 [(0, .ref x0), (1, .int x1), (2, .int x2), (3, .int x3), (4, .int x4)] [] h) (x0 : Nat) (x1 : Int32) (x2 : Int32) (x3 : Int32) (x4 : Int32) (x5 : Int32) (x6 : Int32) (h : AH) (w : wX10_measures_J178 K c81 x0 x1 x2 x3 x4 x5 x6 h) : X mX10_measures 3 (KV K) T0 0 0 178 [(0, .ref x0), (1, .int x1), (2, .int x2), (3, .int x3), (4, .int x4), (5, .int x5), (6, .int x6)] [] h := by
  unfold wX10_measures_J178 at w
  refine X_aload_n (j := 0) (show decode cX10_measures 178 = .ok (.aload_n 0, 1) by decide +kernel) rfl rfl ?_
  obtain ⟨s49, w⟩ := w
  refine X_getR fl_X10_31 (show decode cX10_measures 179 = .ok (.getfield 31, 3) by decide +kernel) s49 ?_
  refine X_iload_n (j := 3) (show decode cX10_measures 182 = .ok (.iload_n 3, 1) by decide +kernel) rfl rfl ?_
  refine X_iload (j := 6) (show decode cX10_measures 183 = .ok (.iload 6, 2) by decide +kernel) rfl ?_
  obtain ⟨s50, w⟩ := w
  obtain ⟨s51, w⟩ := w
  obtain ⟨s52, w⟩ := w
  refine X_iast (show decode cX10_measures 185 = .ok (.iastore, 1) by decide +kernel) (isA_eq s50) s51 s52 ?_
  have w := w _ rfl
  refine X_aload_n (j := 0) (show decode cX10_measures 186 = .ok (.aload_n 0, 1) by decide +kernel) rfl rfl ?_
  refine X_getR fl_X10_34 (show decode cX10_measures 187 = .ok (.getfield 34, 3) by decide +kernel) s49 ?_
  refine X_iload_n (j := 3) (show decode cX10_measures 190 = .ok (.iload_n 3, 1) by decide +kernel) rfl rfl ?_
  refine X_aload_n (j := 0) (show decode cX10_measures 191 = .ok (.aload_n 0, 1) by decide +kernel) rfl rfl ?_
  refine X_getR fl_X10_34 (show decode cX10_measures 192 = .ok (.getfield 34, 3) by decide +kernel) s49 ?_
  refine X_iload (j := 5) (show decode cX10_measures 195 = .ok (.iload 5, 2) by decide +kernel) rfl ?_
  obtain ⟨s54, w⟩ := w
  obtain ⟨s55, w⟩ := w
  refine X_iald (show decode cX10_measures 197 = .ok (.iaload, 1) by decide +kernel) (isA_eq s54) s55 ?_
  refine X_iconst (v := (nI 1)) (show decode cX10_measures 198 = .ok (.iconst 1, 1) by decide +kernel) (by decide) ?_
  refine X_iadd (show decode cX10_measures 199 = .ok (.iadd, 1) by decide +kernel) ?_
  obtain ⟨s56, w⟩ := w
  obtain ⟨s57, w⟩ := w
  refine X_iast (show decode cX10_measures 200 = .ok (.iastore, 1) by decide +kernel) (isA_eq s54) s56 s57 ?_
  have w := w _ rfl
  refine X_iinc (j := 4) (v := _ + (nI 1)) (ls' := [(0, .ref _), (1, .int _), (2, .int _), (3, .int _), (4, .int _), (5, .int _), (6, .int _)]) (show decode cX10_measures 201 = .ok (.iinc 4 1, 3) by decide +kernel) rfl rfl (Nat.le_of_ble_eq_true rfl) rfl ?_
  refine X_goto (tgt := 81) (show decode cX10_measures 204 = .ok (.goto (-123), 3) by decide +kernel) (by decide) ?_
  refine X_pick (ls' := [(0, .ref _), (1, .int _), (2, .int _), (3, .int _), (4, .int _)]) [0, 1, 2, 3, 4] rfl ?_
  exact hc81 _ _ _ _ _ _ w
set_option maxRecDepth 100000 in
set_option maxHeartbeats 4000000 in
theorem kX10_measures_L81 {K : AH → Prop} {c207 : Nat → Int32 → Int32 → Int32 → AH → Prop} (hc207 : ∀ x0 x1 x2 x3 h, c207 x0 x1 x2 x3 h → X mX10_measures 3 (KV K) T0 0 0 207 [(0, .ref x0), (1, .int x1), (2, .int x2), (3, .int x3)] [] h)  : ∀ (n : Nat) (x0 : Nat) (x1 : Int32) (x2 : Int32) (x3 : Int32) (x4 : Int32) (h : AH), wX10_measures_L81 K c207  n x0 x1 x2 x3 x4 h → X mX10_measures 3 (KV K) T0 0 0 81 [(0, .ref x0), (1, .int x1), (2, .int x2), (3, .int x3), (4, .int x4)] [] h := by
  intro n
  induction n with
  | zero => intro _ _ _ _ _ _ w; exact w.elim
  | succ n ih =>
    intro x0 x1 x2 x3 x4 h w
    rw [wX10_measures_L81] at w
    refine X_iload (j := 4) (show decode cX10_measures 81 = .ok (.iload 4, 2) by decide +kernel) rfl ?_
    refine X_iconst (v := (nI 2)) (show decode cX10_measures 83 = .ok (.iconst 2, 1) by decide +kernel) (by decide) ?_
    refine X_icmp_ge (tgt := 207) (show decode cX10_measures 84 = .ok (.if_icmp .ge 123, 3) by decide +kernel) (by decide) ⟨fun c32 => ?_, fun c32 => ?_⟩
    · have w := w.1 c32
      refine X_pick (ls' := [(0, .ref _), (1, .int _), (2, .int _), (3, .int _)]) [0, 1, 2, 3] rfl ?_
      exact hc207 _ _ _ _ _ w
    · have w := w.2 c32
      refine X_aload_n (j := 0) (show decode cX10_measures 87 = .ok (.aload_n 0, 1) by decide +kernel) rfl rfl ?_
      refine X_iload_n (j := 3) (show decode cX10_measures 88 = .ok (.iload_n 3, 1) by decide +kernel) rfl rfl ?_
      refine X_iload (j := 4) (show decode cX10_measures 89 = .ok (.iload 4, 2) by decide +kernel) rfl ?_
      obtain ⟨s63, w⟩ := w
      refine X_vI (rc' := 0) (rs' := 0) (as := [.int _, .int _]) mv_X10_86 (show decode cX10_measures 91 = .ok (.invokevirtual 86, 3) by decide +kernel) (by decide) (Nat.le_of_ble_eq_true rfl) (Nat.le_of_ble_eq_true rfl) rfl rfl (Nat.le_of_ble_eq_true rfl) (rcvD s63 (by decide) rfl) (kX10_exit w) (fun E h hk => hk.elim) (fun r34 h33 w => ?_)
      refine X_istore (ls' := [(0, .ref _), (1, .int _), (2, .int _), (3, .int _), (4, .int _), (5, .int _)]) (show decode cX10_measures 94 = .ok (.istore 5, 2) by decide +kernel) (by decide) rfl ?_
      refine X_iload (j := 5) (show decode cX10_measures 96 = .ok (.iload 5, 2) by decide +kernel) rfl ?_
      refine X_iconst (v := (-1)) (show decode cX10_measures 98 = .ok (.iconst (-1), 1) by decide +kernel) (by decide) ?_
      refine X_icmp_eq (tgt := 201) (show decode cX10_measures 99 = .ok (.if_icmp .eq 102, 3) by decide +kernel) (by decide) ⟨fun c35 => ?_, fun c35 => ?_⟩
      · have w := w.1 c35
        refine X_iinc (j := 4) (v := _ + (nI 1)) (ls' := [(0, .ref _), (1, .int _), (2, .int _), (3, .int _), (4, .int _), (5, .int _)]) (show decode cX10_measures 201 = .ok (.iinc 4 1, 3) by decide +kernel) rfl rfl (Nat.le_of_ble_eq_true rfl) rfl ?_
        refine X_goto (tgt := 81) (show decode cX10_measures 204 = .ok (.goto (-123), 3) by decide +kernel) (by decide) ?_
        refine X_pick (ls' := [(0, .ref _), (1, .int _), (2, .int _), (3, .int _), (4, .int _)]) [0, 1, 2, 3, 4] rfl ?_
        exact ih _ _ _ _ _ _ w
      · have w := w.2 c35
        refine X_aload_n (j := 0) (show decode cX10_measures 102 = .ok (.aload_n 0, 1) by decide +kernel) rfl rfl ?_
        obtain ⟨s36, w⟩ := w
        refine X_getR fl_X10_31 (show decode cX10_measures 103 = .ok (.getfield 31, 3) by decide +kernel) s36 ?_
        refine X_iload (j := 5) (show decode cX10_measures 106 = .ok (.iload 5, 2) by decide +kernel) rfl ?_
        obtain ⟨s37, w⟩ := w
        obtain ⟨s38, w⟩ := w
        refine X_iald (show decode cX10_measures 108 = .ok (.iaload, 1) by decide +kernel) (isA_eq s37) s38 ?_
        refine X_sipush (v := (nI 9999)) (show decode cX10_measures 109 = .ok (.sipush 9999, 3) by decide +kernel) (by decide) ?_
        refine X_icmp_ne (tgt := 118) (show decode cX10_measures 112 = .ok (.if_icmp .ne 6, 3) by decide +kernel) (by decide) ⟨fun c39 => ?_, fun c39 => ?_⟩
        · have w := w.1 c39
          refine X_aload_n (j := 0) (show decode cX10_measures 118 = .ok (.aload_n 0, 1) by decide +kernel) rfl rfl ?_
          refine X_getR fl_X10_31 (show decode cX10_measures 119 = .ok (.getfield 31, 3) by decide +kernel) s36 ?_
          refine X_iload (j := 5) (show decode cX10_measures 122 = .ok (.iload 5, 2) by decide +kernel) rfl ?_
          refine X_iald (show decode cX10_measures 124 = .ok (.iaload, 1) by decide +kernel) (isA_eq s37) s38 ?_
          refine X_aload_n (j := 0) (show decode cX10_measures 125 = .ok (.aload_n 0, 1) by decide +kernel) rfl rfl ?_
          refine X_iload (j := 5) (show decode cX10_measures 126 = .ok (.iload 5, 2) by decide +kernel) rfl ?_
          refine X_iconst (v := (nI 0)) (show decode cX10_measures 128 = .ok (.iconst 0, 1) by decide +kernel) (by decide) ?_
          refine X_vI (rc' := 0) (rs' := 0) (as := [.int _, .int _]) mv_X10_80 (show decode cX10_measures 129 = .ok (.invokevirtual 80, 3) by decide +kernel) (by decide) (Nat.le_of_ble_eq_true rfl) (Nat.le_of_ble_eq_true rfl) rfl rfl (Nat.le_of_ble_eq_true rfl) (rcvD s36 (by decide) rfl) (kX10_block w) (fun E h hk => hk.elim) (fun r41 h40 w => ?_)
          refine X_iadd (show decode cX10_measures 132 = .ok (.iadd, 1) by decide +kernel) ?_
          refine X_topi (fun v42 e43 => ?_)
          have w := w v42 e43
          refine X_istore (ls' := [(0, .ref _), (1, .int _), (2, .int _), (3, .int _), (4, .int _), (5, .int _), (6, .int _)]) (show decode cX10_measures 133 = .ok (.istore 6, 2) by decide +kernel) (by decide) rfl ?_
          refine X_iload (j := 6) (show decode cX10_measures 135 = .ok (.iload 6, 2) by decide +kernel) rfl ?_
          refine X_aload_n (j := 0) (show decode cX10_measures 137 = .ok (.aload_n 0, 1) by decide +kernel) rfl rfl ?_
          obtain ⟨s44, w⟩ := w
          refine X_getR fl_X10_31 (show decode cX10_measures 138 = .ok (.getfield 31, 3) by decide +kernel) s44 ?_
          refine X_iload_n (j := 3) (show decode cX10_measures 141 = .ok (.iload_n 3, 1) by decide +kernel) rfl rfl ?_
          obtain ⟨s45, w⟩ := w
          obtain ⟨s46, w⟩ := w
          refine X_iald (show decode cX10_measures 142 = .ok (.iaload, 1) by decide +kernel) (isA_eq s45) s46 ?_
          refine X_icmp_gt (tgt := 201) (show decode cX10_measures 143 = .ok (.if_icmp .gt 58, 3) by decide +kernel) (by decide) ⟨fun c47 => ?_, fun c47 => ?_⟩
          · have w := w.1 c47
            refine X_iinc (j := 4) (v := _ + (nI 1)) (ls' := [(0, .ref _), (1, .int _), (2, .int _), (3, .int _), (4, .int _), (5, .int _), (6, .int _)]) (show decode cX10_measures 201 = .ok (.iinc 4 1, 3) by decide +kernel) rfl rfl (Nat.le_of_ble_eq_true rfl) rfl ?_
            refine X_goto (tgt := 81) (show decode cX10_measures 204 = .ok (.goto (-123), 3) by decide +kernel) (by decide) ?_
            refine X_pick (ls' := [(0, .ref _), (1, .int _), (2, .int _), (3, .int _), (4, .int _)]) [0, 1, 2, 3, 4] rfl ?_
            exact ih _ _ _ _ _ _ w
          · have w := w.2 c47
            refine X_iload (j := 6) (show decode cX10_measures 146 = .ok (.iload 6, 2) by decide +kernel) rfl ?_
            refine X_aload_n (j := 0) (show decode cX10_measures 148 = .ok (.aload_n 0, 1) by decide +kernel) rfl rfl ?_
            refine X_getR fl_X10_31 (show decode cX10_measures 149 = .ok (.getfield 31, 3) by decide +kernel) s44 ?_
            refine X_iload_n (j := 3) (show decode cX10_measures 152 = .ok (.iload_n 3, 1) by decide +kernel) rfl rfl ?_
            refine X_iald (show decode cX10_measures 153 = .ok (.iaload, 1) by decide +kernel) (isA_eq s45) s46 ?_
            refine X_icmp_ne (tgt := 178) (show decode cX10_measures 154 = .ok (.if_icmp .ne 24, 3) by decide +kernel) (by decide) ⟨fun c48 => ?_, fun c48 => ?_⟩
            · have w := w.1 c48
              exact kX10_measures_J178 ih _ _ _ _ _ _ _ _ w
            · have w := w.2 c48
              refine X_aload_n (j := 0) (show decode cX10_measures 157 = .ok (.aload_n 0, 1) by decide +kernel) rfl rfl ?_
              refine X_getR fl_X10_34 (show decode cX10_measures 158 = .ok (.getfield 34, 3) by decide +kernel) s44 ?_
              refine X_iload (j := 5) (show decode cX10_measures 161 = .ok (.iload 5, 2) by decide +kernel) rfl ?_
              obtain ⟨s59, w⟩ := w
              obtain ⟨s60, w⟩ := w
              refine X_iald (show decode cX10_measures 163 = .ok (.iaload, 1) by decide +kernel) (isA_eq s59) s60 ?_
              refine X_iconst (v := (nI 1)) (show decode cX10_measures 164 = .ok (.iconst 1, 1) by decide +kernel) (by decide) ?_
              refine X_iadd (show decode cX10_measures 165 = .ok (.iadd, 1) by decide +kernel) ?_
              refine X_aload_n (j := 0) (show decode cX10_measures 166 = .ok (.aload_n 0, 1) by decide +kernel) rfl rfl ?_
              refine X_getR fl_X10_34 (show decode cX10_measures 167 = .ok (.getfield 34, 3) by decide +kernel) s44 ?_
              refine X_iload_n (j := 3) (show decode cX10_measures 170 = .ok (.iload_n 3, 1) by decide +kernel) rfl rfl ?_
              obtain ⟨s61, w⟩ := w
              refine X_iald (show decode cX10_measures 171 = .ok (.iaload, 1) by decide +kernel) (isA_eq s59) s61 ?_
              refine X_icmp_lt (tgt := 178) (show decode cX10_measures 172 = .ok (.if_icmp .lt 6, 3) by decide +kernel) (by decide) ⟨fun c62 => ?_, fun c62 => ?_⟩
              · have w := w.1 c62
                exact kX10_measures_J178 ih _ _ _ _ _ _ _ _ w
              · have w := w.2 c62
                refine X_goto (tgt := 201) (show decode cX10_measures 175 = .ok (.goto 26, 3) by decide +kernel) (by decide) ?_
                refine X_iinc (j := 4) (v := _ + (nI 1)) (ls' := [(0, .ref _), (1, .int _), (2, .int _), (3, .int _), (4, .int _), (5, .int _), (6, .int _)]) (show decode cX10_measures 201 = .ok (.iinc 4 1, 3) by decide +kernel) rfl rfl (Nat.le_of_ble_eq_true rfl) rfl ?_
                refine X_goto (tgt := 81) (show decode cX10_measures 204 = .ok (.goto (-123), 3) by decide +kernel) (by decide) ?_
                refine X_pick (ls' := [(0, .ref _), (1, .int _), (2, .int _), (3, .int _), (4, .int _)]) [0, 1, 2, 3, 4] rfl ?_
                exact ih _ _ _ _ _ _ w
        · have w := w.2 c39
          refine X_goto (tgt := 201) (show decode cX10_measures 115 = .ok (.goto 86, 3) by decide +kernel) (by decide) ?_
          refine X_iinc (j := 4) (v := _ + (nI 1)) (ls' := [(0, .ref _), (1, .int _), (2, .int _), (3, .int _), (4, .int _), (5, .int _)]) (show decode cX10_measures 201 = .ok (.iinc 4 1, 3) by decide +kernel) rfl rfl (Nat.le_of_ble_eq_true rfl) rfl ?_
          refine X_goto (tgt := 81) (show decode cX10_measures 204 = .ok (.goto (-123), 3) by decide +kernel) (by decide) ?_
          refine X_pick (ls' := [(0, .ref _), (1, .int _), (2, .int _), (3, .int _), (4, .int _)]) [0, 1, 2, 3, 4] rfl ?_
          exact ih _ _ _ _ _ _ w
set_option maxRecDepth 100000 in
set_option maxHeartbeats 4000000 in
theorem kX10_measures_L60 {K : AH → Prop} {c213 : Nat → Int32 → Int32 → AH → Prop} (hc213 : ∀ x0 x1 x2 h, c213 x0 x1 x2 h → X mX10_measures 3 (KV K) T0 0 0 213 [(0, .ref x0), (1, .int x1), (2, .int x2)] [] h)  : ∀ (n : Nat) (x0 : Nat) (x1 : Int32) (x2 : Int32) (x3 : Int32) (h : AH), wX10_measures_L60 K c213  n x0 x1 x2 x3 h → X mX10_measures 3 (KV K) T0 0 0 60 [(0, .ref x0), (1, .int x1), (2, .int x2), (3, .int x3)] [] h := by
  intro n
  induction n with
  | zero => intro _ _ _ _ _ w; exact w.elim
  | succ n ih =>
    intro x0 x1 x2 x3 h w
    rw [wX10_measures_L60] at w
    refine X_iload_n (j := 3) (show decode cX10_measures 60 = .ok (.iload_n 3, 1) by decide +kernel) rfl rfl ?_
    refine X_aload_n (j := 0) (show decode cX10_measures 61 = .ok (.aload_n 0, 1) by decide +kernel) rfl rfl ?_
    obtain ⟨s27, w⟩ := w
    refine X_getR fl_X10_7 (show decode cX10_measures 62 = .ok (.getfield 7, 3) by decide +kernel) s27 ?_
    refine X_iconst (v := (nI 0)) (show decode cX10_measures 65 = .ok (.iconst 0, 1) by decide +kernel) (by decide) ?_
    obtain ⟨s28, w⟩ := w
    obtain ⟨s29, w⟩ := w
    refine X_iald (show decode cX10_measures 66 = .ok (.iaload, 1) by decide +kernel) (isA_eq s28) s29 ?_
    refine X_icmp_ge (tgt := 213) (show decode cX10_measures 67 = .ok (.if_icmp .ge 146, 3) by decide +kernel) (by decide) ⟨fun c30 => ?_, fun c30 => ?_⟩
    · have w := w.1 c30
      refine X_pick (ls' := [(0, .ref _), (1, .int _), (2, .int _)]) [0, 1, 2] rfl ?_
      exact hc213 _ _ _ _ w
    · have w := w.2 c30
      refine X_iload_n (j := 3) (show decode cX10_measures 70 = .ok (.iload_n 3, 1) by decide +kernel) rfl rfl ?_
      refine X_iload_n (j := 1) (show decode cX10_measures 71 = .ok (.iload_n 1, 1) by decide +kernel) rfl rfl ?_
      refine X_icmp_ne (tgt := 78) (show decode cX10_measures 72 = .ok (.if_icmp .ne 6, 3) by decide +kernel) (by decide) ⟨fun c31 => ?_, fun c31 => ?_⟩
      · have w := w.1 c31
        refine X_iconst (v := (nI 0)) (show decode cX10_measures 78 = .ok (.iconst 0, 1) by decide +kernel) (by decide) ?_
        refine X_istore (ls' := [(0, .ref _), (1, .int _), (2, .int _), (3, .int _), (4, .int _)]) (show decode cX10_measures 79 = .ok (.istore 4, 2) by decide +kernel) (by decide) rfl ?_
        obtain ⟨n69, w⟩ := w
        refine kX10_measures_L81 ?_ n69 _ _ _ _ _ _ w
        · intro x0_64 x1_65 x2_66 x3_67 h68 w
          refine X_iinc (j := 3) (v := _ + (nI 1)) (ls' := [(0, .ref _), (1, .int _), (2, .int _), (3, .int _)]) (show decode cX10_measures 207 = .ok (.iinc 3 1, 3) by decide +kernel) rfl rfl (Nat.le_of_ble_eq_true rfl) rfl ?_
          refine X_goto (tgt := 60) (show decode cX10_measures 210 = .ok (.goto (-150), 3) by decide +kernel) (by decide) ?_
          exact ih _ _ _ _ _ w
      · have w := w.2 c31
        refine X_goto (tgt := 207) (show decode cX10_measures 75 = .ok (.goto 132, 3) by decide +kernel) (by decide) ?_
        refine X_iinc (j := 3) (v := _ + (nI 1)) (ls' := [(0, .ref _), (1, .int _), (2, .int _), (3, .int _)]) (show decode cX10_measures 207 = .ok (.iinc 3 1, 3) by decide +kernel) rfl rfl (Nat.le_of_ble_eq_true rfl) rfl ?_
        refine X_goto (tgt := 60) (show decode cX10_measures 210 = .ok (.goto (-150), 3) by decide +kernel) (by decide) ?_
        exact ih _ _ _ _ _ w
set_option maxRecDepth 100000 in
set_option maxHeartbeats 4000000 in
theorem kX10_measures_L48 {K : AH → Prop}    : ∀ (n : Nat) (x0 : Nat) (x1 : Int32) (x2 : Int32) (h : AH), wX10_measures_L48 K   n x0 x1 x2 h → X mX10_measures 3 (KV K) T0 0 0 48 [(0, .ref x0), (1, .int x1), (2, .int x2)] [] h := by
  intro n
  induction n with
  | zero => intro _ _ _ _ w; exact w.elim
  | succ n ih =>
    intro x0 x1 x2 h w
    rw [wX10_measures_L48] at w
    refine X_iload_n (j := 2) (show decode cX10_measures 48 = .ok (.iload_n 2, 1) by decide +kernel) rfl rfl ?_
    refine X_aload_n (j := 0) (show decode cX10_measures 49 = .ok (.aload_n 0, 1) by decide +kernel) rfl rfl ?_
    obtain ⟨s23, w⟩ := w
    refine X_getR fl_X10_7 (show decode cX10_measures 50 = .ok (.getfield 7, 3) by decide +kernel) s23 ?_
    refine X_iconst (v := (nI 0)) (show decode cX10_measures 53 = .ok (.iconst 0, 1) by decide +kernel) (by decide) ?_
    obtain ⟨s24, w⟩ := w
    obtain ⟨s25, w⟩ := w
    refine X_iald (show decode cX10_measures 54 = .ok (.iaload, 1) by decide +kernel) (isA_eq s24) s25 ?_
    refine X_icmp_ge (tgt := 219) (show decode cX10_measures 55 = .ok (.if_icmp .ge 164, 3) by decide +kernel) (by decide) ⟨fun c26 => ?_, fun c26 => ?_⟩
    · have w := w.1 c26
      exact X_vret ⟨(show decode cX10_measures 219 = .ok (.return_, 1) by decide +kernel), rfl⟩ ⟨rfl, w⟩
    · have w := w.2 c26
      refine X_iconst (v := (nI 0)) (show decode cX10_measures 58 = .ok (.iconst 0, 1) by decide +kernel) (by decide) ?_
      refine X_istore_n (ls' := [(0, .ref _), (1, .int _), (2, .int _), (3, .int _)]) (show decode cX10_measures 59 = .ok (.istore_n 3, 1) by decide +kernel) rfl (by decide) rfl ?_
      obtain ⟨n74, w⟩ := w
      refine kX10_measures_L60 ?_ n74 _ _ _ _ _ w
      · intro x0_70 x1_71 x2_72 h73 w
        refine X_iinc (j := 2) (v := _ + (nI 1)) (ls' := [(0, .ref _), (1, .int _), (2, .int _)]) (show decode cX10_measures 213 = .ok (.iinc 2 1, 3) by decide +kernel) rfl rfl (Nat.le_of_ble_eq_true rfl) rfl ?_
        refine X_goto (tgt := 48) (show decode cX10_measures 216 = .ok (.goto (-168), 3) by decide +kernel) (by decide) ?_
        exact ih _ _ _ _ w
set_option maxRecDepth 100000 in
set_option maxHeartbeats 4000000 in
theorem kX10_measures {a0 : Nat} {a1 : Int32} {h : AH} {K : AH → Prop} (w : wX10_measures a0 a1 h K) : Cn mX10_measures (cwd mX10_measures) 3 0 0 [.ref a0, .int a1] h (KV K) T0 := by
  refine Cn_of (by decide +kernel) rfl (Nat.le_of_ble_eq_true rfl) ?_
  show X mX10_measures 3 (KV K) T0 0 0 0 [(0, .ref a0), (1, .int a1)] [] h
  unfold wX10_measures at w
  refine X_iconst (v := (nI 0)) (show decode cX10_measures 0 = .ok (.iconst 0, 1) by decide +kernel) (by decide) ?_
  refine X_istore_n (ls' := [(0, .ref _), (1, .int _), (2, .int _)]) (show decode cX10_measures 1 = .ok (.istore_n 2, 1) by decide +kernel) rfl (by decide) rfl ?_
  obtain ⟨n76, w⟩ := w
  refine kX10_measures_L2 ?_ n76 _ _ _ _ w
  · intro x0_11 x1_12 h13 w
    refine X_aload_n (j := 0) (show decode cX10_measures 32 = .ok (.aload_n 0, 1) by decide +kernel) rfl rfl ?_
    obtain ⟨s14, w⟩ := w
    refine X_getR fl_X10_31 (show decode cX10_measures 33 = .ok (.getfield 31, 3) by decide +kernel) s14 ?_
    refine X_iload_n (j := 1) (show decode cX10_measures 36 = .ok (.iload_n 1, 1) by decide +kernel) rfl rfl ?_
    refine X_iconst (v := (nI 0)) (show decode cX10_measures 37 = .ok (.iconst 0, 1) by decide +kernel) (by decide) ?_
    obtain ⟨s15, w⟩ := w
    obtain ⟨s16, w⟩ := w
    obtain ⟨s17, w⟩ := w
    refine X_iast (show decode cX10_measures 38 = .ok (.iastore, 1) by decide +kernel) (isA_eq s15) s16 s17 ?_
    have w := w _ rfl
    refine X_aload_n (j := 0) (show decode cX10_measures 39 = .ok (.aload_n 0, 1) by decide +kernel) rfl rfl ?_
    refine X_getR fl_X10_34 (show decode cX10_measures 40 = .ok (.getfield 34, 3) by decide +kernel) s14 ?_
    refine X_iload_n (j := 1) (show decode cX10_measures 43 = .ok (.iload_n 1, 1) by decide +kernel) rfl rfl ?_
    refine X_iconst (v := (nI 0)) (show decode cX10_measures 44 = .ok (.iconst 0, 1) by decide +kernel) (by decide) ?_
    obtain ⟨s19, w⟩ := w
    obtain ⟨s20, w⟩ := w
    obtain ⟨s21, w⟩ := w
    refine X_iast (show decode cX10_measures 45 = .ok (.iastore, 1) by decide +kernel) (isA_eq s19) s20 s21 ?_
    have w := w _ rfl
    refine X_iconst (v := (nI 0)) (show decode cX10_measures 46 = .ok (.iconst 0, 1) by decide +kernel) (by decide) ?_
    refine X_istore_n (ls' := [(0, .ref _), (1, .int _), (2, .int _)]) (show decode cX10_measures 47 = .ok (.istore_n 2, 1) by decide +kernel) rfl (by decide) rfl ?_
    obtain ⟨n75, w⟩ := w
    exact kX10_measures_L48  n75 _ _ _ _ w
set_option maxRecDepth 100000 in
set_option maxHeartbeats 4000000 in
theorem kX10_leads_L49 {K : Int32 → AH → Prop} {c156 : Nat → Int32 → Int32 → Int32 → AH → Prop} (hc156 : ∀ x0 x1 x2 x4 h, c156 x0 x1 x2 x4 h → X mX10_leads 4 (KI K) T0 0 0 156 [(0, .ref x0), (1, .int x1), (2, .int x2), (4, .int x4)] [] h)  : ∀ (n : Nat) (x0 : Nat) (x1 : Int32) (x2 : Int32) (x3 : Int32) (x4 : Int32) (x5 : Int32) (h : AH), wX10_leads_L49 K c156  n x0 x1 x2 x3 x4 x5 h → X mX10_leads 4 (KI K) T0 0 0 49 [(0, .ref x0), (1, .int x1), (2, .int x2), (3, .int x3), (4, .int x4), (5, .int x5)] [] h := by
  intro n
  induction n with
  | zero => intro _ _ _ _ _ _ _ w; exact w.elim
  | succ n ih =>
    intro x0 x1 x2 x3 x4 x5 h w
    rw [wX10_leads_L49] at w
    refine X_iload (j := 5) (show decode cX10_leads 49 = .ok (.iload 5, 2) by decide +kernel) rfl ?_
    refine X_iconst (v := (nI 2)) (show decode cX10_leads 51 = .ok (.iconst 2, 1) by decide +kernel) (by decide) ?_
    refine X_icmp_ge (tgt := 156) (show decode cX10_leads 52 = .ok (.if_icmp .ge 104, 3) by decide +kernel) (by decide) ⟨fun c17 => ?_, fun c17 => ?_⟩
    · have w := w.1 c17
      refine X_pick (ls' := [(0, .ref _), (1, .int _), (2, .int _), (4, .int _)]) [0, 1, 2, 4] rfl ?_
      exact hc156 _ _ _ _ _ w
    · have w := w.2 c17
      refine X_aload_n (j := 0) (show decode cX10_leads 55 = .ok (.aload_n 0, 1) by decide +kernel) rfl rfl ?_
      refine X_iload_n (j := 3) (show decode cX10_leads 56 = .ok (.iload_n 3, 1) by decide +kernel) rfl rfl ?_
      refine X_iload (j := 5) (show decode cX10_leads 57 = .ok (.iload 5, 2) by decide +kernel) rfl ?_
      obtain ⟨s37, w⟩ := w
      refine X_vI (rc' := 0) (rs' := 0) (as := [.int _, .int _]) mv_X10_86 (show decode cX10_leads 59 = .ok (.invokevirtual 86, 3) by decide +kernel) (by decide) (Nat.le_of_ble_eq_true rfl) (Nat.le_of_ble_eq_true rfl) rfl rfl (Nat.le_of_ble_eq_true rfl) (rcvD s37 (by decide) rfl) (kX10_exit w) (fun E h hk => hk.elim) (fun r19 h18 w => ?_)
      refine X_istore (ls' := [(0, .ref _), (1, .int _), (2, .int _), (3, .int _), (4, .int _), (5, .int _), (6, .int _)]) (show decode cX10_leads 62 = .ok (.istore 6, 2) by decide +kernel) (by decide) rfl ?_
      refine X_iload (j := 6) (show decode cX10_leads 64 = .ok (.iload 6, 2) by decide +kernel) rfl ?_
      refine X_iconst (v := (-1)) (show decode cX10_leads 66 = .ok (.iconst (-1), 1) by decide +kernel) (by decide) ?_
      refine X_icmp_eq (tgt := 150) (show decode cX10_leads 67 = .ok (.if_icmp .eq 83, 3) by decide +kernel) (by decide) ⟨fun c20 => ?_, fun c20 => ?_⟩
      · have w := w.1 c20
        refine X_iinc (j := 5) (v := _ + (nI 1)) (ls' := [(0, .ref _), (1, .int _), (2, .int _), (3, .int _), (4, .int _), (5, .int _), (6, .int _)]) (show decode cX10_leads 150 = .ok (.iinc 5 1, 3) by decide +kernel) rfl rfl (Nat.le_of_ble_eq_true rfl) rfl ?_
        refine X_goto (tgt := 49) (show decode cX10_leads 153 = .ok (.goto (-104), 3) by decide +kernel) (by decide) ?_
        refine X_pick (ls' := [(0, .ref _), (1, .int _), (2, .int _), (3, .int _), (4, .int _), (5, .int _)]) [0, 1, 2, 3, 4, 5] rfl ?_
        exact ih _ _ _ _ _ _ _ w
      · have w := w.2 c20
        refine X_aload_n (j := 0) (show decode cX10_leads 70 = .ok (.aload_n 0, 1) by decide +kernel) rfl rfl ?_
        obtain ⟨s21, w⟩ := w
        refine X_getR fl_X10_31 (show decode cX10_leads 71 = .ok (.getfield 31, 3) by decide +kernel) s21 ?_
        refine X_iload (j := 6) (show decode cX10_leads 74 = .ok (.iload 6, 2) by decide +kernel) rfl ?_
        obtain ⟨s22, w⟩ := w
        obtain ⟨s23, w⟩ := w
        refine X_iald (show decode cX10_leads 76 = .ok (.iaload, 1) by decide +kernel) (isA_eq s22) s23 ?_
        refine X_sipush (v := (nI 9999)) (show decode cX10_leads 77 = .ok (.sipush 9999, 3) by decide +kernel) (by decide) ?_
        refine X_icmp_eq (tgt := 150) (show decode cX10_leads 80 = .ok (.if_icmp .eq 70, 3) by decide +kernel) (by decide) ⟨fun c24 => ?_, fun c24 => ?_⟩
        · have w := w.1 c24
          refine X_iinc (j := 5) (v := _ + (nI 1)) (ls' := [(0, .ref _), (1, .int _), (2, .int _), (3, .int _), (4, .int _), (5, .int _), (6, .int _)]) (show decode cX10_leads 150 = .ok (.iinc 5 1, 3) by decide +kernel) rfl rfl (Nat.le_of_ble_eq_true rfl) rfl ?_
          refine X_goto (tgt := 49) (show decode cX10_leads 153 = .ok (.goto (-104), 3) by decide +kernel) (by decide) ?_
          refine X_pick (ls' := [(0, .ref _), (1, .int _), (2, .int _), (3, .int _), (4, .int _), (5, .int _)]) [0, 1, 2, 3, 4, 5] rfl ?_
          exact ih _ _ _ _ _ _ _ w
        · have w := w.2 c24
          refine X_aload_n (j := 0) (show decode cX10_leads 83 = .ok (.aload_n 0, 1) by decide +kernel) rfl rfl ?_
          refine X_getR fl_X10_31 (show decode cX10_leads 84 = .ok (.getfield 31, 3) by decide +kernel) s21 ?_
          refine X_iload (j := 6) (show decode cX10_leads 87 = .ok (.iload 6, 2) by decide +kernel) rfl ?_
          refine X_iald (show decode cX10_leads 89 = .ok (.iaload, 1) by decide +kernel) (isA_eq s22) s23 ?_
          refine X_aload_n (j := 0) (show decode cX10_leads 90 = .ok (.aload_n 0, 1) by decide +kernel) rfl rfl ?_
          refine X_iload (j := 6) (show decode cX10_leads 91 = .ok (.iload 6, 2) by decide +kernel) rfl ?_
          refine X_iconst (v := (nI 0)) (show decode cX10_leads 93 = .ok (.iconst 0, 1) by decide +kernel) (by decide) ?_
          refine X_vI (rc' := 0) (rs' := 0) (as := [.int _, .int _]) mv_X10_80 (show decode cX10_leads 94 = .ok (.invokevirtual 80, 3) by decide +kernel) (by decide) (Nat.le_of_ble_eq_true rfl) (Nat.le_of_ble_eq_true rfl) rfl rfl (Nat.le_of_ble_eq_true rfl) (rcvD s21 (by decide) rfl) (kX10_block w) (fun E h hk => hk.elim) (fun r26 h25 w => ?_)
          refine X_iadd (show decode cX10_leads 97 = .ok (.iadd, 1) by decide +kernel) ?_
          refine X_aload_n (j := 0) (show decode cX10_leads 98 = .ok (.aload_n 0, 1) by decide +kernel) rfl rfl ?_
          obtain ⟨s27, w⟩ := w
          refine X_getR fl_X10_31 (show decode cX10_leads 99 = .ok (.getfield 31, 3) by decide +kernel) s27 ?_
          refine X_iload_n (j := 3) (show decode cX10_leads 102 = .ok (.iload_n 3, 1) by decide +kernel) rfl rfl ?_
          obtain ⟨s28, w⟩ := w
          obtain ⟨s29, w⟩ := w
          refine X_iald (show decode cX10_leads 103 = .ok (.iaload, 1) by decide +kernel) (isA_eq s28) s29 ?_
          refine X_icmp_ne (tgt := 150) (show decode cX10_leads 104 = .ok (.if_icmp .ne 46, 3) by decide +kernel) (by decide) ⟨fun c30 => ?_, fun c30 => ?_⟩
          · have w := w.1 c30
            refine X_iinc (j := 5) (v := _ + (nI 1)) (ls' := [(0, .ref _), (1, .int _), (2, .int _), (3, .int _), (4, .int _), (5, .int _), (6, .int _)]) (show decode cX10_leads 150 = .ok (.iinc 5 1, 3) by decide +kernel) rfl rfl (Nat.le_of_ble_eq_true rfl) rfl ?_
            refine X_goto (tgt := 49) (show decode cX10_leads 153 = .ok (.goto (-104), 3) by decide +kernel) (by decide) ?_
            refine X_pick (ls' := [(0, .ref _), (1, .int _), (2, .int _), (3, .int _), (4, .int _), (5, .int _)]) [0, 1, 2, 3, 4, 5] rfl ?_
            exact ih _ _ _ _ _ _ _ w
          · have w := w.2 c30
            refine X_aload_n (j := 0) (show decode cX10_leads 107 = .ok (.aload_n 0, 1) by decide +kernel) rfl rfl ?_
            refine X_getR fl_X10_34 (show decode cX10_leads 108 = .ok (.getfield 34, 3) by decide +kernel) s27 ?_
            refine X_iload (j := 6) (show decode cX10_leads 111 = .ok (.iload 6, 2) by decide +kernel) rfl ?_
            obtain ⟨s31, w⟩ := w
            obtain ⟨s32, w⟩ := w
            refine X_iald (show decode cX10_leads 113 = .ok (.iaload, 1) by decide +kernel) (isA_eq s31) s32 ?_
            refine X_iconst (v := (nI 1)) (show decode cX10_leads 114 = .ok (.iconst 1, 1) by decide +kernel) (by decide) ?_
            refine X_iadd (show decode cX10_leads 115 = .ok (.iadd, 1) by decide +kernel) ?_
            refine X_aload_n (j := 0) (show decode cX10_leads 116 = .ok (.aload_n 0, 1) by decide +kernel) rfl rfl ?_
            refine X_getR fl_X10_34 (show decode cX10_leads 117 = .ok (.getfield 34, 3) by decide +kernel) s27 ?_
            refine X_iload_n (j := 3) (show decode cX10_leads 120 = .ok (.iload_n 3, 1) by decide +kernel) rfl rfl ?_
            obtain ⟨s33, w⟩ := w
            refine X_iald (show decode cX10_leads 121 = .ok (.iaload, 1) by decide +kernel) (isA_eq s31) s33 ?_
            refine X_icmp_eq (tgt := 128) (show decode cX10_leads 122 = .ok (.if_icmp .eq 6, 3) by decide +kernel) (by decide) ⟨fun c34 => ?_, fun c34 => ?_⟩
            · have w := w.1 c34
              refine X_iload (j := 4) (show decode cX10_leads 128 = .ok (.iload 4, 2) by decide +kernel) rfl ?_
              refine X_iconst (v := (-1)) (show decode cX10_leads 130 = .ok (.iconst (-1), 1) by decide +kernel) (by decide) ?_
              refine X_icmp_eq (tgt := 141) (show decode cX10_leads 131 = .ok (.if_icmp .eq 10, 3) by decide +kernel) (by decide) ⟨fun c35 => ?_, fun c35 => ?_⟩
              · have w := w.1 c35
                refine X_iload (j := 6) (show decode cX10_leads 141 = .ok (.iload 6, 2) by decide +kernel) rfl ?_
                refine X_goto (tgt := 148) (show decode cX10_leads 143 = .ok (.goto 5, 3) by decide +kernel) (by decide) ?_
                refine X_istore (ls' := [(0, .ref _), (1, .int _), (2, .int _), (3, .int _), (4, .int _), (5, .int _), (6, .int _)]) (show decode cX10_leads 148 = .ok (.istore 4, 2) by decide +kernel) (by decide) rfl ?_
                refine X_iinc (j := 5) (v := _ + (nI 1)) (ls' := [(0, .ref _), (1, .int _), (2, .int _), (3, .int _), (4, .int _), (5, .int _), (6, .int _)]) (show decode cX10_leads 150 = .ok (.iinc 5 1, 3) by decide +kernel) rfl rfl (Nat.le_of_ble_eq_true rfl) rfl ?_
                refine X_goto (tgt := 49) (show decode cX10_leads 153 = .ok (.goto (-104), 3) by decide +kernel) (by decide) ?_
                refine X_pick (ls' := [(0, .ref _), (1, .int _), (2, .int _), (3, .int _), (4, .int _), (5, .int _)]) [0, 1, 2, 3, 4, 5] rfl ?_
                exact ih _ _ _ _ _ _ _ w
              · have w := w.2 c35
                refine X_iload (j := 6) (show decode cX10_leads 134 = .ok (.iload 6, 2) by decide +kernel) rfl ?_
                refine X_iload (j := 4) (show decode cX10_leads 136 = .ok (.iload 4, 2) by decide +kernel) rfl ?_
                refine X_icmp_ge (tgt := 146) (show decode cX10_leads 138 = .ok (.if_icmp .ge 8, 3) by decide +kernel) (by decide) ⟨fun c36 => ?_, fun c36 => ?_⟩
                · have w := w.1 c36
                  refine X_iload (j := 4) (show decode cX10_leads 146 = .ok (.iload 4, 2) by decide +kernel) rfl ?_
                  refine X_istore (ls' := [(0, .ref _), (1, .int _), (2, .int _), (3, .int _), (4, .int _), (5, .int _), (6, .int _)]) (show decode cX10_leads 148 = .ok (.istore 4, 2) by decide +kernel) (by decide) rfl ?_
                  refine X_iinc (j := 5) (v := _ + (nI 1)) (ls' := [(0, .ref _), (1, .int _), (2, .int _), (3, .int _), (4, .int _), (5, .int _), (6, .int _)]) (show decode cX10_leads 150 = .ok (.iinc 5 1, 3) by decide +kernel) rfl rfl (Nat.le_of_ble_eq_true rfl) rfl ?_
                  refine X_goto (tgt := 49) (show decode cX10_leads 153 = .ok (.goto (-104), 3) by decide +kernel) (by decide) ?_
                  refine X_pick (ls' := [(0, .ref _), (1, .int _), (2, .int _), (3, .int _), (4, .int _), (5, .int _)]) [0, 1, 2, 3, 4, 5] rfl ?_
                  exact ih _ _ _ _ _ _ _ w
                · have w := w.2 c36
                  refine X_iload (j := 6) (show decode cX10_leads 141 = .ok (.iload 6, 2) by decide +kernel) rfl ?_
                  refine X_goto (tgt := 148) (show decode cX10_leads 143 = .ok (.goto 5, 3) by decide +kernel) (by decide) ?_
                  refine X_istore (ls' := [(0, .ref _), (1, .int _), (2, .int _), (3, .int _), (4, .int _), (5, .int _), (6, .int _)]) (show decode cX10_leads 148 = .ok (.istore 4, 2) by decide +kernel) (by decide) rfl ?_
                  refine X_iinc (j := 5) (v := _ + (nI 1)) (ls' := [(0, .ref _), (1, .int _), (2, .int _), (3, .int _), (4, .int _), (5, .int _), (6, .int _)]) (show decode cX10_leads 150 = .ok (.iinc 5 1, 3) by decide +kernel) rfl rfl (Nat.le_of_ble_eq_true rfl) rfl ?_
                  refine X_goto (tgt := 49) (show decode cX10_leads 153 = .ok (.goto (-104), 3) by decide +kernel) (by decide) ?_
                  refine X_pick (ls' := [(0, .ref _), (1, .int _), (2, .int _), (3, .int _), (4, .int _), (5, .int _)]) [0, 1, 2, 3, 4, 5] rfl ?_
                  exact ih _ _ _ _ _ _ _ w
            · have w := w.2 c34
              refine X_goto (tgt := 150) (show decode cX10_leads 125 = .ok (.goto 25, 3) by decide +kernel) (by decide) ?_
              refine X_iinc (j := 5) (v := _ + (nI 1)) (ls' := [(0, .ref _), (1, .int _), (2, .int _), (3, .int _), (4, .int _), (5, .int _), (6, .int _)]) (show decode cX10_leads 150 = .ok (.iinc 5 1, 3) by decide +kernel) rfl rfl (Nat.le_of_ble_eq_true rfl) rfl ?_
              refine X_goto (tgt := 49) (show decode cX10_leads 153 = .ok (.goto (-104), 3) by decide +kernel) (by decide) ?_
              refine X_pick (ls' := [(0, .ref _), (1, .int _), (2, .int _), (3, .int _), (4, .int _), (5, .int _)]) [0, 1, 2, 3, 4, 5] rfl ?_
              exact ih _ _ _ _ _ _ _ w
set_option maxRecDepth 100000 in
set_option maxHeartbeats 4000000 in
theorem kX10_leads_L38 {K : Int32 → AH → Prop}    : ∀ (n : Nat) (x0 : Nat) (x1 : Int32) (x2 : Int32) (x3 : Int32) (h : AH), wX10_leads_L38 K   n x0 x1 x2 x3 h → X mX10_leads 4 (KI K) T0 0 0 38 [(0, .ref x0), (1, .int x1), (2, .int x2), (3, .int x3)] [] h := by
  intro n
  induction n with
  | zero => intro _ _ _ _ _ w; exact w.elim
  | succ n ih =>
    intro x0 x1 x2 x3 h w
    rw [wX10_leads_L38] at w
    refine X_iload_n (j := 3) (show decode cX10_leads 38 = .ok (.iload_n 3, 1) by decide +kernel) rfl rfl ?_
    refine X_iload_n (j := 2) (show decode cX10_leads 39 = .ok (.iload_n 2, 1) by decide +kernel) rfl rfl ?_
    refine X_icmp_eq (tgt := 182) (show decode cX10_leads 40 = .ok (.if_icmp .eq 142, 3) by decide +kernel) (by decide) ⟨fun c13 => ?_, fun c13 => ?_⟩
    · have w := w.1 c13
      refine X_aload_n (j := 0) (show decode cX10_leads 182 = .ok (.aload_n 0, 1) by decide +kernel) rfl rfl ?_
      obtain ⟨s14, w⟩ := w
      refine X_getR fl_X10_31 (show decode cX10_leads 183 = .ok (.getfield 31, 3) by decide +kernel) s14 ?_
      refine X_iload_n (j := 1) (show decode cX10_leads 186 = .ok (.iload_n 1, 1) by decide +kernel) rfl rfl ?_
      obtain ⟨s15, w⟩ := w
      obtain ⟨s16, w⟩ := w
      refine X_iald (show decode cX10_leads 187 = .ok (.iaload, 1) by decide +kernel) (isA_eq s15) s16 ?_
      exact X_iret ⟨(show decode cX10_leads 188 = .ok (.ireturn, 1) by decide +kernel), .int, rfl, rfl⟩ ⟨_, rfl, w⟩
    · have w := w.2 c13
      refine X_iconst (v := (-1)) (show decode cX10_leads 43 = .ok (.iconst (-1), 1) by decide +kernel) (by decide) ?_
      refine X_istore (ls' := [(0, .ref _), (1, .int _), (2, .int _), (3, .int _), (4, .int _)]) (show decode cX10_leads 44 = .ok (.istore 4, 2) by decide +kernel) (by decide) rfl ?_
      refine X_iconst (v := (nI 0)) (show decode cX10_leads 46 = .ok (.iconst 0, 1) by decide +kernel) (by decide) ?_
      refine X_istore (ls' := [(0, .ref _), (1, .int _), (2, .int _), (3, .int _), (4, .int _), (5, .int _)]) (show decode cX10_leads 47 = .ok (.istore 5, 2) by decide +kernel) (by decide) rfl ?_
      obtain ⟨n49, w⟩ := w
      refine kX10_leads_L49 ?_ n49 _ _ _ _ _ _ _ w
      · intro x0_38 x1_39 x2_40 x4_41 h42 w
        refine X_iload (j := 3) (show decode cX10_leads 156 = .ok (.iload 4, 2) by decide +kernel) rfl ?_
        refine X_istore_n (ls' := [(0, .ref _), (1, .int _), (2, .int _), (3, .int _), (4, .int _)]) (show decode cX10_leads 158 = .ok (.istore_n 3, 1) by decide +kernel) rfl (by decide) rfl ?_
        refine X_aload_n (j := 0) (show decode cX10_leads 159 = .ok (.aload_n 0, 1) by decide +kernel) rfl rfl ?_
        obtain ⟨s43, w⟩ := w
        refine X_getR fl_X10_37 (show decode cX10_leads 160 = .ok (.getfield 37, 3) by decide +kernel) s43 ?_
        refine X_aload_n (j := 0) (show decode cX10_leads 163 = .ok (.aload_n 0, 1) by decide +kernel) rfl rfl ?_
        refine X_getI fl_X10_93 (show decode cX10_leads 164 = .ok (.getfield 93, 3) by decide +kernel) s43 ?_
        refine X_iload_n (j := 3) (show decode cX10_leads 167 = .ok (.iload_n 3, 1) by decide +kernel) rfl rfl ?_
        obtain ⟨s44, w⟩ := w
        obtain ⟨s45, w⟩ := w
        obtain ⟨s46, w⟩ := w
        refine X_iast (show decode cX10_leads 168 = .ok (.iastore, 1) by decide +kernel) (isA_eq s44) s45 s46 ?_
        have w := w _ rfl
        refine X_aload_n (j := 0) (show decode cX10_leads 169 = .ok (.aload_n 0, 1) by decide +kernel) rfl rfl ?_
        refine X_dup (show decode cX10_leads 170 = .ok (.dup, 1) by decide +kernel) rfl ?_
        refine X_getI fl_X10_93 (show decode cX10_leads 171 = .ok (.getfield 93, 3) by decide +kernel) s43 ?_
        refine X_iconst (v := (nI 1)) (show decode cX10_leads 174 = .ok (.iconst 1, 1) by decide +kernel) (by decide) ?_
        refine X_iadd (show decode cX10_leads 175 = .ok (.iadd, 1) by decide +kernel) ?_
        refine X_putI fp_X10_93 (show decode cX10_leads 176 = .ok (.putfield 93, 3) by decide +kernel) (fun z => nomatch z) s43 rfl rfl ?_
        have w := w _ rfl
        refine X_goto (tgt := 38) (show decode cX10_leads 179 = .ok (.goto (-141), 3) by decide +kernel) (by decide) ?_
        refine X_pick (ls' := [(0, .ref _), (1, .int _), (2, .int _), (3, .int _)]) [0, 1, 2, 3] rfl ?_
        exact ih _ _ _ _ _ w
set_option maxRecDepth 100000 in
set_option maxHeartbeats 4000000 in
theorem kX10_leads {a0 : Nat} {a1 : Int32} {a2 : Int32} {h : AH} {K : Int32 → AH → Prop} (w : wX10_leads a0 a1 a2 h K) : Cn mX10_leads (cwd mX10_leads) 4 0 0 [.ref a0, .int a1, .int a2] h (KI K) T0 := by
  refine Cn_of (by decide +kernel) rfl (Nat.le_of_ble_eq_true rfl) ?_
  show X mX10_leads 4 (KI K) T0 0 0 0 [(0, .ref a0), (1, .int a1), (2, .int a2)] [] h
  unfold wX10_leads at w
  refine X_aload_n (j := 0) (show decode cX10_leads 0 = .ok (.aload_n 0, 1) by decide +kernel) rfl rfl ?_
  refine X_iload_n (j := 2) (show decode cX10_leads 1 = .ok (.iload_n 2, 1) by decide +kernel) rfl rfl ?_
  obtain ⟨s51, w⟩ := w
  refine X_vV (rc' := 0) (rs' := 0) (as := [.int _]) mv_X10_89 (show decode cX10_leads 2 = .ok (.invokevirtual 89, 3) by decide +kernel) (by decide) (Nat.le_of_ble_eq_true rfl) (Nat.le_of_ble_eq_true rfl) rfl rfl (Nat.le_of_ble_eq_true rfl) (rcvD s51 (by decide) rfl) (kX10_measures w) (fun E h hk => hk.elim) (fun h1 w => ?_)
  refine X_aload_n (j := 0) (show decode cX10_leads 5 = .ok (.aload_n 0, 1) by decide +kernel) rfl rfl ?_
  refine X_iconst (v := (nI 0)) (show decode cX10_leads 6 = .ok (.iconst 0, 1) by decide +kernel) (by decide) ?_
  obtain ⟨s3, w⟩ := w
  refine X_putI fp_X10_93 (show decode cX10_leads 7 = .ok (.putfield 93, 3) by decide +kernel) (fun z => nomatch z) s3 rfl rfl ?_
  have w := w _ rfl
  refine X_aload_n (j := 0) (show decode cX10_leads 10 = .ok (.aload_n 0, 1) by decide +kernel) rfl rfl ?_
  refine X_getR fl_X10_31 (show decode cX10_leads 11 = .ok (.getfield 31, 3) by decide +kernel) s3 ?_
  refine X_iload_n (j := 1) (show decode cX10_leads 14 = .ok (.iload_n 1, 1) by decide +kernel) rfl rfl ?_
  obtain ⟨s5, w⟩ := w
  obtain ⟨s6, w⟩ := w
  refine X_iald (show decode cX10_leads 15 = .ok (.iaload, 1) by decide +kernel) (isA_eq s5) s6 ?_
  refine X_sipush (v := (nI 9999)) (show decode cX10_leads 16 = .ok (.sipush 9999, 3) by decide +kernel) (by decide) ?_
  refine X_icmp_ne (tgt := 24) (show decode cX10_leads 19 = .ok (.if_icmp .ne 5, 3) by decide +kernel) (by decide) ⟨fun c7 => ?_, fun c7 => ?_⟩
  · have w := w.1 c7
    refine X_iload_n (j := 1) (show decode cX10_leads 24 = .ok (.iload_n 1, 1) by decide +kernel) rfl rfl ?_
    refine X_istore_n (ls' := [(0, .ref _), (1, .int _), (2, .int _), (3, .int _)]) (show decode cX10_leads 25 = .ok (.istore_n 3, 1) by decide +kernel) rfl (by decide) rfl ?_
    refine X_aload_n (j := 0) (show decode cX10_leads 26 = .ok (.aload_n 0, 1) by decide +kernel) rfl rfl ?_
    refine X_getR fl_X10_37 (show decode cX10_leads 27 = .ok (.getfield 37, 3) by decide +kernel) s3 ?_
    refine X_iconst (v := (nI 0)) (show decode cX10_leads 30 = .ok (.iconst 0, 1) by decide +kernel) (by decide) ?_
    refine X_iload_n (j := 3) (show decode cX10_leads 31 = .ok (.iload_n 3, 1) by decide +kernel) rfl rfl ?_
    obtain ⟨s8, w⟩ := w
    obtain ⟨s9, w⟩ := w
    obtain ⟨s10, w⟩ := w
    refine X_iast (show decode cX10_leads 32 = .ok (.iastore, 1) by decide +kernel) (isA_eq s8) s9 s10 ?_
    have w := w _ rfl
    refine X_aload_n (j := 0) (show decode cX10_leads 33 = .ok (.aload_n 0, 1) by decide +kernel) rfl rfl ?_
    refine X_iconst (v := (nI 1)) (show decode cX10_leads 34 = .ok (.iconst 1, 1) by decide +kernel) (by decide) ?_
    refine X_putI fp_X10_93 (show decode cX10_leads 35 = .ok (.putfield 93, 3) by decide +kernel) (fun z => nomatch z) s3 rfl rfl ?_
    have w := w _ rfl
    obtain ⟨n50, w⟩ := w
    exact kX10_leads_L38  n50 _ _ _ _ _ w
  · have w := w.2 c7
    refine X_iconst (v := (-1)) (show decode cX10_leads 22 = .ok (.iconst (-1), 1) by decide +kernel) (by decide) ?_
    exact X_iret ⟨(show decode cX10_leads 23 = .ok (.ireturn, 1) by decide +kernel), .int, rfl, rfl⟩ ⟨_, rfl, w⟩
