set_option maxRecDepth 100000 in
set_option maxHeartbeats 4000000 in
theorem kX7_find_L2 {K : Nat → AH → Prop}    : ∀ (n : Nat) (x0 : Nat) (x1 : Int32) (x2 : Int32) (h : AH), wX7_find_L2 K   n x0 x1 x2 h → X mX7_find 1 (KR K) T0 0 0 2 [(0, .ref x0), (1, .int x1), (2, .int x2)] [] h := by
  intro n
  induction n with
  | zero => intro _ _ _ _ w; exact w.elim
  | succ n ih =>
    intro x0 x1 x2 h w
    rw [wX7_find_L2] at w
    refine X_iload_n (j := 2) (show decode cX7_find 2 = .ok (.iload_n 2, 1) by decide +kernel) rfl rfl ?_
    refine X_aload_n (j := 0) (show decode cX7_find 3 = .ok (.aload_n 0, 1) by decide +kernel) rfl rfl ?_
    obtain ⟨s1, w⟩ := w
    refine X_getI fl_X7_28 (show decode cX7_find 4 = .ok (.getfield 28, 3) by decide +kernel) s1 ?_
    refine X_icmp_ge (tgt := 36) (show decode cX7_find 7 = .ok (.if_icmp .ge 29, 3) by decide +kernel) (by decide) ⟨fun c2 => ?_, fun c2 => ?_⟩
    · have w := w.1 c2
      refine X_aconst_null (show decode cX7_find 36 = .ok (.aconst_null, 1) by decide +kernel) ?_
      exact X_aret ⟨(show decode cX7_find 37 = .ok (.areturn, 1) by decide +kernel), Or.inl ⟨_, rfl⟩⟩ ⟨_, rfl, w⟩
    · have w := w.2 c2
      refine X_aload_n (j := 0) (show decode cX7_find 10 = .ok (.aload_n 0, 1) by decide +kernel) rfl rfl ?_
      refine X_getR fl_X7_20 (show decode cX7_find 11 = .ok (.getfield 20, 3) by decide +kernel) s1 ?_
      refine X_iload_n (j := 2) (show decode cX7_find 14 = .ok (.iload_n 2, 1) by decide +kernel) rfl rfl ?_
      obtain ⟨s3, w⟩ := w
      obtain ⟨s4, w⟩ := w
      refine X_aaldT (show decode cX7_find 15 = .ok (.aaload, 1) by decide +kernel) (isA_eq s3) s4 ?_
      obtain ⟨s5, w⟩ := w
      refine X_getI fl_X7_62 (show decode cX7_find 16 = .ok (.getfield 62, 3) by decide +kernel) s5 ?_
      refine X_iload_n (j := 1) (show decode cX7_find 19 = .ok (.iload_n 1, 1) by decide +kernel) rfl rfl ?_
      refine X_icmp_ne (tgt := 30) (show decode cX7_find 20 = .ok (.if_icmp .ne 10, 3) by decide +kernel) (by decide) ⟨fun c6 => ?_, fun c6 => ?_⟩
      · have w := w.1 c6
        refine X_iinc (j := 2) (v := _ + (nI 1)) (ls' := [(0, .ref _), (1, .int _), (2, .int _)]) (show decode cX7_find 30 = .ok (.iinc 2 1, 3) by decide +kernel) rfl rfl (Nat.le_of_ble_eq_true rfl) rfl ?_
        refine X_goto (tgt := 2) (show decode cX7_find 33 = .ok (.goto (-31), 3) by decide +kernel) (by decide) ?_
        exact ih _ _ _ _ w
      · have w := w.2 c6
        refine X_aload_n (j := 0) (show decode cX7_find 23 = .ok (.aload_n 0, 1) by decide +kernel) rfl rfl ?_
        refine X_getR fl_X7_20 (show decode cX7_find 24 = .ok (.getfield 20, 3) by decide +kernel) s1 ?_
        refine X_iload_n (j := 2) (show decode cX7_find 27 = .ok (.iload_n 2, 1) by decide +kernel) rfl rfl ?_
        refine X_aaldT (show decode cX7_find 28 = .ok (.aaload, 1) by decide +kernel) (isA_eq s3) s4 ?_
        exact X_aret ⟨(show decode cX7_find 29 = .ok (.areturn, 1) by decide +kernel), Or.inl ⟨_, rfl⟩⟩ ⟨_, rfl, w⟩
set_option maxRecDepth 100000 in
set_option maxHeartbeats 4000000 in
theorem kX7_find {a0 : Nat} {a1 : Int32} {h : AH} {K : Nat → AH → Prop} (w : wX7_find a0 a1 h K) : Cn mX7_find (cwd mX7_find) 1 0 0 [.ref a0, .int a1] h (KR K) T0 := by
  refine Cn_of (by decide +kernel) rfl (Nat.le_of_ble_eq_true rfl) ?_
  show X mX7_find 1 (KR K) T0 0 0 0 [(0, .ref a0), (1, .int a1)] [] h
  unfold wX7_find at w
  refine X_iconst (v := (nI 0)) (show decode cX7_find 0 = .ok (.iconst 0, 1) by decide +kernel) (by decide) ?_
  refine X_istore_n (ls' := [(0, .ref _), (1, .int _), (2, .int _)]) (show decode cX7_find 1 = .ok (.istore_n 2, 1) by decide +kernel) rfl (by decide) rfl ?_
  obtain ⟨n7, w⟩ := w
  exact kX7_find_L2  n7 _ _ _ _ w
set_option maxRecDepth 100000 in
set_option maxHeartbeats 4000000 in
theorem kX4_routeBlocks {a0 : Nat} {a1 : Int32} {a2 : Int32} {h : AH} {K : Int32 → AH → Prop} (w : wX4_routeBlocks a0 a1 a2 h K) : Cn mX4_routeBlocks (cwd mX4_routeBlocks) 2 0 0 [.ref a0, .int a1, .int a2] h (KI K) T0 := by
  refine Cn_of (by decide +kernel) rfl (Nat.le_of_ble_eq_true rfl) ?_
  show X mX4_routeBlocks 2 (KI K) T0 0 0 0 [(0, .ref a0), (1, .int a1), (2, .int a2)] [] h
  unfold wX4_routeBlocks at w
  refine X_aload_n (j := 0) (show decode cX4_routeBlocks 0 = .ok (.aload_n 0, 1) by decide +kernel) rfl rfl ?_
  refine X_iload_n (j := 1) (show decode cX4_routeBlocks 1 = .ok (.iload_n 1, 1) by decide +kernel) rfl rfl ?_
  obtain ⟨s14, w⟩ := w
  refine X_vI (rc' := 0) (rs' := 0) (as := [.int _]) mv_X4_57 (show decode cX4_routeBlocks 2 = .ok (.invokevirtual 57, 3) by decide +kernel) (by decide) (Nat.le_of_ble_eq_true rfl) (Nat.le_of_ble_eq_true rfl) rfl rfl (Nat.le_of_ble_eq_true rfl) (rcvD s14 (by decide) rfl) (kX4_has w) (fun E h hk => hk.elim) (fun r2 h1 w => ?_)
  refine X_if_eq (tgt := 27) (show decode cX4_routeBlocks 5 = .ok (.ifCond .eq 22, 3) by decide +kernel) (by decide) ⟨fun c3 => ?_, fun c3 => ?_⟩
  · have w := w.1 c3
    refine X_iconst (v := (nI 0)) (show decode cX4_routeBlocks 27 = .ok (.iconst 0, 1) by decide +kernel) (by decide) ?_
    exact X_iret ⟨(show decode cX4_routeBlocks 28 = .ok (.ireturn, 1) by decide +kernel), .int, rfl, rfl⟩ ⟨_, rfl, w⟩
  · have w := w.2 c3
    refine X_aload_n (j := 0) (show decode cX4_routeBlocks 8 = .ok (.aload_n 0, 1) by decide +kernel) rfl rfl ?_
    refine X_iload_n (j := 2) (show decode cX4_routeBlocks 9 = .ok (.iload_n 2, 1) by decide +kernel) rfl rfl ?_
    obtain ⟨s13, w⟩ := w
    refine X_vI (rc' := 0) (rs' := 0) (as := [.int _]) mv_X4_57 (show decode cX4_routeBlocks 10 = .ok (.invokevirtual 57, 3) by decide +kernel) (by decide) (Nat.le_of_ble_eq_true rfl) (Nat.le_of_ble_eq_true rfl) rfl rfl (Nat.le_of_ble_eq_true rfl) (rcvD s13 (by decide) rfl) (kX4_has w) (fun E h hk => hk.elim) (fun r5 h4 w => ?_)
    refine X_if_eq (tgt := 27) (show decode cX4_routeBlocks 13 = .ok (.ifCond .eq 14, 3) by decide +kernel) (by decide) ⟨fun c6 => ?_, fun c6 => ?_⟩
    · have w := w.1 c6
      refine X_iconst (v := (nI 0)) (show decode cX4_routeBlocks 27 = .ok (.iconst 0, 1) by decide +kernel) (by decide) ?_
      exact X_iret ⟨(show decode cX4_routeBlocks 28 = .ok (.ireturn, 1) by decide +kernel), .int, rfl, rfl⟩ ⟨_, rfl, w⟩
    · have w := w.2 c6
      refine X_aload_n (j := 0) (show decode cX4_routeBlocks 16 = .ok (.aload_n 0, 1) by decide +kernel) rfl rfl ?_
      obtain ⟨s7, w⟩ := w
      refine X_getR fl_X4_45 (show decode cX4_routeBlocks 17 = .ok (.getfield 45, 3) by decide +kernel) s7 ?_
      refine X_iload_n (j := 2) (show decode cX4_routeBlocks 20 = .ok (.iload_n 2, 1) by decide +kernel) rfl rfl ?_
      obtain ⟨s8, w⟩ := w
      obtain ⟨s9, w⟩ := w
      obtain ⟨s10, w⟩ := w
      refine X_aaldA (show decode cX4_routeBlocks 21 = .ok (.aaload, 1) by decide +kernel) (isA_eq s8) s9 s10 ?_
      refine X_iload_n (j := 1) (show decode cX4_routeBlocks 22 = .ok (.iload_n 1, 1) by decide +kernel) rfl rfl ?_
      obtain ⟨s11, w⟩ := w
      obtain ⟨s12, w⟩ := w
      refine X_iald (show decode cX4_routeBlocks 23 = .ok (.iaload, 1) by decide +kernel) (isA_eq s11) s12 ?_
      refine X_goto (tgt := 28) (show decode cX4_routeBlocks 24 = .ok (.goto 4, 3) by decide +kernel) (by decide) ?_
      exact X_iret ⟨(show decode cX4_routeBlocks 28 = .ok (.ireturn, 1) by decide +kernel), .int, rfl, rfl⟩ ⟨_, rfl, w⟩
set_option maxRecDepth 100000 in
set_option maxHeartbeats 4000000 in
theorem kX7_canSet {a0 : Nat} {a1 : Nat} {h : AH} {K : Int32 → AH → Prop} (w : wX7_canSet a0 a1 h K) : Cn mX7_canSet (cwd mX7_canSet) 3 0 0 [.ref a0, .ref a1] h (KI K) T0 := by
  refine Cn_of (by decide +kernel) rfl (Nat.le_of_ble_eq_true rfl) ?_
  show X mX7_canSet 3 (KI K) T0 0 0 0 [(0, .ref a0), (1, .ref a1)] [] h
  unfold wX7_canSet at w
  refine X_aload_n (j := 0) (show decode cX7_canSet 0 = .ok (.aload_n 0, 1) by decide +kernel) rfl rfl ?_
  obtain ⟨s1, w⟩ := w
  refine X_getR fl_X7_12 (show decode cX7_canSet 1 = .ok (.getfield 12, 3) by decide +kernel) s1 ?_
  refine X_aload_n (j := 1) (show decode cX7_canSet 4 = .ok (.aload_n 1, 1) by decide +kernel) rfl rfl ?_
  obtain ⟨s2, w⟩ := w
  refine X_getI fl_X7_119 (show decode cX7_canSet 5 = .ok (.getfield 119, 3) by decide +kernel) s2 ?_
  refine X_aload_n (j := 1) (show decode cX7_canSet 8 = .ok (.aload_n 1, 1) by decide +kernel) rfl rfl ?_
  refine X_getI fl_X7_122 (show decode cX7_canSet 9 = .ok (.getfield 122, 3) by decide +kernel) s2 ?_
  obtain ⟨s15, w⟩ := w
  refine X_vI (rc' := 0) (rs' := 0) (as := [.int _, .int _]) mv_X7_125 (show decode cX7_canSet 12 = .ok (.invokevirtual 125, 3) by decide +kernel) (by decide) (Nat.le_of_ble_eq_true rfl) (Nat.le_of_ble_eq_true rfl) rfl rfl (Nat.le_of_ble_eq_true rfl) (rcvD s15 (by decide) rfl) (kX4_routeBlocks w) (fun E h hk => hk.elim) (fun r4 h3 w => ?_)
  refine X_istore_n (ls' := [(0, .ref _), (1, .ref _), (2, .int _)]) (show decode cX7_canSet 15 = .ok (.istore_n 2, 1) by decide +kernel) rfl (by decide) rfl ?_
  refine X_aload_n (j := 1) (show decode cX7_canSet 16 = .ok (.aload_n 1, 1) by decide +kernel) rfl rfl ?_
  obtain ⟨s14, w⟩ := w
  refine X_vI (rc' := 0) (rs' := 0) (as := []) mv_X7_129 (show decode cX7_canSet 17 = .ok (.invokevirtual 129, 3) by decide +kernel) (by decide) (Nat.le_of_ble_eq_true rfl) (Nat.le_of_ble_eq_true rfl) rfl rfl (Nat.le_of_ble_eq_true rfl) (rcvD s14 (by decide) rfl) (kX8_isRouted w) (fun E h hk => hk.elim) (fun r6 h5 w => ?_)
  refine X_if_ne (tgt := 48) (show decode cX7_canSet 20 = .ok (.ifCond .ne 28, 3) by decide +kernel) (by decide) ⟨fun c7 => ?_, fun c7 => ?_⟩
  · have w := w.1 c7
    refine X_iconst (v := (nI 0)) (show decode cX7_canSet 48 = .ok (.iconst 0, 1) by decide +kernel) (by decide) ?_
    exact X_iret ⟨(show decode cX7_canSet 49 = .ok (.ireturn, 1) by decide +kernel), .boolean, rfl, (by decide)⟩ ⟨_, rfl, w⟩
  · have w := w.2 c7
    refine X_iload_n (j := 2) (show decode cX7_canSet 23 = .ok (.iload_n 2, 1) by decide +kernel) rfl rfl ?_
    refine X_if_eq (tgt := 48) (show decode cX7_canSet 24 = .ok (.ifCond .eq 24, 3) by decide +kernel) (by decide) ⟨fun c8 => ?_, fun c8 => ?_⟩
    · have w := w.1 c8
      refine X_iconst (v := (nI 0)) (show decode cX7_canSet 48 = .ok (.iconst 0, 1) by decide +kernel) (by decide) ?_
      exact X_iret ⟨(show decode cX7_canSet 49 = .ok (.ireturn, 1) by decide +kernel), .boolean, rfl, (by decide)⟩ ⟨_, rfl, w⟩
    · have w := w.2 c8
      refine X_iload_n (j := 2) (show decode cX7_canSet 27 = .ok (.iload_n 2, 1) by decide +kernel) rfl rfl ?_
      refine X_aload_n (j := 0) (show decode cX7_canSet 28 = .ok (.aload_n 0, 1) by decide +kernel) rfl rfl ?_
      obtain ⟨s9, w⟩ := w
      refine X_getR fl_X7_12 (show decode cX7_canSet 29 = .ok (.getfield 12, 3) by decide +kernel) s9 ?_
      obtain ⟨s10, w⟩ := w
      refine X_getI fl_X7_84 (show decode cX7_canSet 32 = .ok (.getfield 84, 3) by decide +kernel) s10 ?_
      refine X_aload_n (j := 0) (show decode cX7_canSet 35 = .ok (.aload_n 0, 1) by decide +kernel) rfl rfl ?_
      refine X_vI (rc' := 0) (rs' := 0) (as := []) mv_X7_90 (show decode cX7_canSet 36 = .ok (.invokevirtual 90, 3) by decide +kernel) (by decide) (Nat.le_of_ble_eq_true rfl) (Nat.le_of_ble_eq_true rfl) rfl rfl (Nat.le_of_ble_eq_true rfl) (rcvD s9 (by decide) rfl) (kX7_held w) (fun E h hk => hk.elim) (fun r12 h11 w => ?_)
      refine X_ior (show decode cX7_canSet 39 = .ok (.ior, 1) by decide +kernel) ?_
      refine X_iand (show decode cX7_canSet 40 = .ok (.iand, 1) by decide +kernel) ?_
      refine X_if_ne (tgt := 48) (show decode cX7_canSet 41 = .ok (.ifCond .ne 7, 3) by decide +kernel) (by decide) ⟨fun c13 => ?_, fun c13 => ?_⟩
      · have w := w.1 c13
        refine X_iconst (v := (nI 0)) (show decode cX7_canSet 48 = .ok (.iconst 0, 1) by decide +kernel) (by decide) ?_
        exact X_iret ⟨(show decode cX7_canSet 49 = .ok (.ireturn, 1) by decide +kernel), .boolean, rfl, (by decide)⟩ ⟨_, rfl, w⟩
      · have w := w.2 c13
        refine X_iconst (v := (nI 1)) (show decode cX7_canSet 44 = .ok (.iconst 1, 1) by decide +kernel) (by decide) ?_
        refine X_goto (tgt := 49) (show decode cX7_canSet 45 = .ok (.goto 4, 3) by decide +kernel) (by decide) ?_
        exact X_iret ⟨(show decode cX7_canSet 49 = .ok (.ireturn, 1) by decide +kernel), .boolean, rfl, (by decide)⟩ ⟨_, rfl, w⟩
set_option maxRecDepth 100000 in
set_option maxHeartbeats 4000000 in
theorem kX7_leaveQueue_L4 {K : AH → Prop}    : ∀ (n : Nat) (x0 : Nat) (x1 : Int32) (x2 : Int32) (x3 : Int32) (h : AH), wX7_leaveQueue_L4 K   n x0 x1 x2 x3 h → X mX7_leaveQueue 1 (KV K) T0 0 0 4 [(0, .ref x0), (1, .int x1), (2, .int x2), (3, .int x3)] [] h := by
  intro n
  induction n with
  | zero => intro _ _ _ _ _ w; exact w.elim
  | succ n ih =>
    intro x0 x1 x2 x3 h w
    rw [wX7_leaveQueue_L4] at w
    refine X_iload_n (j := 3) (show decode cX7_leaveQueue 4 = .ok (.iload_n 3, 1) by decide +kernel) rfl rfl ?_
    refine X_aload_n (j := 0) (show decode cX7_leaveQueue 5 = .ok (.aload_n 0, 1) by decide +kernel) rfl rfl ?_
    obtain ⟨s1, w⟩ := w
    refine X_getI fl_X7_32 (show decode cX7_leaveQueue 6 = .ok (.getfield 32, 3) by decide +kernel) s1 ?_
    refine X_icmp_ge (tgt := 43) (show decode cX7_leaveQueue 9 = .ok (.if_icmp .ge 34, 3) by decide +kernel) (by decide) ⟨fun c2 => ?_, fun c2 => ?_⟩
    · have w := w.1 c2
      refine X_aload_n (j := 0) (show decode cX7_leaveQueue 43 = .ok (.aload_n 0, 1) by decide +kernel) rfl rfl ?_
      refine X_iload_n (j := 2) (show decode cX7_leaveQueue 44 = .ok (.iload_n 2, 1) by decide +kernel) rfl rfl ?_
      refine X_putI fp_X7_32 (show decode cX7_leaveQueue 45 = .ok (.putfield 32, 3) by decide +kernel) (fun z => nomatch z) s1 rfl rfl ?_
      have w := w _ rfl
      exact X_vret ⟨(show decode cX7_leaveQueue 48 = .ok (.return_, 1) by decide +kernel), rfl⟩ ⟨rfl, w⟩
    · have w := w.2 c2
      refine X_aload_n (j := 0) (show decode cX7_leaveQueue 12 = .ok (.aload_n 0, 1) by decide +kernel) rfl rfl ?_
      refine X_getR fl_X7_24 (show decode cX7_leaveQueue 13 = .ok (.getfield 24, 3) by decide +kernel) s1 ?_
      refine X_iload_n (j := 3) (show decode cX7_leaveQueue 16 = .ok (.iload_n 3, 1) by decide +kernel) rfl rfl ?_
      obtain ⟨s4, w⟩ := w
      obtain ⟨s5, w⟩ := w
      refine X_iald (show decode cX7_leaveQueue 17 = .ok (.iaload, 1) by decide +kernel) (isA_eq s4) s5 ?_
      refine X_iload_n (j := 1) (show decode cX7_leaveQueue 18 = .ok (.iload_n 1, 1) by decide +kernel) rfl rfl ?_
      refine X_icmp_eq (tgt := 37) (show decode cX7_leaveQueue 19 = .ok (.if_icmp .eq 18, 3) by decide +kernel) (by decide) ⟨fun c6 => ?_, fun c6 => ?_⟩
      · have w := w.1 c6
        refine X_iinc (j := 3) (v := _ + (nI 1)) (ls' := [(0, .ref _), (1, .int _), (2, .int _), (3, .int _)]) (show decode cX7_leaveQueue 37 = .ok (.iinc 3 1, 3) by decide +kernel) rfl rfl (Nat.le_of_ble_eq_true rfl) rfl ?_
        refine X_goto (tgt := 4) (show decode cX7_leaveQueue 40 = .ok (.goto (-36), 3) by decide +kernel) (by decide) ?_
        exact ih _ _ _ _ _ w
      · have w := w.2 c6
        refine X_aload_n (j := 0) (show decode cX7_leaveQueue 22 = .ok (.aload_n 0, 1) by decide +kernel) rfl rfl ?_
        refine X_getR fl_X7_24 (show decode cX7_leaveQueue 23 = .ok (.getfield 24, 3) by decide +kernel) s1 ?_
        refine X_iload_n (j := 2) (show decode cX7_leaveQueue 26 = .ok (.iload_n 2, 1) by decide +kernel) rfl rfl ?_
        refine X_aload_n (j := 0) (show decode cX7_leaveQueue 27 = .ok (.aload_n 0, 1) by decide +kernel) rfl rfl ?_
        refine X_getR fl_X7_24 (show decode cX7_leaveQueue 28 = .ok (.getfield 24, 3) by decide +kernel) s1 ?_
        refine X_iload_n (j := 3) (show decode cX7_leaveQueue 31 = .ok (.iload_n 3, 1) by decide +kernel) rfl rfl ?_
        refine X_iald (show decode cX7_leaveQueue 32 = .ok (.iaload, 1) by decide +kernel) (isA_eq s4) s5 ?_
        obtain ⟨s7, w⟩ := w
        obtain ⟨s8, w⟩ := w
        refine X_iast (show decode cX7_leaveQueue 33 = .ok (.iastore, 1) by decide +kernel) (isA_eq s4) s7 s8 ?_
        have w := w _ rfl
        refine X_iinc (j := 2) (v := _ + (nI 1)) (ls' := [(0, .ref _), (1, .int _), (2, .int _), (3, .int _)]) (show decode cX7_leaveQueue 34 = .ok (.iinc 2 1, 3) by decide +kernel) rfl rfl (Nat.le_of_ble_eq_true rfl) rfl ?_
        refine X_iinc (j := 3) (v := _ + (nI 1)) (ls' := [(0, .ref _), (1, .int _), (2, .int _), (3, .int _)]) (show decode cX7_leaveQueue 37 = .ok (.iinc 3 1, 3) by decide +kernel) rfl rfl (Nat.le_of_ble_eq_true rfl) rfl ?_
        refine X_goto (tgt := 4) (show decode cX7_leaveQueue 40 = .ok (.goto (-36), 3) by decide +kernel) (by decide) ?_
        exact ih _ _ _ _ _ w
set_option maxRecDepth 100000 in
set_option maxHeartbeats 4000000 in
theorem kX7_leaveQueue {a0 : Nat} {a1 : Int32} {h : AH} {K : AH → Prop} (w : wX7_leaveQueue a0 a1 h K) : Cn mX7_leaveQueue (cwd mX7_leaveQueue) 1 0 0 [.ref a0, .int a1] h (KV K) T0 := by
  refine Cn_of (by decide +kernel) rfl (Nat.le_of_ble_eq_true rfl) ?_
  show X mX7_leaveQueue 1 (KV K) T0 0 0 0 [(0, .ref a0), (1, .int a1)] [] h
  unfold wX7_leaveQueue at w
  refine X_iconst (v := (nI 0)) (show decode cX7_leaveQueue 0 = .ok (.iconst 0, 1) by decide +kernel) (by decide) ?_
  refine X_istore_n (ls' := [(0, .ref _), (1, .int _), (2, .int _)]) (show decode cX7_leaveQueue 1 = .ok (.istore_n 2, 1) by decide +kernel) rfl (by decide) rfl ?_
  refine X_iconst (v := (nI 0)) (show decode cX7_leaveQueue 2 = .ok (.iconst 0, 1) by decide +kernel) (by decide) ?_
  refine X_istore_n (ls' := [(0, .ref _), (1, .int _), (2, .int _), (3, .int _)]) (show decode cX7_leaveQueue 3 = .ok (.istore_n 3, 1) by decide +kernel) rfl (by decide) rfl ?_
  obtain ⟨n10, w⟩ := w
  exact kX7_leaveQueue_L4  n10 _ _ _ _ _ w
set_option maxRecDepth 100000 in
set_option maxHeartbeats 4000000 in
theorem kX4_turnForRoute_L5 {K : AH → Prop}    : ∀ (n : Nat) (x0 : Nat) (x2 : Int32) (x3 : Int32) (x4 : Int32) (h : AH), wX4_turnForRoute_L5 K   n x0 x2 x3 x4 h → X mX4_turnForRoute 2 (KV K) T0 0 0 5 [(0, .ref x0), (2, .int x2), (3, .int x3), (4, .int x4)] [] h := by
  intro n
  induction n with
  | zero => intro _ _ _ _ _ w; exact w.elim
  | succ n ih =>
    intro x0 x2 x3 x4 h w
    rw [wX4_turnForRoute_L5] at w
    refine X_iload (j := 3) (show decode cX4_turnForRoute 5 = .ok (.iload 4, 2) by decide +kernel) rfl ?_
    refine X_bipush (v := (nI 12)) (show decode cX4_turnForRoute 7 = .ok (.bipush 12, 2) by decide +kernel) (by decide) ?_
    refine X_icmp_ge (tgt := 103) (show decode cX4_turnForRoute 9 = .ok (.if_icmp .ge 94, 3) by decide +kernel) (by decide) ⟨fun c1 => ?_, fun c1 => ?_⟩
    · have w := w.1 c1
      exact X_vret ⟨(show decode cX4_turnForRoute 103 = .ok (.return_, 1) by decide +kernel), rfl⟩ ⟨rfl, w⟩
    · have w := w.2 c1
      refine X_aload_n (j := 0) (show decode cX4_turnForRoute 12 = .ok (.aload_n 0, 1) by decide +kernel) rfl rfl ?_
      refine X_iload_n (j := 2) (show decode cX4_turnForRoute 13 = .ok (.iload_n 3, 1) by decide +kernel) rfl rfl ?_
      obtain ⟨s26, w⟩ := w
      refine X_vI (rc' := 0) (rs' := 0) (as := [.int _]) mv_X4_57 (show decode cX4_turnForRoute 14 = .ok (.invokevirtual 57, 3) by decide +kernel) (by decide) (Nat.le_of_ble_eq_true rfl) (Nat.le_of_ble_eq_true rfl) rfl rfl (Nat.le_of_ble_eq_true rfl) (rcvD s26 (by decide) rfl) (kX4_has w) (fun E h hk => hk.elim) (fun r3 h2 w => ?_)
      refine X_if_eq (tgt := 103) (show decode cX4_turnForRoute 17 = .ok (.ifCond .eq 86, 3) by decide +kernel) (by decide) ⟨fun c4 => ?_, fun c4 => ?_⟩
      · have w := w.1 c4
        exact X_vret ⟨(show decode cX4_turnForRoute 103 = .ok (.return_, 1) by decide +kernel), rfl⟩ ⟨rfl, w⟩
      · have w := w.2 c4
        refine X_aload_n (j := 0) (show decode cX4_turnForRoute 20 = .ok (.aload_n 0, 1) by decide +kernel) rfl rfl ?_
        refine X_iload_n (j := 1) (show decode cX4_turnForRoute 21 = .ok (.iload_n 2, 1) by decide +kernel) rfl rfl ?_
        obtain ⟨s25, w⟩ := w
        refine X_vI (rc' := 0) (rs' := 0) (as := [.int _]) mv_X4_57 (show decode cX4_turnForRoute 22 = .ok (.invokevirtual 57, 3) by decide +kernel) (by decide) (Nat.le_of_ble_eq_true rfl) (Nat.le_of_ble_eq_true rfl) rfl rfl (Nat.le_of_ble_eq_true rfl) (rcvD s25 (by decide) rfl) (kX4_has w) (fun E h hk => hk.elim) (fun r6 h5 w => ?_)
        refine X_if_eq (tgt := 103) (show decode cX4_turnForRoute 25 = .ok (.ifCond .eq 78, 3) by decide +kernel) (by decide) ⟨fun c7 => ?_, fun c7 => ?_⟩
        · have w := w.1 c7
          exact X_vret ⟨(show decode cX4_turnForRoute 103 = .ok (.return_, 1) by decide +kernel), rfl⟩ ⟨rfl, w⟩
        · have w := w.2 c7
          refine X_iload_n (j := 2) (show decode cX4_turnForRoute 28 = .ok (.iload_n 3, 1) by decide +kernel) rfl rfl ?_
          refine X_iload_n (j := 1) (show decode cX4_turnForRoute 29 = .ok (.iload_n 2, 1) by decide +kernel) rfl rfl ?_
          refine X_icmp_eq (tgt := 103) (show decode cX4_turnForRoute 30 = .ok (.if_icmp .eq 73, 3) by decide +kernel) (by decide) ⟨fun c8 => ?_, fun c8 => ?_⟩
          · have w := w.1 c8
            exact X_vret ⟨(show decode cX4_turnForRoute 103 = .ok (.return_, 1) by decide +kernel), rfl⟩ ⟨rfl, w⟩
          · have w := w.2 c8
            refine X_aload_n (j := 0) (show decode cX4_turnForRoute 33 = .ok (.aload_n 0, 1) by decide +kernel) rfl rfl ?_
            obtain ⟨s9, w⟩ := w
            refine X_getR fl_X4_42 (show decode cX4_turnForRoute 34 = .ok (.getfield 42, 3) by decide +kernel) s9 ?_
            refine X_iload_n (j := 1) (show decode cX4_turnForRoute 37 = .ok (.iload_n 2, 1) by decide +kernel) rfl rfl ?_
            obtain ⟨s10, w⟩ := w
            obtain ⟨s11, w⟩ := w
            obtain ⟨s12, w⟩ := w
            refine X_aaldA (show decode cX4_turnForRoute 38 = .ok (.aaload, 1) by decide +kernel) (isA_eq s10) s11 s12 ?_
            refine X_iload_n (j := 2) (show decode cX4_turnForRoute 39 = .ok (.iload_n 3, 1) by decide +kernel) rfl rfl ?_
            obtain ⟨s13, w⟩ := w
            obtain ⟨s14, w⟩ := w
            refine X_iald (show decode cX4_turnForRoute 40 = .ok (.iaload, 1) by decide +kernel) (isA_eq s13) s14 ?_
            refine X_topi (fun v15 e16 => ?_)
            have w := w v15 e16
            refine X_istore (ls' := [(0, .ref _), (2, .int _), (3, .int _), (4, .int _), (5, .int _)]) (show decode cX4_turnForRoute 41 = .ok (.istore 5, 2) by decide +kernel) (by decide) rfl ?_
            refine X_aload_n (j := 0) (show decode cX4_turnForRoute 43 = .ok (.aload_n 0, 1) by decide +kernel) rfl rfl ?_
            refine X_getR fl_X4_31 (show decode cX4_turnForRoute 44 = .ok (.getfield 31, 3) by decide +kernel) s9 ?_
            refine X_iload_n (j := 2) (show decode cX4_turnForRoute 47 = .ok (.iload_n 3, 1) by decide +kernel) rfl rfl ?_
            obtain ⟨s17, w⟩ := w
            obtain ⟨s18, w⟩ := w
            refine X_iald (show decode cX4_turnForRoute 48 = .ok (.iaload, 1) by decide +kernel) (isA_eq s17) s18 ?_
            refine X_iload (j := 4) (show decode cX4_turnForRoute 49 = .ok (.iload 5, 2) by decide +kernel) rfl ?_
            refine X_icmp_ne (tgt := 71) (show decode cX4_turnForRoute 51 = .ok (.if_icmp .ne 20, 3) by decide +kernel) (by decide) ⟨fun c19 => ?_, fun c19 => ?_⟩
            · have w := w.1 c19
              refine X_aload_n (j := 0) (show decode cX4_turnForRoute 71 = .ok (.aload_n 0, 1) by decide +kernel) rfl rfl ?_
              refine X_getR fl_X4_34 (show decode cX4_turnForRoute 72 = .ok (.getfield 34, 3) by decide +kernel) s9 ?_
              refine X_iload_n (j := 2) (show decode cX4_turnForRoute 75 = .ok (.iload_n 3, 1) by decide +kernel) rfl rfl ?_
              obtain ⟨s20, w⟩ := w
              obtain ⟨s21, w⟩ := w
              refine X_iald (show decode cX4_turnForRoute 76 = .ok (.iaload, 1) by decide +kernel) (isA_eq s20) s21 ?_
              refine X_iload (j := 4) (show decode cX4_turnForRoute 77 = .ok (.iload 5, 2) by decide +kernel) rfl ?_
              refine X_icmp_ne (tgt := 94) (show decode cX4_turnForRoute 79 = .ok (.if_icmp .ne 15, 3) by decide +kernel) (by decide) ⟨fun c22 => ?_, fun c22 => ?_⟩
              · have w := w.1 c22
                refine X_iload (j := 4) (show decode cX4_turnForRoute 94 = .ok (.iload 5, 2) by decide +kernel) rfl ?_
                refine X_istore_n (ls' := [(0, .ref _), (2, .int _), (3, .int _), (4, .int _), (5, .int _)]) (show decode cX4_turnForRoute 96 = .ok (.istore_n 3, 1) by decide +kernel) rfl (by decide) rfl ?_
                refine X_iinc (j := 3) (v := _ + (nI 1)) (ls' := [(0, .ref _), (2, .int _), (3, .int _), (4, .int _), (5, .int _)]) (show decode cX4_turnForRoute 97 = .ok (.iinc 4 1, 3) by decide +kernel) rfl rfl (Nat.le_of_ble_eq_true rfl) rfl ?_
                refine X_goto (tgt := 5) (show decode cX4_turnForRoute 100 = .ok (.goto (-95), 3) by decide +kernel) (by decide) ?_
                refine X_pick (ls' := [(0, .ref _), (2, .int _), (3, .int _), (4, .int _)]) [0, 1, 2, 3] rfl ?_
                exact ih _ _ _ _ _ w
              · have w := w.2 c22
                refine X_aload_n (j := 0) (show decode cX4_turnForRoute 82 = .ok (.aload_n 0, 1) by decide +kernel) rfl rfl ?_
                refine X_dup (show decode cX4_turnForRoute 83 = .ok (.dup, 1) by decide +kernel) rfl ?_
                refine X_getI fl_X4_24 (show decode cX4_turnForRoute 84 = .ok (.getfield 24, 3) by decide +kernel) s9 ?_
                refine X_iconst (v := (nI 1)) (show decode cX4_turnForRoute 87 = .ok (.iconst 1, 1) by decide +kernel) (by decide) ?_
                refine X_iload_n (j := 2) (show decode cX4_turnForRoute 88 = .ok (.iload_n 3, 1) by decide +kernel) rfl rfl ?_
                refine X_ishl (show decode cX4_turnForRoute 89 = .ok (.ishl, 1) by decide +kernel) ?_
                refine X_ior (show decode cX4_turnForRoute 90 = .ok (.ior, 1) by decide +kernel) ?_
                refine X_putI fp_X4_24 (show decode cX4_turnForRoute 91 = .ok (.putfield 24, 3) by decide +kernel) (fun z => nomatch z) s9 rfl rfl ?_
                have w := w _ rfl
                refine X_iload (j := 4) (show decode cX4_turnForRoute 94 = .ok (.iload 5, 2) by decide +kernel) rfl ?_
                refine X_istore_n (ls' := [(0, .ref _), (2, .int _), (3, .int _), (4, .int _), (5, .int _)]) (show decode cX4_turnForRoute 96 = .ok (.istore_n 3, 1) by decide +kernel) rfl (by decide) rfl ?_
                refine X_iinc (j := 3) (v := _ + (nI 1)) (ls' := [(0, .ref _), (2, .int _), (3, .int _), (4, .int _), (5, .int _)]) (show decode cX4_turnForRoute 97 = .ok (.iinc 4 1, 3) by decide +kernel) rfl rfl (Nat.le_of_ble_eq_true rfl) rfl ?_
                refine X_goto (tgt := 5) (show decode cX4_turnForRoute 100 = .ok (.goto (-95), 3) by decide +kernel) (by decide) ?_
                refine X_pick (ls' := [(0, .ref _), (2, .int _), (3, .int _), (4, .int _)]) [0, 1, 2, 3] rfl ?_
                exact ih _ _ _ _ _ w
            · have w := w.2 c19
              refine X_aload_n (j := 0) (show decode cX4_turnForRoute 54 = .ok (.aload_n 0, 1) by decide +kernel) rfl rfl ?_
              refine X_dup (show decode cX4_turnForRoute 55 = .ok (.dup, 1) by decide +kernel) rfl ?_
              refine X_getI fl_X4_24 (show decode cX4_turnForRoute 56 = .ok (.getfield 24, 3) by decide +kernel) s9 ?_
              refine X_iconst (v := (nI 1)) (show decode cX4_turnForRoute 59 = .ok (.iconst 1, 1) by decide +kernel) (by decide) ?_
              refine X_iload_n (j := 2) (show decode cX4_turnForRoute 60 = .ok (.iload_n 3, 1) by decide +kernel) rfl rfl ?_
              refine X_ishl (show decode cX4_turnForRoute 61 = .ok (.ishl, 1) by decide +kernel) ?_
              refine X_iconst (v := (-1)) (show decode cX4_turnForRoute 62 = .ok (.iconst (-1), 1) by decide +kernel) (by decide) ?_
              refine X_ixor (show decode cX4_turnForRoute 63 = .ok (.ixor, 1) by decide +kernel) ?_
              refine X_iand (show decode cX4_turnForRoute 64 = .ok (.iand, 1) by decide +kernel) ?_
              refine X_putI fp_X4_24 (show decode cX4_turnForRoute 65 = .ok (.putfield 24, 3) by decide +kernel) (fun z => nomatch z) s9 rfl rfl ?_
              have w := w _ rfl
              refine X_goto (tgt := 94) (show decode cX4_turnForRoute 68 = .ok (.goto 26, 3) by decide +kernel) (by decide) ?_
              refine X_iload (j := 4) (show decode cX4_turnForRoute 94 = .ok (.iload 5, 2) by decide +kernel) rfl ?_
              refine X_istore_n (ls' := [(0, .ref _), (2, .int _), (3, .int _), (4, .int _), (5, .int _)]) (show decode cX4_turnForRoute 96 = .ok (.istore_n 3, 1) by decide +kernel) rfl (by decide) rfl ?_
              refine X_iinc (j := 3) (v := _ + (nI 1)) (ls' := [(0, .ref _), (2, .int _), (3, .int _), (4, .int _), (5, .int _)]) (show decode cX4_turnForRoute 97 = .ok (.iinc 4 1, 3) by decide +kernel) rfl rfl (Nat.le_of_ble_eq_true rfl) rfl ?_
              refine X_goto (tgt := 5) (show decode cX4_turnForRoute 100 = .ok (.goto (-95), 3) by decide +kernel) (by decide) ?_
              refine X_pick (ls' := [(0, .ref _), (2, .int _), (3, .int _), (4, .int _)]) [0, 1, 2, 3] rfl ?_
              exact ih _ _ _ _ _ w
set_option maxRecDepth 100000 in
set_option maxHeartbeats 4000000 in
theorem kX4_turnForRoute {a0 : Nat} {a1 : Int32} {a2 : Int32} {h : AH} {K : AH → Prop} (w : wX4_turnForRoute a0 a1 a2 h K) : Cn mX4_turnForRoute (cwd mX4_turnForRoute) 2 0 0 [.ref a0, .int a1, .int a2] h (KV K) T0 := by
  refine Cn_of (by decide +kernel) rfl (Nat.le_of_ble_eq_true rfl) ?_
  show X mX4_turnForRoute 2 (KV K) T0 0 0 0 [(0, .ref a0), (1, .int a1), (2, .int a2)] [] h
  unfold wX4_turnForRoute at w
  refine X_iload_n (j := 1) (show decode cX4_turnForRoute 0 = .ok (.iload_n 1, 1) by decide +kernel) rfl rfl ?_
  refine X_istore_n (ls' := [(0, .ref _), (1, .int _), (2, .int _), (3, .int _)]) (show decode cX4_turnForRoute 1 = .ok (.istore_n 3, 1) by decide +kernel) rfl (by decide) rfl ?_
  refine X_iconst (v := (nI 0)) (show decode cX4_turnForRoute 2 = .ok (.iconst 0, 1) by decide +kernel) (by decide) ?_
  refine X_istore (ls' := [(0, .ref _), (1, .int _), (2, .int _), (3, .int _), (4, .int _)]) (show decode cX4_turnForRoute 3 = .ok (.istore 4, 2) by decide +kernel) (by decide) rfl ?_
  refine X_pick (ls' := [(0, .ref _), (2, .int _), (3, .int _), (4, .int _)]) [0, 2, 3, 4] rfl ?_
  obtain ⟨n27, w⟩ := w
  exact kX4_turnForRoute_L5  n27 _ _ _ _ _ w
set_option maxRecDepth 100000 in
set_option maxHeartbeats 4000000 in
theorem kX4_exitOf {a0 : Nat} {a1 : Int32} {h : AH} {K : Int32 → AH → Prop} (w : wX4_exitOf a0 a1 h K) : Cn mX4_exitOf (cwd mX4_exitOf) 2 0 0 [.ref a0, .int a1] h (KI K) T0 := by
  refine Cn_of (by decide +kernel) rfl (Nat.le_of_ble_eq_true rfl) ?_
  show X mX4_exitOf 2 (KI K) T0 0 0 0 [(0, .ref a0), (1, .int a1)] [] h
  unfold wX4_exitOf at w
  refine X_aload_n (j := 0) (show decode cX4_exitOf 0 = .ok (.aload_n 0, 1) by decide +kernel) rfl rfl ?_
  refine X_iload_n (j := 1) (show decode cX4_exitOf 1 = .ok (.iload_n 1, 1) by decide +kernel) rfl rfl ?_
  obtain ⟨s14, w⟩ := w
  refine X_vI (rc' := 0) (rs' := 0) (as := [.int _]) mv_X4_57 (show decode cX4_exitOf 2 = .ok (.invokevirtual 57, 3) by decide +kernel) (by decide) (Nat.le_of_ble_eq_true rfl) (Nat.le_of_ble_eq_true rfl) rfl rfl (Nat.le_of_ble_eq_true rfl) (rcvD s14 (by decide) rfl) (kX4_has w) (fun E h hk => hk.elim) (fun r2 h1 w => ?_)
  refine X_if_ne (tgt := 10) (show decode cX4_exitOf 5 = .ok (.ifCond .ne 5, 3) by decide +kernel) (by decide) ⟨fun c3 => ?_, fun c3 => ?_⟩
  · have w := w.1 c3
    refine X_aload_n (j := 0) (show decode cX4_exitOf 10 = .ok (.aload_n 0, 1) by decide +kernel) rfl rfl ?_
    obtain ⟨s4, w⟩ := w
    refine X_getI fl_X4_24 (show decode cX4_exitOf 11 = .ok (.getfield 24, 3) by decide +kernel) s4 ?_
    refine X_iload_n (j := 1) (show decode cX4_exitOf 14 = .ok (.iload_n 1, 1) by decide +kernel) rfl rfl ?_
    refine X_nI (rc' := 0) (rs' := 0) (as := [.int _, .int _]) msn_X4_68 (show decode cX4_exitOf 15 = .ok (.invokestatic 68, 3) by decide +kernel) (by decide) (Nat.le_of_ble_eq_true rfl) (Nat.le_of_ble_eq_true rfl) rfl rfl (Nat.le_of_ble_eq_true rfl) (kX9_contains w) (fun r6 h5 w => ?_)
    refine X_if_eq (tgt := 30) (show decode cX4_exitOf 18 = .ok (.ifCond .eq 12, 3) by decide +kernel) (by decide) ⟨fun c7 => ?_, fun c7 => ?_⟩
    · have w := w.1 c7
      refine X_aload_n (j := 0) (show decode cX4_exitOf 30 = .ok (.aload_n 0, 1) by decide +kernel) rfl rfl ?_
      obtain ⟨s8, w⟩ := w
      refine X_getR fl_X4_31 (show decode cX4_exitOf 31 = .ok (.getfield 31, 3) by decide +kernel) s8 ?_
      refine X_iload_n (j := 1) (show decode cX4_exitOf 34 = .ok (.iload_n 1, 1) by decide +kernel) rfl rfl ?_
      obtain ⟨s9, w⟩ := w
      obtain ⟨s10, w⟩ := w
      refine X_iald (show decode cX4_exitOf 35 = .ok (.iaload, 1) by decide +kernel) (isA_eq s9) s10 ?_
      exact X_iret ⟨(show decode cX4_exitOf 36 = .ok (.ireturn, 1) by decide +kernel), .int, rfl, rfl⟩ ⟨_, rfl, w⟩
    · have w := w.2 c7
      refine X_aload_n (j := 0) (show decode cX4_exitOf 21 = .ok (.aload_n 0, 1) by decide +kernel) rfl rfl ?_
      obtain ⟨s11, w⟩ := w
      refine X_getR fl_X4_34 (show decode cX4_exitOf 22 = .ok (.getfield 34, 3) by decide +kernel) s11 ?_
      refine X_iload_n (j := 1) (show decode cX4_exitOf 25 = .ok (.iload_n 1, 1) by decide +kernel) rfl rfl ?_
      obtain ⟨s12, w⟩ := w
      obtain ⟨s13, w⟩ := w
      refine X_iald (show decode cX4_exitOf 26 = .ok (.iaload, 1) by decide +kernel) (isA_eq s12) s13 ?_
      refine X_goto (tgt := 36) (show decode cX4_exitOf 27 = .ok (.goto 9, 3) by decide +kernel) (by decide) ?_
      exact X_iret ⟨(show decode cX4_exitOf 36 = .ok (.ireturn, 1) by decide +kernel), .int, rfl, rfl⟩ ⟨_, rfl, w⟩
  · have w := w.2 c3
    refine X_iconst (v := (-1)) (show decode cX4_exitOf 8 = .ok (.iconst (-1), 1) by decide +kernel) (by decide) ?_
    exact X_iret ⟨(show decode cX4_exitOf 9 = .ok (.ireturn, 1) by decide +kernel), .int, rfl, rfl⟩ ⟨_, rfl, w⟩
set_option maxRecDepth 100000 in
set_option maxHeartbeats 4000000 in
theorem kX4_lengthOf {a0 : Nat} {a1 : Int32} {h : AH} {K : Int32 → AH → Prop} (w : wX4_lengthOf a0 a1 h K) : Cn mX4_lengthOf (cwd mX4_lengthOf) 2 0 0 [.ref a0, .int a1] h (KI K) T0 := by
  refine Cn_of (by decide +kernel) rfl (Nat.le_of_ble_eq_true rfl) ?_
  show X mX4_lengthOf 2 (KI K) T0 0 0 0 [(0, .ref a0), (1, .int a1)] [] h
  unfold wX4_lengthOf at w
  refine X_aload_n (j := 0) (show decode cX4_lengthOf 0 = .ok (.aload_n 0, 1) by decide +kernel) rfl rfl ?_
  refine X_iload_n (j := 1) (show decode cX4_lengthOf 1 = .ok (.iload_n 1, 1) by decide +kernel) rfl rfl ?_
  obtain ⟨s7, w⟩ := w
  refine X_vI (rc' := 0) (rs' := 0) (as := [.int _]) mv_X4_57 (show decode cX4_lengthOf 2 = .ok (.invokevirtual 57, 3) by decide +kernel) (by decide) (Nat.le_of_ble_eq_true rfl) (Nat.le_of_ble_eq_true rfl) rfl rfl (Nat.le_of_ble_eq_true rfl) (rcvD s7 (by decide) rfl) (kX4_has w) (fun E h hk => hk.elim) (fun r2 h1 w => ?_)
  refine X_if_eq (tgt := 17) (show decode cX4_lengthOf 5 = .ok (.ifCond .eq 12, 3) by decide +kernel) (by decide) ⟨fun c3 => ?_, fun c3 => ?_⟩
  · have w := w.1 c3
    refine X_iconst (v := (nI 0)) (show decode cX4_lengthOf 17 = .ok (.iconst 0, 1) by decide +kernel) (by decide) ?_
    exact X_iret ⟨(show decode cX4_lengthOf 18 = .ok (.ireturn, 1) by decide +kernel), .int, rfl, rfl⟩ ⟨_, rfl, w⟩
  · have w := w.2 c3
    refine X_aload_n (j := 0) (show decode cX4_lengthOf 8 = .ok (.aload_n 0, 1) by decide +kernel) rfl rfl ?_
    obtain ⟨s4, w⟩ := w
    refine X_getR fl_X4_27 (show decode cX4_lengthOf 9 = .ok (.getfield 27, 3) by decide +kernel) s4 ?_
    refine X_iload_n (j := 1) (show decode cX4_lengthOf 12 = .ok (.iload_n 1, 1) by decide +kernel) rfl rfl ?_
    obtain ⟨s5, w⟩ := w
    obtain ⟨s6, w⟩ := w
    refine X_iald (show decode cX4_lengthOf 13 = .ok (.iaload, 1) by decide +kernel) (isA_eq s5) s6 ?_
    refine X_goto (tgt := 18) (show decode cX4_lengthOf 14 = .ok (.goto 4, 3) by decide +kernel) (by decide) ?_
    exact X_iret ⟨(show decode cX4_lengthOf 18 = .ok (.ireturn, 1) by decide +kernel), .int, rfl, rfl⟩ ⟨_, rfl, w⟩
set_option maxRecDepth 100000 in
set_option maxHeartbeats 4000000 in
theorem kX7_reserveRoute {a0 : Nat} {a1 : Nat} {h : AH} {K : AH → Prop} (w : wX7_reserveRoute a0 a1 h K) : Cn mX7_reserveRoute (cwd mX7_reserveRoute) 3 0 0 [.ref a0, .ref a1] h (KV K) T0 := by
  refine Cn_of (by decide +kernel) rfl (Nat.le_of_ble_eq_true rfl) ?_
  show X mX7_reserveRoute 3 (KV K) T0 0 0 0 [(0, .ref a0), (1, .ref a1)] [] h
  unfold wX7_reserveRoute at w
  refine X_aload_n (j := 0) (show decode cX7_reserveRoute 0 = .ok (.aload_n 0, 1) by decide +kernel) rfl rfl ?_
  obtain ⟨s1, w⟩ := w
  refine X_getR fl_X7_12 (show decode cX7_reserveRoute 1 = .ok (.getfield 12, 3) by decide +kernel) s1 ?_
  refine X_aload_n (j := 1) (show decode cX7_reserveRoute 4 = .ok (.aload_n 1, 1) by decide +kernel) rfl rfl ?_
  obtain ⟨s2, w⟩ := w
  refine X_getI fl_X7_119 (show decode cX7_reserveRoute 5 = .ok (.getfield 119, 3) by decide +kernel) s2 ?_
  refine X_aload_n (j := 1) (show decode cX7_reserveRoute 8 = .ok (.aload_n 1, 1) by decide +kernel) rfl rfl ?_
  refine X_getI fl_X7_122 (show decode cX7_reserveRoute 9 = .ok (.getfield 122, 3) by decide +kernel) s2 ?_
  obtain ⟨s21, w⟩ := w
  refine X_vV (rc' := 0) (rs' := 0) (as := [.int _, .int _]) mv_X7_153 (show decode cX7_reserveRoute 12 = .ok (.invokevirtual 153, 3) by decide +kernel) (by decide) (Nat.le_of_ble_eq_true rfl) (Nat.le_of_ble_eq_true rfl) rfl rfl (Nat.le_of_ble_eq_true rfl) (rcvD s21 (by decide) rfl) (kX4_turnForRoute w) (fun E h hk => hk.elim) (fun h3 w => ?_)
  refine X_aload_n (j := 1) (show decode cX7_reserveRoute 15 = .ok (.aload_n 1, 1) by decide +kernel) rfl rfl ?_
  refine X_aload_n (j := 0) (show decode cX7_reserveRoute 16 = .ok (.aload_n 0, 1) by decide +kernel) rfl rfl ?_
  obtain ⟨s5, w⟩ := w
  refine X_getR fl_X7_12 (show decode cX7_reserveRoute 17 = .ok (.getfield 12, 3) by decide +kernel) s5 ?_
  refine X_aload_n (j := 1) (show decode cX7_reserveRoute 20 = .ok (.aload_n 1, 1) by decide +kernel) rfl rfl ?_
  obtain ⟨s6, w⟩ := w
  refine X_getI fl_X7_119 (show decode cX7_reserveRoute 21 = .ok (.getfield 119, 3) by decide +kernel) s6 ?_
  refine X_aload_n (j := 1) (show decode cX7_reserveRoute 24 = .ok (.aload_n 1, 1) by decide +kernel) rfl rfl ?_
  refine X_getI fl_X7_122 (show decode cX7_reserveRoute 25 = .ok (.getfield 122, 3) by decide +kernel) s6 ?_
  obtain ⟨s20, w⟩ := w
  refine X_vI (rc' := 0) (rs' := 0) (as := [.int _, .int _]) mv_X7_125 (show decode cX7_reserveRoute 28 = .ok (.invokevirtual 125, 3) by decide +kernel) (by decide) (Nat.le_of_ble_eq_true rfl) (Nat.le_of_ble_eq_true rfl) rfl rfl (Nat.le_of_ble_eq_true rfl) (rcvD s20 (by decide) rfl) (kX4_routeBlocks w) (fun E h hk => hk.elim) (fun r8 h7 w => ?_)
  obtain ⟨s9, w⟩ := w
  refine X_putI fp_X7_81 (show decode cX7_reserveRoute 31 = .ok (.putfield 81, 3) by decide +kernel) (fun z => nomatch z) s9 rfl rfl ?_
  have w := w _ rfl
  refine X_aload_n (j := 1) (show decode cX7_reserveRoute 34 = .ok (.aload_n 1, 1) by decide +kernel) rfl rfl ?_
  refine X_aload_n (j := 0) (show decode cX7_reserveRoute 35 = .ok (.aload_n 0, 1) by decide +kernel) rfl rfl ?_
  obtain ⟨s11, w⟩ := w
  refine X_getI fl_X7_41 (show decode cX7_reserveRoute 36 = .ok (.getfield 41, 3) by decide +kernel) s11 ?_
  refine X_aload_n (j := 0) (show decode cX7_reserveRoute 39 = .ok (.aload_n 0, 1) by decide +kernel) rfl rfl ?_
  refine X_getR fl_X7_12 (show decode cX7_reserveRoute 40 = .ok (.getfield 12, 3) by decide +kernel) s11 ?_
  refine X_aload_n (j := 0) (show decode cX7_reserveRoute 43 = .ok (.aload_n 0, 1) by decide +kernel) rfl rfl ?_
  refine X_getR fl_X7_12 (show decode cX7_reserveRoute 44 = .ok (.getfield 12, 3) by decide +kernel) s11 ?_
  refine X_aload_n (j := 1) (show decode cX7_reserveRoute 47 = .ok (.aload_n 1, 1) by decide +kernel) rfl rfl ?_
  refine X_getI fl_X7_119 (show decode cX7_reserveRoute 48 = .ok (.getfield 119, 3) by decide +kernel) s9 ?_
  obtain ⟨s19, w⟩ := w
  refine X_vI (rc' := 0) (rs' := 0) (as := [.int _]) mv_X7_157 (show decode cX7_reserveRoute 51 = .ok (.invokevirtual 157, 3) by decide +kernel) (by decide) (Nat.le_of_ble_eq_true rfl) (Nat.le_of_ble_eq_true rfl) rfl rfl (Nat.le_of_ble_eq_true rfl) (rcvD s19 (by decide) rfl) (kX4_exitOf w) (fun E h hk => hk.elim) (fun r13 h12 w => ?_)
  obtain ⟨s18, w⟩ := w
  refine X_vI (rc' := 0) (rs' := 0) (as := [.int _]) mv_X7_160 (show decode cX7_reserveRoute 54 = .ok (.invokevirtual 160, 3) by decide +kernel) (by decide) (Nat.le_of_ble_eq_true rfl) (Nat.le_of_ble_eq_true rfl) rfl rfl (Nat.le_of_ble_eq_true rfl) (rcvD s18 (by decide) rfl) (kX4_lengthOf w) (fun E h hk => hk.elim) (fun r15 h14 w => ?_)
  refine X_iadd (show decode cX7_reserveRoute 57 = .ok (.iadd, 1) by decide +kernel) ?_
  obtain ⟨s16, w⟩ := w
  refine X_putI fp_X7_163 (show decode cX7_reserveRoute 58 = .ok (.putfield 163, 3) by decide +kernel) (fun z => nomatch z) s16 rfl rfl ?_
  have w := w _ rfl
  exact X_vret ⟨(show decode cX7_reserveRoute 61 = .ok (.return_, 1) by decide +kernel), rfl⟩ ⟨rfl, w⟩
set_option maxRecDepth 100000 in
set_option maxHeartbeats 4000000 in
theorem kX4_totalLength_L4 {K : Int32 → AH → Prop}    : ∀ (n : Nat) (x0 : Nat) (x1 : Int32) (x2 : Int32) (x3 : Int32) (h : AH), wX4_totalLength_L4 K   n x0 x1 x2 x3 h → X mX4_totalLength 2 (KI K) T0 0 0 4 [(0, .ref x0), (1, .int x1), (2, .int x2), (3, .int x3)] [] h := by
  intro n
  induction n with
  | zero => intro _ _ _ _ _ w; exact w.elim
  | succ n ih =>
    intro x0 x1 x2 x3 h w
    rw [wX4_totalLength_L4] at w
    refine X_iload_n (j := 3) (show decode cX4_totalLength 4 = .ok (.iload_n 3, 1) by decide +kernel) rfl rfl ?_
    refine X_aload_n (j := 0) (show decode cX4_totalLength 5 = .ok (.aload_n 0, 1) by decide +kernel) rfl rfl ?_
    obtain ⟨s1, w⟩ := w
    refine X_getI fl_X4_9 (show decode cX4_totalLength 6 = .ok (.getfield 9, 3) by decide +kernel) s1 ?_
    refine X_icmp_ge (tgt := 35) (show decode cX4_totalLength 9 = .ok (.if_icmp .ge 26, 3) by decide +kernel) (by decide) ⟨fun c2 => ?_, fun c2 => ?_⟩
    · have w := w.1 c2
      refine X_iload_n (j := 2) (show decode cX4_totalLength 35 = .ok (.iload_n 2, 1) by decide +kernel) rfl rfl ?_
      exact X_iret ⟨(show decode cX4_totalLength 36 = .ok (.ireturn, 1) by decide +kernel), .int, rfl, rfl⟩ ⟨_, rfl, w⟩
    · have w := w.2 c2
      refine X_iload_n (j := 1) (show decode cX4_totalLength 12 = .ok (.iload_n 1, 1) by decide +kernel) rfl rfl ?_
      refine X_iload_n (j := 3) (show decode cX4_totalLength 13 = .ok (.iload_n 3, 1) by decide +kernel) rfl rfl ?_
      refine X_nI (rc' := 0) (rs' := 0) (as := [.int _, .int _]) msn_X4_68 (show decode cX4_totalLength 14 = .ok (.invokestatic 68, 3) by decide +kernel) (by decide) (Nat.le_of_ble_eq_true rfl) (Nat.le_of_ble_eq_true rfl) rfl rfl (Nat.le_of_ble_eq_true rfl) (kX9_contains w) (fun r4 h3 w => ?_)
      refine X_if_eq (tgt := 29) (show decode cX4_totalLength 17 = .ok (.ifCond .eq 12, 3) by decide +kernel) (by decide) ⟨fun c5 => ?_, fun c5 => ?_⟩
      · have w := w.1 c5
        refine X_iinc (j := 3) (v := _ + (nI 1)) (ls' := [(0, .ref _), (1, .int _), (2, .int _), (3, .int _)]) (show decode cX4_totalLength 29 = .ok (.iinc 3 1, 3) by decide +kernel) rfl rfl (Nat.le_of_ble_eq_true rfl) rfl ?_
        refine X_goto (tgt := 4) (show decode cX4_totalLength 32 = .ok (.goto (-28), 3) by decide +kernel) (by decide) ?_
        exact ih _ _ _ _ _ w
      · have w := w.2 c5
        refine X_iload_n (j := 2) (show decode cX4_totalLength 20 = .ok (.iload_n 2, 1) by decide +kernel) rfl rfl ?_
        refine X_aload_n (j := 0) (show decode cX4_totalLength 21 = .ok (.aload_n 0, 1) by decide +kernel) rfl rfl ?_
        obtain ⟨s6, w⟩ := w
        refine X_getR fl_X4_27 (show decode cX4_totalLength 22 = .ok (.getfield 27, 3) by decide +kernel) s6 ?_
        refine X_iload_n (j := 3) (show decode cX4_totalLength 25 = .ok (.iload_n 3, 1) by decide +kernel) rfl rfl ?_
        obtain ⟨s7, w⟩ := w
        obtain ⟨s8, w⟩ := w
        refine X_iald (show decode cX4_totalLength 26 = .ok (.iaload, 1) by decide +kernel) (isA_eq s7) s8 ?_
        refine X_iadd (show decode cX4_totalLength 27 = .ok (.iadd, 1) by decide +kernel) ?_
        refine X_topi (fun v9 e10 => ?_)
        have w := w v9 e10
        refine X_istore_n (ls' := [(0, .ref _), (1, .int _), (2, .int _), (3, .int _)]) (show decode cX4_totalLength 28 = .ok (.istore_n 2, 1) by decide +kernel) rfl (by decide) rfl ?_
        refine X_iinc (j := 3) (v := _ + (nI 1)) (ls' := [(0, .ref _), (1, .int _), (2, .int _), (3, .int _)]) (show decode cX4_totalLength 29 = .ok (.iinc 3 1, 3) by decide +kernel) rfl rfl (Nat.le_of_ble_eq_true rfl) rfl ?_
        refine X_goto (tgt := 4) (show decode cX4_totalLength 32 = .ok (.goto (-28), 3) by decide +kernel) (by decide) ?_
        exact ih _ _ _ _ _ w
set_option maxRecDepth 100000 in
set_option maxHeartbeats 4000000 in
theorem kX4_totalLength {a0 : Nat} {a1 : Int32} {h : AH} {K : Int32 → AH → Prop} (w : wX4_totalLength a0 a1 h K) : Cn mX4_totalLength (cwd mX4_totalLength) 2 0 0 [.ref a0, .int a1] h (KI K) T0 := by
  refine Cn_of (by decide +kernel) rfl (Nat.le_of_ble_eq_true rfl) ?_
  show X mX4_totalLength 2 (KI K) T0 0 0 0 [(0, .ref a0), (1, .int a1)] [] h
  unfold wX4_totalLength at w
  refine X_iconst (v := (nI 0)) (show decode cX4_totalLength 0 = .ok (.iconst 0, 1) by decide +kernel) (by decide) ?_
  refine X_istore_n (ls' := [(0, .ref _), (1, .int _), (2, .int _)]) (show decode cX4_totalLength 1 = .ok (.istore_n 2, 1) by decide +kernel) rfl (by decide) rfl ?_
  refine X_iconst (v := (nI 0)) (show decode cX4_totalLength 2 = .ok (.iconst 0, 1) by decide +kernel) (by decide) ?_
  refine X_istore_n (ls' := [(0, .ref _), (1, .int _), (2, .int _), (3, .int _)]) (show decode cX4_totalLength 3 = .ok (.istore_n 3, 1) by decide +kernel) rfl (by decide) rfl ?_
  obtain ⟨n11, w⟩ := w
  exact kX4_totalLength_L4  n11 _ _ _ _ _ w
set_option maxRecDepth 100000 in
set_option maxHeartbeats 4000000 in
theorem kX7_grantRoute {a0 : Nat} {a1 : Int32} {h : AH} {K : Int32 → AH → Prop} (w : wX7_grantRoute a0 a1 h K) : Cn mX7_grantRoute (cwd mX7_grantRoute) 4 0 0 [.ref a0, .int a1] h (KI K) T0 := by
  refine Cn_of (by decide +kernel) rfl (Nat.le_of_ble_eq_true rfl) ?_
  show X mX7_grantRoute 4 (KI K) T0 0 0 0 [(0, .ref a0), (1, .int a1)] [] h
  unfold wX7_grantRoute at w
  refine X_aload_n (j := 0) (show decode cX7_grantRoute 0 = .ok (.aload_n 0, 1) by decide +kernel) rfl rfl ?_
  refine X_iload_n (j := 1) (show decode cX7_grantRoute 1 = .ok (.iload_n 1, 1) by decide +kernel) rfl rfl ?_
  obtain ⟨s23, w⟩ := w
  refine X_vR (rc' := 0) (rs' := 0) (as := [.int _]) mv_X7_136 (show decode cX7_grantRoute 2 = .ok (.invokevirtual 136, 3) by decide +kernel) (by decide) (Nat.le_of_ble_eq_true rfl) (Nat.le_of_ble_eq_true rfl) rfl rfl (Nat.le_of_ble_eq_true rfl) (rcvD s23 (by decide) rfl) (kX7_find w) (fun E h hk => hk.elim) (fun r2 h1 w => ?_)
  refine X_astore_n (ls' := [(0, .ref _), (1, .int _), (2, .ref _)]) (show decode cX7_grantRoute 5 = .ok (.astore_n 2, 1) by decide +kernel) rfl (by decide) rfl ?_
  refine X_aload_n (j := 2) (show decode cX7_grantRoute 6 = .ok (.aload_n 2, 1) by decide +kernel) rfl rfl ?_
  refine X_ifnonnull (tgt := 13) (show decode cX7_grantRoute 7 = .ok (.ifnonnull 6, 3) by decide +kernel) (by decide) ⟨fun c3 => ?_, fun c3 => ?_⟩
  · have w := w.1 c3
    refine X_bipush (v := (-4)) (show decode cX7_grantRoute 10 = .ok (.bipush (-4), 2) by decide +kernel) (by decide) ?_
    exact X_iret ⟨(show decode cX7_grantRoute 12 = .ok (.ireturn, 1) by decide +kernel), .int, rfl, rfl⟩ ⟨_, rfl, w⟩
  · have w := w.2 c3
    refine X_aload_n (j := 2) (show decode cX7_grantRoute 13 = .ok (.aload_n 2, 1) by decide +kernel) rfl rfl ?_
    obtain ⟨s22, w⟩ := w
    refine X_vI (rc' := 0) (rs' := 0) (as := []) mv_X7_129 (show decode cX7_grantRoute 14 = .ok (.invokevirtual 129, 3) by decide +kernel) (by decide) (Nat.le_of_ble_eq_true rfl) (Nat.le_of_ble_eq_true rfl) rfl rfl (Nat.le_of_ble_eq_true rfl) (rcvD s22 (by decide) rfl) (kX8_isRouted w) (fun E h hk => hk.elim) (fun r5 h4 w => ?_)
    refine X_if_eq (tgt := 23) (show decode cX7_grantRoute 17 = .ok (.ifCond .eq 6, 3) by decide +kernel) (by decide) ⟨fun c6 => ?_, fun c6 => ?_⟩
    · have w := w.1 c6
      refine X_aload_n (j := 0) (show decode cX7_grantRoute 23 = .ok (.aload_n 0, 1) by decide +kernel) rfl rfl ?_
      refine X_aload_n (j := 2) (show decode cX7_grantRoute 24 = .ok (.aload_n 2, 1) by decide +kernel) rfl rfl ?_
      obtain ⟨s21, w⟩ := w
      refine X_vI (rc' := 0) (rs' := 0) (as := [.ref _]) mv_X7_140 (show decode cX7_grantRoute 25 = .ok (.invokevirtual 140, 3) by decide +kernel) (by decide) (Nat.le_of_ble_eq_true rfl) (Nat.le_of_ble_eq_true rfl) rfl rfl (Nat.le_of_ble_eq_true rfl) (rcvD s21 (by decide) rfl) (kX7_canSet w) (fun E h hk => hk.elim) (fun r8 h7 w => ?_)
      refine X_if_ne (tgt := 34) (show decode cX7_grantRoute 28 = .ok (.ifCond .ne 6, 3) by decide +kernel) (by decide) ⟨fun c9 => ?_, fun c9 => ?_⟩
      · have w := w.1 c9
        refine X_aload_n (j := 0) (show decode cX7_grantRoute 34 = .ok (.aload_n 0, 1) by decide +kernel) rfl rfl ?_
        refine X_iload_n (j := 1) (show decode cX7_grantRoute 35 = .ok (.iload_n 1, 1) by decide +kernel) rfl rfl ?_
        obtain ⟨s20, w⟩ := w
        refine X_vV (rc' := 0) (rs' := 0) (as := [.int _]) mv_X7_144 (show decode cX7_grantRoute 36 = .ok (.invokevirtual 144, 3) by decide +kernel) (by decide) (Nat.le_of_ble_eq_true rfl) (Nat.le_of_ble_eq_true rfl) rfl rfl (Nat.le_of_ble_eq_true rfl) (rcvD s20 (by decide) rfl) (kX7_leaveQueue w) (fun E h hk => hk.elim) (fun h10 w => ?_)
        refine X_aload_n (j := 0) (show decode cX7_grantRoute 39 = .ok (.aload_n 0, 1) by decide +kernel) rfl rfl ?_
        refine X_aload_n (j := 2) (show decode cX7_grantRoute 40 = .ok (.aload_n 2, 1) by decide +kernel) rfl rfl ?_
        obtain ⟨s19, w⟩ := w
        refine X_vV (rc' := 0) (rs' := 0) (as := [.ref _]) mv_X7_147 (show decode cX7_grantRoute 41 = .ok (.invokevirtual 147, 3) by decide +kernel) (by decide) (Nat.le_of_ble_eq_true rfl) (Nat.le_of_ble_eq_true rfl) rfl rfl (Nat.le_of_ble_eq_true rfl) (rcvD s19 (by decide) rfl) (kX7_reserveRoute w) (fun E h hk => hk.elim) (fun h12 w => ?_)
        refine X_aload_n (j := 0) (show decode cX7_grantRoute 44 = .ok (.aload_n 0, 1) by decide +kernel) rfl rfl ?_
        obtain ⟨s14, w⟩ := w
        refine X_getR fl_X7_12 (show decode cX7_grantRoute 45 = .ok (.getfield 12, 3) by decide +kernel) s14 ?_
        refine X_aload_n (j := 2) (show decode cX7_grantRoute 48 = .ok (.aload_n 2, 1) by decide +kernel) rfl rfl ?_
        obtain ⟨s15, w⟩ := w
        refine X_getI fl_X7_81 (show decode cX7_grantRoute 49 = .ok (.getfield 81, 3) by decide +kernel) s15 ?_
        obtain ⟨s18, w⟩ := w
        refine X_vI (rc' := 0) (rs' := 0) (as := [.int _]) mv_X7_150 (show decode cX7_grantRoute 52 = .ok (.invokevirtual 150, 3) by decide +kernel) (by decide) (Nat.le_of_ble_eq_true rfl) (Nat.le_of_ble_eq_true rfl) rfl rfl (Nat.le_of_ble_eq_true rfl) (rcvD s18 (by decide) rfl) (kX4_totalLength w) (fun E h hk => hk.elim) (fun r17 h16 w => ?_)
        exact X_iret ⟨(show decode cX7_grantRoute 55 = .ok (.ireturn, 1) by decide +kernel), .int, rfl, rfl⟩ ⟨_, rfl, w⟩
      · have w := w.2 c9
        refine X_bipush (v := (-5)) (show decode cX7_grantRoute 31 = .ok (.bipush (-5), 2) by decide +kernel) (by decide) ?_
        exact X_iret ⟨(show decode cX7_grantRoute 33 = .ok (.ireturn, 1) by decide +kernel), .int, rfl, rfl⟩ ⟨_, rfl, w⟩
    · have w := w.2 c6
      refine X_bipush (v := (-3)) (show decode cX7_grantRoute 20 = .ok (.bipush (-3), 2) by decide +kernel) (by decide) ?_
      exact X_iret ⟨(show decode cX7_grantRoute 22 = .ok (.ireturn, 1) by decide +kernel), .int, rfl, rfl⟩ ⟨_, rfl, w⟩
set_option maxRecDepth 100000 in
set_option maxHeartbeats 4000000 in
theorem kX4_nextOnRoute {a0 : Nat} {a1 : Int32} {a2 : Int32} {h : AH} {K : Int32 → AH → Prop} (w : wX4_nextOnRoute a0 a1 a2 h K) : Cn mX4_nextOnRoute (cwd mX4_nextOnRoute) 2 0 0 [.ref a0, .int a1, .int a2] h (KI K) T0 := by
  refine Cn_of (by decide +kernel) rfl (Nat.le_of_ble_eq_true rfl) ?_
  show X mX4_nextOnRoute 2 (KI K) T0 0 0 0 [(0, .ref a0), (1, .int a1), (2, .int a2)] [] h
  unfold wX4_nextOnRoute at w
  refine X_aload_n (j := 0) (show decode cX4_nextOnRoute 0 = .ok (.aload_n 0, 1) by decide +kernel) rfl rfl ?_
  refine X_iload_n (j := 1) (show decode cX4_nextOnRoute 1 = .ok (.iload_n 1, 1) by decide +kernel) rfl rfl ?_
  obtain ⟨s14, w⟩ := w
  refine X_vI (rc' := 0) (rs' := 0) (as := [.int _]) mv_X4_57 (show decode cX4_nextOnRoute 2 = .ok (.invokevirtual 57, 3) by decide +kernel) (by decide) (Nat.le_of_ble_eq_true rfl) (Nat.le_of_ble_eq_true rfl) rfl rfl (Nat.le_of_ble_eq_true rfl) (rcvD s14 (by decide) rfl) (kX4_has w) (fun E h hk => hk.elim) (fun r2 h1 w => ?_)
  refine X_if_eq (tgt := 27) (show decode cX4_nextOnRoute 5 = .ok (.ifCond .eq 22, 3) by decide +kernel) (by decide) ⟨fun c3 => ?_, fun c3 => ?_⟩
  · have w := w.1 c3
    refine X_iconst (v := (-1)) (show decode cX4_nextOnRoute 27 = .ok (.iconst (-1), 1) by decide +kernel) (by decide) ?_
    exact X_iret ⟨(show decode cX4_nextOnRoute 28 = .ok (.ireturn, 1) by decide +kernel), .int, rfl, rfl⟩ ⟨_, rfl, w⟩
  · have w := w.2 c3
    refine X_aload_n (j := 0) (show decode cX4_nextOnRoute 8 = .ok (.aload_n 0, 1) by decide +kernel) rfl rfl ?_
    refine X_iload_n (j := 2) (show decode cX4_nextOnRoute 9 = .ok (.iload_n 2, 1) by decide +kernel) rfl rfl ?_
    obtain ⟨s13, w⟩ := w
    refine X_vI (rc' := 0) (rs' := 0) (as := [.int _]) mv_X4_57 (show decode cX4_nextOnRoute 10 = .ok (.invokevirtual 57, 3) by decide +kernel) (by decide) (Nat.le_of_ble_eq_true rfl) (Nat.le_of_ble_eq_true rfl) rfl rfl (Nat.le_of_ble_eq_true rfl) (rcvD s13 (by decide) rfl) (kX4_has w) (fun E h hk => hk.elim) (fun r5 h4 w => ?_)
    refine X_if_eq (tgt := 27) (show decode cX4_nextOnRoute 13 = .ok (.ifCond .eq 14, 3) by decide +kernel) (by decide) ⟨fun c6 => ?_, fun c6 => ?_⟩
    · have w := w.1 c6
      refine X_iconst (v := (-1)) (show decode cX4_nextOnRoute 27 = .ok (.iconst (-1), 1) by decide +kernel) (by decide) ?_
      exact X_iret ⟨(show decode cX4_nextOnRoute 28 = .ok (.ireturn, 1) by decide +kernel), .int, rfl, rfl⟩ ⟨_, rfl, w⟩
    · have w := w.2 c6
      refine X_aload_n (j := 0) (show decode cX4_nextOnRoute 16 = .ok (.aload_n 0, 1) by decide +kernel) rfl rfl ?_
      obtain ⟨s7, w⟩ := w
      refine X_getR fl_X4_42 (show decode cX4_nextOnRoute 17 = .ok (.getfield 42, 3) by decide +kernel) s7 ?_
      refine X_iload_n (j := 2) (show decode cX4_nextOnRoute 20 = .ok (.iload_n 2, 1) by decide +kernel) rfl rfl ?_
      obtain ⟨s8, w⟩ := w
      obtain ⟨s9, w⟩ := w
      obtain ⟨s10, w⟩ := w
      refine X_aaldA (show decode cX4_nextOnRoute 21 = .ok (.aaload, 1) by decide +kernel) (isA_eq s8) s9 s10 ?_
      refine X_iload_n (j := 1) (show decode cX4_nextOnRoute 22 = .ok (.iload_n 1, 1) by decide +kernel) rfl rfl ?_
      obtain ⟨s11, w⟩ := w
      obtain ⟨s12, w⟩ := w
      refine X_iald (show decode cX4_nextOnRoute 23 = .ok (.iaload, 1) by decide +kernel) (isA_eq s11) s12 ?_
      refine X_goto (tgt := 28) (show decode cX4_nextOnRoute 24 = .ok (.goto 4, 3) by decide +kernel) (by decide) ?_
      exact X_iret ⟨(show decode cX4_nextOnRoute 28 = .ok (.ireturn, 1) by decide +kernel), .int, rfl, rfl⟩ ⟨_, rfl, w⟩
set_option maxRecDepth 100000 in
set_option maxHeartbeats 4000000 in
theorem kX7_firstNotFree_L32 {K : Int32 → AH → Prop}    : ∀ (n : Nat) (x0 : Nat) (x1 : Nat) (x2 : Int32) (x3 : Int32) (x4 : Int32) (h : AH), wX7_firstNotFree_L32 K   n x0 x1 x2 x3 x4 h → X mX7_firstNotFree 3 (KI K) T0 0 0 32 [(0, .ref x0), (1, .ref x1), (2, .int x2), (3, .int x3), (4, .int x4)] [] h := by
  intro n
  induction n with
  | zero => intro _ _ _ _ _ _ w; exact w.elim
  | succ n ih =>
    intro x0 x1 x2 x3 x4 h w
    rw [wX7_firstNotFree_L32] at w
    refine X_iload (j := 4) (show decode cX7_firstNotFree 32 = .ok (.iload 4, 2) by decide +kernel) rfl ?_
    refine X_bipush (v := (nI 12)) (show decode cX7_firstNotFree 34 = .ok (.bipush 12, 2) by decide +kernel) (by decide) ?_
    refine X_icmp_ge (tgt := 73) (show decode cX7_firstNotFree 36 = .ok (.if_icmp .ge 37, 3) by decide +kernel) (by decide) ⟨fun c9 => ?_, fun c9 => ?_⟩
    · have w := w.1 c9
      refine X_iconst (v := (-1)) (show decode cX7_firstNotFree 73 = .ok (.iconst (-1), 1) by decide +kernel) (by decide) ?_
      exact X_iret ⟨(show decode cX7_firstNotFree 74 = .ok (.ireturn, 1) by decide +kernel), .int, rfl, rfl⟩ ⟨_, rfl, w⟩
    · have w := w.2 c9
      refine X_iload_n (j := 3) (show decode cX7_firstNotFree 39 = .ok (.iload_n 3, 1) by decide +kernel) rfl rfl ?_
      refine X_iconst (v := (-1)) (show decode cX7_firstNotFree 40 = .ok (.iconst (-1), 1) by decide +kernel) (by decide) ?_
      refine X_icmp_eq (tgt := 73) (show decode cX7_firstNotFree 41 = .ok (.if_icmp .eq 32, 3) by decide +kernel) (by decide) ⟨fun c10 => ?_, fun c10 => ?_⟩
      · have w := w.1 c10
        refine X_iconst (v := (-1)) (show decode cX7_firstNotFree 73 = .ok (.iconst (-1), 1) by decide +kernel) (by decide) ?_
        exact X_iret ⟨(show decode cX7_firstNotFree 74 = .ok (.ireturn, 1) by decide +kernel), .int, rfl, rfl⟩ ⟨_, rfl, w⟩
      · have w := w.2 c10
        refine X_iload_n (j := 2) (show decode cX7_firstNotFree 44 = .ok (.iload_n 2, 1) by decide +kernel) rfl rfl ?_
        refine X_iload_n (j := 3) (show decode cX7_firstNotFree 45 = .ok (.iload_n 3, 1) by decide +kernel) rfl rfl ?_
        refine X_nI (rc' := 0) (rs' := 0) (as := [.int _, .int _]) msn_X7_69 (show decode cX7_firstNotFree 46 = .ok (.invokestatic 69, 3) by decide +kernel) (by decide) (Nat.le_of_ble_eq_true rfl) (Nat.le_of_ble_eq_true rfl) rfl rfl (Nat.le_of_ble_eq_true rfl) (kX9_contains w) (fun r12 h11 w => ?_)
        refine X_if_eq (tgt := 54) (show decode cX7_firstNotFree 49 = .ok (.ifCond .eq 5, 3) by decide +kernel) (by decide) ⟨fun c13 => ?_, fun c13 => ?_⟩
        · have w := w.1 c13
          refine X_aload_n (j := 0) (show decode cX7_firstNotFree 54 = .ok (.aload_n 0, 1) by decide +kernel) rfl rfl ?_
          obtain ⟨s14, w⟩ := w
          refine X_getR fl_X7_12 (show decode cX7_firstNotFree 55 = .ok (.getfield 12, 3) by decide +kernel) s14 ?_
          refine X_iload_n (j := 3) (show decode cX7_firstNotFree 58 = .ok (.iload_n 3, 1) by decide +kernel) rfl rfl ?_
          refine X_aload_n (j := 1) (show decode cX7_firstNotFree 59 = .ok (.aload_n 1, 1) by decide +kernel) rfl rfl ?_
          obtain ⟨s15, w⟩ := w
          refine X_getI fl_X7_122 (show decode cX7_firstNotFree 60 = .ok (.getfield 122, 3) by decide +kernel) s15 ?_
          obtain ⟨s18, w⟩ := w
          refine X_vI (rc' := 0) (rs' := 0) (as := [.int _, .int _]) mv_X7_133 (show decode cX7_firstNotFree 63 = .ok (.invokevirtual 133, 3) by decide +kernel) (by decide) (Nat.le_of_ble_eq_true rfl) (Nat.le_of_ble_eq_true rfl) rfl rfl (Nat.le_of_ble_eq_true rfl) (rcvD s18 (by decide) rfl) (kX4_nextOnRoute w) (fun E h hk => hk.elim) (fun r17 h16 w => ?_)
          refine X_istore_n (ls' := [(0, .ref _), (1, .ref _), (2, .int _), (3, .int _), (4, .int _)]) (show decode cX7_firstNotFree 66 = .ok (.istore_n 3, 1) by decide +kernel) rfl (by decide) rfl ?_
          refine X_iinc (j := 4) (v := _ + (nI 1)) (ls' := [(0, .ref _), (1, .ref _), (2, .int _), (3, .int _), (4, .int _)]) (show decode cX7_firstNotFree 67 = .ok (.iinc 4 1, 3) by decide +kernel) rfl rfl (Nat.le_of_ble_eq_true rfl) rfl ?_
          refine X_goto (tgt := 32) (show decode cX7_firstNotFree 70 = .ok (.goto (-38), 3) by decide +kernel) (by decide) ?_
          exact ih _ _ _ _ _ _ w
        · have w := w.2 c13
          refine X_iload_n (j := 3) (show decode cX7_firstNotFree 52 = .ok (.iload_n 3, 1) by decide +kernel) rfl rfl ?_
          exact X_iret ⟨(show decode cX7_firstNotFree 53 = .ok (.ireturn, 1) by decide +kernel), .int, rfl, rfl⟩ ⟨_, rfl, w⟩
set_option maxRecDepth 100000 in
set_option maxHeartbeats 4000000 in
theorem kX7_firstNotFree {a0 : Nat} {a1 : Nat} {h : AH} {K : Int32 → AH → Prop} (w : wX7_firstNotFree a0 a1 h K) : Cn mX7_firstNotFree (cwd mX7_firstNotFree) 3 0 0 [.ref a0, .ref a1] h (KI K) T0 := by
  refine Cn_of (by decide +kernel) rfl (Nat.le_of_ble_eq_true rfl) ?_
  show X mX7_firstNotFree 3 (KI K) T0 0 0 0 [(0, .ref a0), (1, .ref a1)] [] h
  unfold wX7_firstNotFree at w
  refine X_aload_n (j := 0) (show decode cX7_firstNotFree 0 = .ok (.aload_n 0, 1) by decide +kernel) rfl rfl ?_
  obtain ⟨s1, w⟩ := w
  refine X_getR fl_X7_12 (show decode cX7_firstNotFree 1 = .ok (.getfield 12, 3) by decide +kernel) s1 ?_
  obtain ⟨s2, w⟩ := w
  refine X_getI fl_X7_84 (show decode cX7_firstNotFree 4 = .ok (.getfield 84, 3) by decide +kernel) s2 ?_
  refine X_aload_n (j := 0) (show decode cX7_firstNotFree 7 = .ok (.aload_n 0, 1) by decide +kernel) rfl rfl ?_
  refine X_vI (rc' := 0) (rs' := 0) (as := []) mv_X7_90 (show decode cX7_firstNotFree 8 = .ok (.invokevirtual 90, 3) by decide +kernel) (by decide) (Nat.le_of_ble_eq_true rfl) (Nat.le_of_ble_eq_true rfl) rfl rfl (Nat.le_of_ble_eq_true rfl) (rcvD s1 (by decide) rfl) (kX7_held w) (fun E h hk => hk.elim) (fun r4 h3 w => ?_)
  refine X_ior (show decode cX7_firstNotFree 11 = .ok (.ior, 1) by decide +kernel) ?_
  refine X_istore_n (ls' := [(0, .ref _), (1, .ref _), (2, .int _)]) (show decode cX7_firstNotFree 12 = .ok (.istore_n 2, 1) by decide +kernel) rfl (by decide) rfl ?_
  refine X_aload_n (j := 0) (show decode cX7_firstNotFree 13 = .ok (.aload_n 0, 1) by decide +kernel) rfl rfl ?_
  obtain ⟨s5, w⟩ := w
  refine X_getR fl_X7_12 (show decode cX7_firstNotFree 14 = .ok (.getfield 12, 3) by decide +kernel) s5 ?_
  refine X_aload_n (j := 1) (show decode cX7_firstNotFree 17 = .ok (.aload_n 1, 1) by decide +kernel) rfl rfl ?_
  obtain ⟨s6, w⟩ := w
  refine X_getI fl_X7_119 (show decode cX7_firstNotFree 18 = .ok (.getfield 119, 3) by decide +kernel) s6 ?_
  refine X_aload_n (j := 1) (show decode cX7_firstNotFree 21 = .ok (.aload_n 1, 1) by decide +kernel) rfl rfl ?_
  refine X_getI fl_X7_122 (show decode cX7_firstNotFree 22 = .ok (.getfield 122, 3) by decide +kernel) s6 ?_
  obtain ⟨s20, w⟩ := w
  refine X_vI (rc' := 0) (rs' := 0) (as := [.int _, .int _]) mv_X7_133 (show decode cX7_firstNotFree 25 = .ok (.invokevirtual 133, 3) by decide +kernel) (by decide) (Nat.le_of_ble_eq_true rfl) (Nat.le_of_ble_eq_true rfl) rfl rfl (Nat.le_of_ble_eq_true rfl) (rcvD s20 (by decide) rfl) (kX4_nextOnRoute w) (fun E h hk => hk.elim) (fun r8 h7 w => ?_)
  refine X_istore_n (ls' := [(0, .ref _), (1, .ref _), (2, .int _), (3, .int _)]) (show decode cX7_firstNotFree 28 = .ok (.istore_n 3, 1) by decide +kernel) rfl (by decide) rfl ?_
  refine X_iconst (v := (nI 0)) (show decode cX7_firstNotFree 29 = .ok (.iconst 0, 1) by decide +kernel) (by decide) ?_
  refine X_istore (ls' := [(0, .ref _), (1, .ref _), (2, .int _), (3, .int _), (4, .int _)]) (show decode cX7_firstNotFree 30 = .ok (.istore 4, 2) by decide +kernel) (by decide) rfl ?_
  obtain ⟨n19, w⟩ := w
  exact kX7_firstNotFree_L32  n19 _ _ _ _ _ _ w
set_option maxRecDepth 100000 in
set_option maxHeartbeats 4000000 in
theorem kX7_stateOf {a0 : Nat} {a1 : Int32} {h : AH} {K : Int32 → AH → Prop} (w : wX7_stateOf a0 a1 h K) : Cn mX7_stateOf (cwd mX7_stateOf) 3 0 0 [.ref a0, .int a1] h (KI K) T0 := by
  refine Cn_of (by decide +kernel) rfl (Nat.le_of_ble_eq_true rfl) ?_
  show X mX7_stateOf 3 (KI K) T0 0 0 0 [(0, .ref a0), (1, .int a1)] [] h
  unfold wX7_stateOf at w
  refine X_aload_n (j := 0) (show decode cX7_stateOf 0 = .ok (.aload_n 0, 1) by decide +kernel) rfl rfl ?_
  obtain ⟨s1, w⟩ := w
  refine X_getR fl_X7_12 (show decode cX7_stateOf 1 = .ok (.getfield 12, 3) by decide +kernel) s1 ?_
  obtain ⟨s2, w⟩ := w
  refine X_getI fl_X7_84 (show decode cX7_stateOf 4 = .ok (.getfield 84, 3) by decide +kernel) s2 ?_
  refine X_iload_n (j := 1) (show decode cX7_stateOf 7 = .ok (.iload_n 1, 1) by decide +kernel) rfl rfl ?_
  refine X_nI (rc' := 0) (rs' := 0) (as := [.int _, .int _]) msn_X7_69 (show decode cX7_stateOf 8 = .ok (.invokestatic 69, 3) by decide +kernel) (by decide) (Nat.le_of_ble_eq_true rfl) (Nat.le_of_ble_eq_true rfl) rfl rfl (Nat.le_of_ble_eq_true rfl) (kX9_contains w) (fun r4 h3 w => ?_)
  refine X_if_eq (tgt := 17) (show decode cX7_stateOf 11 = .ok (.ifCond .eq 6, 3) by decide +kernel) (by decide) ⟨fun c5 => ?_, fun c5 => ?_⟩
  · have w := w.1 c5
    refine X_aload_n (j := 0) (show decode cX7_stateOf 17 = .ok (.aload_n 0, 1) by decide +kernel) rfl rfl ?_
    refine X_iload_n (j := 1) (show decode cX7_stateOf 18 = .ok (.iload_n 1, 1) by decide +kernel) rfl rfl ?_
    obtain ⟨s15, w⟩ := w
    refine X_vI (rc' := 0) (rs' := 0) (as := [.int _]) mv_X7_87 (show decode cX7_stateOf 19 = .ok (.invokevirtual 87, 3) by decide +kernel) (by decide) (Nat.le_of_ble_eq_true rfl) (Nat.le_of_ble_eq_true rfl) rfl rfl (Nat.le_of_ble_eq_true rfl) (rcvD s15 (by decide) rfl) (kX7_isReserved w) (fun E h hk => hk.elim) (fun r7 h6 w => ?_)
    refine X_if_eq (tgt := 28) (show decode cX7_stateOf 22 = .ok (.ifCond .eq 6, 3) by decide +kernel) (by decide) ⟨fun c8 => ?_, fun c8 => ?_⟩
    · have w := w.1 c8
      refine X_aload_n (j := 0) (show decode cX7_stateOf 28 = .ok (.aload_n 0, 1) by decide +kernel) rfl rfl ?_
      obtain ⟨s14, w⟩ := w
      refine X_vI (rc' := 0) (rs' := 0) (as := []) mv_X7_90 (show decode cX7_stateOf 29 = .ok (.invokevirtual 90, 3) by decide +kernel) (by decide) (Nat.le_of_ble_eq_true rfl) (Nat.le_of_ble_eq_true rfl) rfl rfl (Nat.le_of_ble_eq_true rfl) (rcvD s14 (by decide) rfl) (kX7_held w) (fun E h hk => hk.elim) (fun r10 h9 w => ?_)
      refine X_iload_n (j := 1) (show decode cX7_stateOf 32 = .ok (.iload_n 1, 1) by decide +kernel) rfl rfl ?_
      refine X_nI (rc' := 0) (rs' := 0) (as := [.int _, .int _]) msn_X7_69 (show decode cX7_stateOf 33 = .ok (.invokestatic 69, 3) by decide +kernel) (by decide) (Nat.le_of_ble_eq_true rfl) (Nat.le_of_ble_eq_true rfl) rfl rfl (Nat.le_of_ble_eq_true rfl) (kX9_contains w) (fun r12 h11 w => ?_)
      refine X_if_eq (tgt := 44) (show decode cX7_stateOf 36 = .ok (.ifCond .eq 8, 3) by decide +kernel) (by decide) ⟨fun c13 => ?_, fun c13 => ?_⟩
      · have w := w.1 c13
        refine X_bipush (v := (nI 102)) (show decode cX7_stateOf 44 = .ok (.bipush 102, 2) by decide +kernel) (by decide) ?_
        exact X_iret ⟨(show decode cX7_stateOf 46 = .ok (.ireturn, 1) by decide +kernel), .char, rfl, (by decide)⟩ ⟨_, rfl, w⟩
      · have w := w.2 c13
        refine X_bipush (v := (nI 111)) (show decode cX7_stateOf 39 = .ok (.bipush 111, 2) by decide +kernel) (by decide) ?_
        refine X_goto (tgt := 46) (show decode cX7_stateOf 41 = .ok (.goto 5, 3) by decide +kernel) (by decide) ?_
        exact X_iret ⟨(show decode cX7_stateOf 46 = .ok (.ireturn, 1) by decide +kernel), .char, rfl, (by decide)⟩ ⟨_, rfl, w⟩
    · have w := w.2 c8
      refine X_bipush (v := (nI 114)) (show decode cX7_stateOf 25 = .ok (.bipush 114, 2) by decide +kernel) (by decide) ?_
      exact X_iret ⟨(show decode cX7_stateOf 27 = .ok (.ireturn, 1) by decide +kernel), .char, rfl, (by decide)⟩ ⟨_, rfl, w⟩
  · have w := w.2 c5
    refine X_bipush (v := (nI 115)) (show decode cX7_stateOf 14 = .ok (.bipush 115, 2) by decide +kernel) (by decide) ?_
    exact X_iret ⟨(show decode cX7_stateOf 16 = .ok (.ireturn, 1) by decide +kernel), .char, rfl, (by decide)⟩ ⟨_, rfl, w⟩
set_option maxRecDepth 100000 in
set_option maxHeartbeats 4000000 in
theorem kX9_recordRefusal_J41 {K : AH → Prop}   (y0 : Nat) (y1 : Int32) (h : AH) (w : wX9_recordRefusal_J41 K  y0 y1 h) : X mX9_recordRefusal 4 (KV K) T0 0 0 41 [] [.int y1, .ref y0] h := by
  unfold wX9_recordRefusal_J41 at w
  obtain ⟨s10, w⟩ := w
  obtain ⟨s12, w⟩ := w
  obtain ⟨s13, w⟩ := w
  refine X_putI fp_X9_54 (show decode cX9_recordRefusal 41 = .ok (.putfield 54, 3) by decide +kernel) (fun z => nomatch z) s10 s12 s13 ?_
  have w := w _ rfl
  exact X_vret ⟨(show decode cX9_recordRefusal 44 = .ok (.return_, 1) by decide +kernel), rfl⟩ ⟨rfl, w⟩
set_option maxRecDepth 100000 in
set_option maxHeartbeats 4000000 in
theorem kX9_recordRefusal {a0 : Nat} {a1 : Nat} {h : AH} {K : AH → Prop} (w : wX9_recordRefusal a0 a1 h K) : Cn mX9_recordRefusal (cwd mX9_recordRefusal) 4 0 0 [.ref a0, .ref a1] h (KV K) T0 := by
  refine Cn_of (by decide +kernel) rfl (Nat.le_of_ble_eq_true rfl) ?_
  show X mX9_recordRefusal 4 (KV K) T0 0 0 0 [(0, .ref a0), (1, .ref a1)] [] h
  unfold wX9_recordRefusal at w
  refine X_aload_n (j := 1) (show decode cX9_recordRefusal 0 = .ok (.aload_n 1, 1) by decide +kernel) rfl rfl ?_
  refine X_ifnull (tgt := 44) (show decode cX9_recordRefusal 1 = .ok (.ifnull 43, 3) by decide +kernel) (by decide) ⟨fun c1 => ?_, fun c1 => ?_⟩
  · have w := w.1 c1
    exact X_vret ⟨(show decode cX9_recordRefusal 44 = .ok (.return_, 1) by decide +kernel), rfl⟩ ⟨rfl, w⟩
  · have w := w.2 c1
    refine X_aload_n (j := 0) (show decode cX9_recordRefusal 4 = .ok (.aload_n 0, 1) by decide +kernel) rfl rfl ?_
    refine X_aload_n (j := 0) (show decode cX9_recordRefusal 5 = .ok (.aload_n 0, 1) by decide +kernel) rfl rfl ?_
    obtain ⟨s2, w⟩ := w
    refine X_getR fl_X9_12 (show decode cX9_recordRefusal 6 = .ok (.getfield 12, 3) by decide +kernel) s2 ?_
    refine X_aload_n (j := 1) (show decode cX9_recordRefusal 9 = .ok (.aload_n 1, 1) by decide +kernel) rfl rfl ?_
    obtain ⟨s15, w⟩ := w
    refine X_vI (rc' := 0) (rs' := 0) (as := [.ref _]) mv_X9_408 (show decode cX9_recordRefusal 10 = .ok (.invokevirtual 408, 3) by decide +kernel) (by decide) (Nat.le_of_ble_eq_true rfl) (Nat.le_of_ble_eq_true rfl) rfl rfl (Nat.le_of_ble_eq_true rfl) (rcvD s15 (by decide) rfl) (kX7_firstNotFree w) (fun E h hk => hk.elim) (fun r4 h3 w => ?_)
    obtain ⟨s5, w⟩ := w
    refine X_putI fp_X9_58 (show decode cX9_recordRefusal 13 = .ok (.putfield 58, 3) by decide +kernel) (fun z => nomatch z) s5 rfl rfl ?_
    have w := w _ rfl
    refine X_aload_n (j := 0) (show decode cX9_recordRefusal 16 = .ok (.aload_n 0, 1) by decide +kernel) rfl rfl ?_
    refine X_aload_n (j := 0) (show decode cX9_recordRefusal 17 = .ok (.aload_n 0, 1) by decide +kernel) rfl rfl ?_
    refine X_getI fl_X9_58 (show decode cX9_recordRefusal 18 = .ok (.getfield 58, 3) by decide +kernel) s5 ?_
    refine X_iconst (v := (-1)) (show decode cX9_recordRefusal 21 = .ok (.iconst (-1), 1) by decide +kernel) (by decide) ?_
    refine X_icmp_ne (tgt := 30) (show decode cX9_recordRefusal 22 = .ok (.if_icmp .ne 8, 3) by decide +kernel) (by decide) ⟨fun c7 => ?_, fun c7 => ?_⟩
    · have w := w.1 c7
      refine X_aload_n (j := 0) (show decode cX9_recordRefusal 30 = .ok (.aload_n 0, 1) by decide +kernel) rfl rfl ?_
      refine X_getR fl_X9_12 (show decode cX9_recordRefusal 31 = .ok (.getfield 12, 3) by decide +kernel) s5 ?_
      refine X_aload_n (j := 0) (show decode cX9_recordRefusal 34 = .ok (.aload_n 0, 1) by decide +kernel) rfl rfl ?_
      refine X_getI fl_X9_58 (show decode cX9_recordRefusal 35 = .ok (.getfield 58, 3) by decide +kernel) s5 ?_
      obtain ⟨s14, w⟩ := w
      refine X_vI (rc' := 0) (rs' := 0) (as := [.int _]) mv_X9_124 (show decode cX9_recordRefusal 38 = .ok (.invokevirtual 124, 3) by decide +kernel) (by decide) (Nat.le_of_ble_eq_true rfl) (Nat.le_of_ble_eq_true rfl) rfl rfl (Nat.le_of_ble_eq_true rfl) (rcvD s14 (by decide) rfl) (kX7_stateOf w) (fun E h hk => hk.elim) (fun r9 h8 w => ?_)
      refine X_pick (ls' := []) [] rfl ?_
      exact kX9_recordRefusal_J41  _ _ _ w
    · have w := w.2 c7
      refine X_bipush (v := (nI 110)) (show decode cX9_recordRefusal 25 = .ok (.bipush 110, 2) by decide +kernel) (by decide) ?_
      refine X_goto (tgt := 41) (show decode cX9_recordRefusal 27 = .ok (.goto 14, 3) by decide +kernel) (by decide) ?_
      refine X_pick (ls' := []) [] rfl ?_
      exact kX9_recordRefusal_J41  _ _ _ w
set_option maxRecDepth 100000 in
set_option maxHeartbeats 4000000 in
theorem kX9_grantOrRecord {a0 : Nat} {a1 : Int32} {h : AH} {K : Int32 → AH → Prop} (w : wX9_grantOrRecord a0 a1 h K) : Cn mX9_grantOrRecord (cwd mX9_grantOrRecord) 5 0 0 [.ref a0, .int a1] h (KI K) T0 := by
  refine Cn_of (by decide +kernel) rfl (Nat.le_of_ble_eq_true rfl) ?_
  show X mX9_grantOrRecord 5 (KI K) T0 0 0 0 [(0, .ref a0), (1, .int a1)] [] h
  unfold wX9_grantOrRecord at w
  refine X_aload_n (j := 0) (show decode cX9_grantOrRecord 0 = .ok (.aload_n 0, 1) by decide +kernel) rfl rfl ?_
  obtain ⟨s1, w⟩ := w
  refine X_getR fl_X9_12 (show decode cX9_grantOrRecord 1 = .ok (.getfield 12, 3) by decide +kernel) s1 ?_
  refine X_iload_n (j := 1) (show decode cX9_grantOrRecord 4 = .ok (.iload_n 1, 1) by decide +kernel) rfl rfl ?_
  obtain ⟨s12, w⟩ := w
  refine X_vI (rc' := 0) (rs' := 0) (as := [.int _]) mv_X9_402 (show decode cX9_grantOrRecord 5 = .ok (.invokevirtual 402, 3) by decide +kernel) (by decide) (Nat.le_of_ble_eq_true rfl) (Nat.le_of_ble_eq_true rfl) rfl rfl (Nat.le_of_ble_eq_true rfl) (rcvD s12 (by decide) rfl) (kX7_grantRoute w) (fun E h hk => hk.elim) (fun r3 h2 w => ?_)
  refine X_istore_n (ls' := [(0, .ref _), (1, .int _), (2, .int _)]) (show decode cX9_grantOrRecord 8 = .ok (.istore_n 2, 1) by decide +kernel) rfl (by decide) rfl ?_
  refine X_iload_n (j := 2) (show decode cX9_grantOrRecord 9 = .ok (.iload_n 2, 1) by decide +kernel) rfl rfl ?_
  refine X_bipush (v := (-5)) (show decode cX9_grantOrRecord 10 = .ok (.bipush (-5), 2) by decide +kernel) (by decide) ?_
  refine X_icmp_ne (tgt := 27) (show decode cX9_grantOrRecord 12 = .ok (.if_icmp .ne 15, 3) by decide +kernel) (by decide) ⟨fun c4 => ?_, fun c4 => ?_⟩
  · have w := w.1 c4
    refine X_iload_n (j := 2) (show decode cX9_grantOrRecord 27 = .ok (.iload_n 2, 1) by decide +kernel) rfl rfl ?_
    exact X_iret ⟨(show decode cX9_grantOrRecord 28 = .ok (.ireturn, 1) by decide +kernel), .int, rfl, rfl⟩ ⟨_, rfl, w⟩
  · have w := w.2 c4
    refine X_aload_n (j := 0) (show decode cX9_grantOrRecord 15 = .ok (.aload_n 0, 1) by decide +kernel) rfl rfl ?_
    refine X_aload_n (j := 0) (show decode cX9_grantOrRecord 16 = .ok (.aload_n 0, 1) by decide +kernel) rfl rfl ?_
    obtain ⟨s5, w⟩ := w
    refine X_getR fl_X9_12 (show decode cX9_grantOrRecord 17 = .ok (.getfield 12, 3) by decide +kernel) s5 ?_
    refine X_iload_n (j := 1) (show decode cX9_grantOrRecord 20 = .ok (.iload_n 1, 1) by decide +kernel) rfl rfl ?_
    obtain ⟨s11, w⟩ := w
    refine X_vR (rc' := 0) (rs' := 0) (as := [.int _]) mv_X9_176 (show decode cX9_grantOrRecord 21 = .ok (.invokevirtual 176, 3) by decide +kernel) (by decide) (Nat.le_of_ble_eq_true rfl) (Nat.le_of_ble_eq_true rfl) rfl rfl (Nat.le_of_ble_eq_true rfl) (rcvD s11 (by decide) rfl) (kX7_find w) (fun E h hk => hk.elim) (fun r7 h6 w => ?_)
    obtain ⟨s10, w⟩ := w
    refine X_vV (rc' := 0) (rs' := 0) (as := [.ref _]) mv_X9_405 (show decode cX9_grantOrRecord 24 = .ok (.invokevirtual 405, 3) by decide +kernel) (by decide) (Nat.le_of_ble_eq_true rfl) (Nat.le_of_ble_eq_true rfl) rfl rfl (Nat.le_of_ble_eq_true rfl) (rcvD s10 (by decide) rfl) (kX9_recordRefusal w) (fun E h hk => hk.elim) (fun h8 w => ?_)
    refine X_iload_n (j := 2) (show decode cX9_grantOrRecord 27 = .ok (.iload_n 2, 1) by decide +kernel) rfl rfl ?_
    exact X_iret ⟨(show decode cX9_grantOrRecord 28 = .ok (.ireturn, 1) by decide +kernel), .int, rfl, rfl⟩ ⟨_, rfl, w⟩
set_option maxRecDepth 100000 in
set_option maxHeartbeats 4000000 in
theorem kX9_setRoute {a0 : Nat} {a1 : Int32} {h : AH} {K : Int32 → AH → Prop} {T : String → AH → Prop} (w : wX9_setRoute a0 a1 h K T) : Cn mX9_setRoute (cwd mX9_setRoute) 10 1 6 [.ref a0, .int a1] h (KI K) T := by
  refine Cn_of (by decide +kernel) rfl (Nat.le_of_ble_eq_true rfl) ?_
  show X mX9_setRoute 10 (KI K) T 1 6 0 [(0, .ref a0), (1, .int a1)] [] h
  unfold wX9_setRoute at w
  refine X_aload_n (j := 0) (show decode cX9_setRoute 0 = .ok (.aload_n 0, 1) by decide +kernel) rfl rfl ?_
  obtain ⟨s1, w⟩ := w
  refine X_getR fl_X9_25 (show decode cX9_setRoute 1 = .ok (.getfield 25, 3) by decide +kernel) s1 ?_
  refine X_aload_n (j := 0) (show decode cX9_setRoute 4 = .ok (.aload_n 0, 1) by decide +kernel) rfl rfl ?_
  refine X_getR fl_X9_12 (show decode cX9_setRoute 5 = .ok (.getfield 12, 3) by decide +kernel) s1 ?_
  obtain ⟨s10, w⟩ := w
  refine X_vV (rc' := 1) (rs' := 6) (as := [.ref _]) mv_X9_68 (show decode cX9_setRoute 8 = .ok (.invokevirtual 68, 3) by decide +kernel) (by decide) (Nat.le_of_ble_eq_true rfl) (Nat.le_of_ble_eq_true rfl) rfl rfl (Nat.le_of_ble_eq_true rfl) (rcvD s10 (by decide) rfl) (kX2_keep w) (fun E h hk => hk.elim) (fun h2 w => ?_)
  refine X_aload_n (j := 0) (show decode cX9_setRoute 11 = .ok (.aload_n 0, 1) by decide +kernel) rfl rfl ?_
  refine X_aload_n (j := 0) (show decode cX9_setRoute 12 = .ok (.aload_n 0, 1) by decide +kernel) rfl rfl ?_
  refine X_iload_n (j := 1) (show decode cX9_setRoute 13 = .ok (.iload_n 1, 1) by decide +kernel) rfl rfl ?_
  obtain ⟨s9, w⟩ := w
  refine X_vI (rc' := 1) (rs' := 6) (as := [.int _]) mv_X9_105 (show decode cX9_setRoute 14 = .ok (.invokevirtual 105, 3) by decide +kernel) (by decide) (Nat.le_of_ble_eq_true rfl) (Nat.le_of_ble_eq_true rfl) rfl rfl (Nat.le_of_ble_eq_true rfl) (rcvD s9 (by decide) rfl) (kX9_grantOrRecord w) (fun E h hk => hk.elim) (fun r5 h4 w => ?_)
  obtain ⟨s8, w⟩ := w
  refine X_vI (rc' := 0) (rs' := 0) (as := [.int _]) mv_X9_82 (show decode cX9_setRoute 17 = .ok (.invokevirtual 82, 3) by decide +kernel) (by decide) (Nat.le_of_ble_eq_true rfl) (Nat.le_of_ble_eq_true rfl) rfl rfl (Nat.le_of_ble_eq_true rfl) (rcvD s8 (by decide) rfl) (kX9_settle w) (fun E h hk => XT_out hk (fun x hx => absurd hx List.not_mem_nil)) (fun r7 h6 w => ?_)
  exact X_iret ⟨(show decode cX9_setRoute 20 = .ok (.ireturn, 1) by decide +kernel), .int, rfl, rfl⟩ ⟨_, rfl, w⟩
set_option maxRecDepth 100000 in
set_option maxHeartbeats 4000000 in
theorem kX7_withdrawRoute {a0 : Nat} {a1 : Int32} {h : AH} {K : Int32 → AH → Prop} (w : wX7_withdrawRoute a0 a1 h K) : Cn mX7_withdrawRoute (cwd mX7_withdrawRoute) 2 0 0 [.ref a0, .int a1] h (KI K) T0 := by
  refine Cn_of (by decide +kernel) rfl (Nat.le_of_ble_eq_true rfl) ?_
  show X mX7_withdrawRoute 2 (KI K) T0 0 0 0 [(0, .ref a0), (1, .int a1)] [] h
  unfold wX7_withdrawRoute at w
  refine X_aload_n (j := 0) (show decode cX7_withdrawRoute 0 = .ok (.aload_n 0, 1) by decide +kernel) rfl rfl ?_
  refine X_iload_n (j := 1) (show decode cX7_withdrawRoute 1 = .ok (.iload_n 1, 1) by decide +kernel) rfl rfl ?_
  obtain ⟨s14, w⟩ := w
  refine X_vR (rc' := 0) (rs' := 0) (as := [.int _]) mv_X7_136 (show decode cX7_withdrawRoute 2 = .ok (.invokevirtual 136, 3) by decide +kernel) (by decide) (Nat.le_of_ble_eq_true rfl) (Nat.le_of_ble_eq_true rfl) rfl rfl (Nat.le_of_ble_eq_true rfl) (rcvD s14 (by decide) rfl) (kX7_find w) (fun E h hk => hk.elim) (fun r2 h1 w => ?_)
  refine X_astore_n (ls' := [(0, .ref _), (1, .int _), (2, .ref _)]) (show decode cX7_withdrawRoute 5 = .ok (.astore_n 2, 1) by decide +kernel) rfl (by decide) rfl ?_
  refine X_aload_n (j := 2) (show decode cX7_withdrawRoute 6 = .ok (.aload_n 2, 1) by decide +kernel) rfl rfl ?_
  refine X_ifnonnull (tgt := 13) (show decode cX7_withdrawRoute 7 = .ok (.ifnonnull 6, 3) by decide +kernel) (by decide) ⟨fun c3 => ?_, fun c3 => ?_⟩
  · have w := w.1 c3
    refine X_bipush (v := (-4)) (show decode cX7_withdrawRoute 10 = .ok (.bipush (-4), 2) by decide +kernel) (by decide) ?_
    exact X_iret ⟨(show decode cX7_withdrawRoute 12 = .ok (.ireturn, 1) by decide +kernel), .int, rfl, rfl⟩ ⟨_, rfl, w⟩
  · have w := w.2 c3
    refine X_aload_n (j := 2) (show decode cX7_withdrawRoute 13 = .ok (.aload_n 2, 1) by decide +kernel) rfl rfl ?_
    obtain ⟨s13, w⟩ := w
    refine X_vI (rc' := 0) (rs' := 0) (as := []) mv_X7_129 (show decode cX7_withdrawRoute 14 = .ok (.invokevirtual 129, 3) by decide +kernel) (by decide) (Nat.le_of_ble_eq_true rfl) (Nat.le_of_ble_eq_true rfl) rfl rfl (Nat.le_of_ble_eq_true rfl) (rcvD s13 (by decide) rfl) (kX8_isRouted w) (fun E h hk => hk.elim) (fun r5 h4 w => ?_)
    refine X_if_ne (tgt := 23) (show decode cX7_withdrawRoute 17 = .ok (.ifCond .ne 6, 3) by decide +kernel) (by decide) ⟨fun c6 => ?_, fun c6 => ?_⟩
    · have w := w.1 c6
      refine X_aload_n (j := 2) (show decode cX7_withdrawRoute 23 = .ok (.aload_n 2, 1) by decide +kernel) rfl rfl ?_
      refine X_iconst (v := (nI 0)) (show decode cX7_withdrawRoute 24 = .ok (.iconst 0, 1) by decide +kernel) (by decide) ?_
      obtain ⟨s7, w⟩ := w
      refine X_putI fp_X7_81 (show decode cX7_withdrawRoute 25 = .ok (.putfield 81, 3) by decide +kernel) (fun z => nomatch z) s7 rfl rfl ?_
      have w := w _ rfl
      refine X_aload_n (j := 0) (show decode cX7_withdrawRoute 28 = .ok (.aload_n 0, 1) by decide +kernel) rfl rfl ?_
      refine X_iload_n (j := 1) (show decode cX7_withdrawRoute 29 = .ok (.iload_n 1, 1) by decide +kernel) rfl rfl ?_
      obtain ⟨s12, w⟩ := w
      refine X_vV (rc' := 0) (rs' := 0) (as := [.int _]) mv_X7_116 (show decode cX7_withdrawRoute 30 = .ok (.invokevirtual 116, 3) by decide +kernel) (by decide) (Nat.le_of_ble_eq_true rfl) (Nat.le_of_ble_eq_true rfl) rfl rfl (Nat.le_of_ble_eq_true rfl) (rcvD s12 (by decide) rfl) (kX7_joinQueue w) (fun E h hk => hk.elim) (fun h9 w => ?_)
      refine X_aload_n (j := 0) (show decode cX7_withdrawRoute 33 = .ok (.aload_n 0, 1) by decide +kernel) rfl rfl ?_
      obtain ⟨s11, w⟩ := w
      refine X_getI fl_X7_32 (show decode cX7_withdrawRoute 34 = .ok (.getfield 32, 3) by decide +kernel) s11 ?_
      exact X_iret ⟨(show decode cX7_withdrawRoute 37 = .ok (.ireturn, 1) by decide +kernel), .int, rfl, rfl⟩ ⟨_, rfl, w⟩
    · have w := w.2 c6
      refine X_bipush (v := (-3)) (show decode cX7_withdrawRoute 20 = .ok (.bipush (-3), 2) by decide +kernel) (by decide) ?_
      exact X_iret ⟨(show decode cX7_withdrawRoute 22 = .ok (.ireturn, 1) by decide +kernel), .int, rfl, rfl⟩ ⟨_, rfl, w⟩
set_option maxRecDepth 100000 in
set_option maxHeartbeats 4000000 in
theorem kX9_releaseRoute {a0 : Nat} {a1 : Int32} {h : AH} {K : Int32 → AH → Prop} {T : String → AH → Prop} (w : wX9_releaseRoute a0 a1 h K T) : Cn mX9_releaseRoute (cwd mX9_releaseRoute) 10 1 6 [.ref a0, .int a1] h (KI K) T := by
  refine Cn_of (by decide +kernel) rfl (Nat.le_of_ble_eq_true rfl) ?_
  show X mX9_releaseRoute 10 (KI K) T 1 6 0 [(0, .ref a0), (1, .int a1)] [] h
  unfold wX9_releaseRoute at w
  refine X_aload_n (j := 0) (show decode cX9_releaseRoute 0 = .ok (.aload_n 0, 1) by decide +kernel) rfl rfl ?_
  obtain ⟨s1, w⟩ := w
  refine X_getR fl_X9_25 (show decode cX9_releaseRoute 1 = .ok (.getfield 25, 3) by decide +kernel) s1 ?_
  refine X_aload_n (j := 0) (show decode cX9_releaseRoute 4 = .ok (.aload_n 0, 1) by decide +kernel) rfl rfl ?_
  refine X_getR fl_X9_12 (show decode cX9_releaseRoute 5 = .ok (.getfield 12, 3) by decide +kernel) s1 ?_
  obtain ⟨s11, w⟩ := w
  refine X_vV (rc' := 1) (rs' := 6) (as := [.ref _]) mv_X9_68 (show decode cX9_releaseRoute 8 = .ok (.invokevirtual 68, 3) by decide +kernel) (by decide) (Nat.le_of_ble_eq_true rfl) (Nat.le_of_ble_eq_true rfl) rfl rfl (Nat.le_of_ble_eq_true rfl) (rcvD s11 (by decide) rfl) (kX2_keep w) (fun E h hk => hk.elim) (fun h2 w => ?_)
  refine X_aload_n (j := 0) (show decode cX9_releaseRoute 11 = .ok (.aload_n 0, 1) by decide +kernel) rfl rfl ?_
  refine X_aload_n (j := 0) (show decode cX9_releaseRoute 12 = .ok (.aload_n 0, 1) by decide +kernel) rfl rfl ?_
  obtain ⟨s4, w⟩ := w
  refine X_getR fl_X9_12 (show decode cX9_releaseRoute 13 = .ok (.getfield 12, 3) by decide +kernel) s4 ?_
  refine X_iload_n (j := 1) (show decode cX9_releaseRoute 16 = .ok (.iload_n 1, 1) by decide +kernel) rfl rfl ?_
  obtain ⟨s10, w⟩ := w
  refine X_vI (rc' := 1) (rs' := 6) (as := [.int _]) mv_X9_108 (show decode cX9_releaseRoute 17 = .ok (.invokevirtual 108, 3) by decide +kernel) (by decide) (Nat.le_of_ble_eq_true rfl) (Nat.le_of_ble_eq_true rfl) rfl rfl (Nat.le_of_ble_eq_true rfl) (rcvD s10 (by decide) rfl) (kX7_withdrawRoute w) (fun E h hk => hk.elim) (fun r6 h5 w => ?_)
  obtain ⟨s9, w⟩ := w
  refine X_vI (rc' := 0) (rs' := 0) (as := [.int _]) mv_X9_82 (show decode cX9_releaseRoute 20 = .ok (.invokevirtual 82, 3) by decide +kernel) (by decide) (Nat.le_of_ble_eq_true rfl) (Nat.le_of_ble_eq_true rfl) rfl rfl (Nat.le_of_ble_eq_true rfl) (rcvD s9 (by decide) rfl) (kX9_settle w) (fun E h hk => XT_out hk (fun x hx => absurd hx List.not_mem_nil)) (fun r8 h7 w => ?_)
  exact X_iret ⟨(show decode cX9_releaseRoute 23 = .ok (.ireturn, 1) by decide +kernel), .int, rfl, rfl⟩ ⟨_, rfl, w⟩
set_option maxRecDepth 100000 in
set_option maxHeartbeats 4000000 in
theorem kX7_enterNext {a0 : Nat} {a1 : Nat} {h : AH} {K : AH → Prop} (w : wX7_enterNext a0 a1 h K) : Cn mX7_enterNext (cwd mX7_enterNext) 3 0 0 [.ref a0, .ref a1] h (KV K) T0 := by
  refine Cn_of (by decide +kernel) rfl (Nat.le_of_ble_eq_true rfl) ?_
  show X mX7_enterNext 3 (KV K) T0 0 0 0 [(0, .ref a0), (1, .ref a1)] [] h
  unfold wX7_enterNext at w
  refine X_aload_n (j := 0) (show decode cX7_enterNext 0 = .ok (.aload_n 0, 1) by decide +kernel) rfl rfl ?_
  obtain ⟨s1, w⟩ := w
  refine X_getR fl_X7_12 (show decode cX7_enterNext 1 = .ok (.getfield 12, 3) by decide +kernel) s1 ?_
  refine X_aload_n (j := 1) (show decode cX7_enterNext 4 = .ok (.aload_n 1, 1) by decide +kernel) rfl rfl ?_
  obtain ⟨s2, w⟩ := w
  refine X_getI fl_X7_119 (show decode cX7_enterNext 5 = .ok (.getfield 119, 3) by decide +kernel) s2 ?_
  obtain ⟨s17, w⟩ := w
  refine X_vI (rc' := 0) (rs' := 0) (as := [.int _]) mv_X7_157 (show decode cX7_enterNext 8 = .ok (.invokevirtual 157, 3) by decide +kernel) (by decide) (Nat.le_of_ble_eq_true rfl) (Nat.le_of_ble_eq_true rfl) rfl rfl (Nat.le_of_ble_eq_true rfl) (rcvD s17 (by decide) rfl) (kX4_exitOf w) (fun E h hk => hk.elim) (fun r4 h3 w => ?_)
  refine X_istore_n (ls' := [(0, .ref _), (1, .ref _), (2, .int _)]) (show decode cX7_enterNext 11 = .ok (.istore_n 2, 1) by decide +kernel) rfl (by decide) rfl ?_
  refine X_aload_n (j := 1) (show decode cX7_enterNext 12 = .ok (.aload_n 1, 1) by decide +kernel) rfl rfl ?_
  refine X_iload_n (j := 2) (show decode cX7_enterNext 13 = .ok (.iload_n 2, 1) by decide +kernel) rfl rfl ?_
  obtain ⟨s5, w⟩ := w
  refine X_putI fp_X7_119 (show decode cX7_enterNext 14 = .ok (.putfield 119, 3) by decide +kernel) (fun z => nomatch z) s5 rfl rfl ?_
  have w := w _ rfl
  refine X_aload_n (j := 1) (show decode cX7_enterNext 17 = .ok (.aload_n 1, 1) by decide +kernel) rfl rfl ?_
  refine X_dup (show decode cX7_enterNext 18 = .ok (.dup, 1) by decide +kernel) rfl ?_
  refine X_getI fl_X7_81 (show decode cX7_enterNext 19 = .ok (.getfield 81, 3) by decide +kernel) s5 ?_
  refine X_iconst (v := (nI 1)) (show decode cX7_enterNext 22 = .ok (.iconst 1, 1) by decide +kernel) (by decide) ?_
  refine X_iload_n (j := 2) (show decode cX7_enterNext 23 = .ok (.iload_n 2, 1) by decide +kernel) rfl rfl ?_
  refine X_ishl (show decode cX7_enterNext 24 = .ok (.ishl, 1) by decide +kernel) ?_
  refine X_iconst (v := (-1)) (show decode cX7_enterNext 25 = .ok (.iconst (-1), 1) by decide +kernel) (by decide) ?_
  refine X_ixor (show decode cX7_enterNext 26 = .ok (.ixor, 1) by decide +kernel) ?_
  refine X_iand (show decode cX7_enterNext 27 = .ok (.iand, 1) by decide +kernel) ?_
  refine X_putI fp_X7_81 (show decode cX7_enterNext 28 = .ok (.putfield 81, 3) by decide +kernel) (fun z => nomatch z) s5 rfl rfl ?_
  have w := w _ rfl
  refine X_aload_n (j := 1) (show decode cX7_enterNext 31 = .ok (.aload_n 1, 1) by decide +kernel) rfl rfl ?_
  refine X_aload_n (j := 0) (show decode cX7_enterNext 32 = .ok (.aload_n 0, 1) by decide +kernel) rfl rfl ?_
  obtain ⟨s8, w⟩ := w
  refine X_getI fl_X7_41 (show decode cX7_enterNext 33 = .ok (.getfield 41, 3) by decide +kernel) s8 ?_
  refine X_aload_n (j := 0) (show decode cX7_enterNext 36 = .ok (.aload_n 0, 1) by decide +kernel) rfl rfl ?_
  refine X_getR fl_X7_12 (show decode cX7_enterNext 37 = .ok (.getfield 12, 3) by decide +kernel) s8 ?_
  refine X_aload_n (j := 0) (show decode cX7_enterNext 40 = .ok (.aload_n 0, 1) by decide +kernel) rfl rfl ?_
  refine X_getR fl_X7_12 (show decode cX7_enterNext 41 = .ok (.getfield 12, 3) by decide +kernel) s8 ?_
  refine X_iload_n (j := 2) (show decode cX7_enterNext 44 = .ok (.iload_n 2, 1) by decide +kernel) rfl rfl ?_
  obtain ⟨s16, w⟩ := w
  refine X_vI (rc' := 0) (rs' := 0) (as := [.int _]) mv_X7_157 (show decode cX7_enterNext 45 = .ok (.invokevirtual 157, 3) by decide +kernel) (by decide) (Nat.le_of_ble_eq_true rfl) (Nat.le_of_ble_eq_true rfl) rfl rfl (Nat.le_of_ble_eq_true rfl) (rcvD s16 (by decide) rfl) (kX4_exitOf w) (fun E h hk => hk.elim) (fun r10 h9 w => ?_)
  obtain ⟨s15, w⟩ := w
  refine X_vI (rc' := 0) (rs' := 0) (as := [.int _]) mv_X7_160 (show decode cX7_enterNext 48 = .ok (.invokevirtual 160, 3) by decide +kernel) (by decide) (Nat.le_of_ble_eq_true rfl) (Nat.le_of_ble_eq_true rfl) rfl rfl (Nat.le_of_ble_eq_true rfl) (rcvD s15 (by decide) rfl) (kX4_lengthOf w) (fun E h hk => hk.elim) (fun r12 h11 w => ?_)
  refine X_iadd (show decode cX7_enterNext 51 = .ok (.iadd, 1) by decide +kernel) ?_
  obtain ⟨s13, w⟩ := w
  refine X_putI fp_X7_163 (show decode cX7_enterNext 52 = .ok (.putfield 163, 3) by decide +kernel) (fun z => nomatch z) s13 rfl rfl ?_
  have w := w _ rfl
  exact X_vret ⟨(show decode cX7_enterNext 55 = .ok (.return_, 1) by decide +kernel), rfl⟩ ⟨rfl, w⟩
set_option maxRecDepth 100000 in
set_option maxHeartbeats 4000000 in
theorem kX7_removeArrived_L4 {K : AH → Prop}    : ∀ (n : Nat) (x0 : Nat) (x1 : Int32) (x2 : Int32) (h : AH), wX7_removeArrived_L4 K   n x0 x1 x2 h → X mX7_removeArrived 1 (KV K) T0 0 0 4 [(0, .ref x0), (1, .int x1), (2, .int x2)] [] h := by
  intro n
  induction n with
  | zero => intro _ _ _ _ w; exact w.elim
  | succ n ih =>
    intro x0 x1 x2 h w
    rw [wX7_removeArrived_L4] at w
    refine X_iload_n (j := 2) (show decode cX7_removeArrived 4 = .ok (.iload_n 2, 1) by decide +kernel) rfl rfl ?_
    refine X_aload_n (j := 0) (show decode cX7_removeArrived 5 = .ok (.aload_n 0, 1) by decide +kernel) rfl rfl ?_
    obtain ⟨s1, w⟩ := w
    refine X_getI fl_X7_28 (show decode cX7_removeArrived 6 = .ok (.getfield 28, 3) by decide +kernel) s1 ?_
    refine X_icmp_ge (tgt := 71) (show decode cX7_removeArrived 9 = .ok (.if_icmp .ge 62, 3) by decide +kernel) (by decide) ⟨fun c2 => ?_, fun c2 => ?_⟩
    · have w := w.1 c2
      refine X_aload_n (j := 0) (show decode cX7_removeArrived 71 = .ok (.aload_n 0, 1) by decide +kernel) rfl rfl ?_
      refine X_iload_n (j := 1) (show decode cX7_removeArrived 72 = .ok (.iload_n 1, 1) by decide +kernel) rfl rfl ?_
      refine X_putI fp_X7_28 (show decode cX7_removeArrived 73 = .ok (.putfield 28, 3) by decide +kernel) (fun z => nomatch z) s1 rfl rfl ?_
      have w := w _ rfl
      exact X_vret ⟨(show decode cX7_removeArrived 76 = .ok (.return_, 1) by decide +kernel), rfl⟩ ⟨rfl, w⟩
    · have w := w.2 c2
      refine X_aload_n (j := 0) (show decode cX7_removeArrived 12 = .ok (.aload_n 0, 1) by decide +kernel) rfl rfl ?_
      refine X_getR fl_X7_20 (show decode cX7_removeArrived 13 = .ok (.getfield 20, 3) by decide +kernel) s1 ?_
      refine X_iload_n (j := 2) (show decode cX7_removeArrived 16 = .ok (.iload_n 2, 1) by decide +kernel) rfl rfl ?_
      obtain ⟨s4, w⟩ := w
      obtain ⟨s5, w⟩ := w
      refine X_aaldT (show decode cX7_removeArrived 17 = .ok (.aaload, 1) by decide +kernel) (isA_eq s4) s5 ?_
      refine X_astore_n (ls' := [(0, .ref _), (1, .int _), (2, .int _), (3, .ref _)]) (show decode cX7_removeArrived 18 = .ok (.astore_n 3, 1) by decide +kernel) rfl (by decide) rfl ?_
      refine X_aload_n (j := 3) (show decode cX7_removeArrived 19 = .ok (.aload_n 3, 1) by decide +kernel) rfl rfl ?_
      obtain ⟨s6, w⟩ := w
      refine X_getI fl_X7_119 (show decode cX7_removeArrived 20 = .ok (.getfield 119, 3) by decide +kernel) s6 ?_
      refine X_aload_n (j := 3) (show decode cX7_removeArrived 23 = .ok (.aload_n 3, 1) by decide +kernel) rfl rfl ?_
      refine X_getI fl_X7_122 (show decode cX7_removeArrived 24 = .ok (.getfield 122, 3) by decide +kernel) s6 ?_
      refine X_icmp_ne (tgt := 43) (show decode cX7_removeArrived 27 = .ok (.if_icmp .ne 16, 3) by decide +kernel) (by decide) ⟨fun c7 => ?_, fun c7 => ?_⟩
      · have w := w.1 c7
        refine X_aload_n (j := 0) (show decode cX7_removeArrived 43 = .ok (.aload_n 0, 1) by decide +kernel) rfl rfl ?_
        refine X_getR fl_X7_20 (show decode cX7_removeArrived 44 = .ok (.getfield 20, 3) by decide +kernel) s1 ?_
        refine X_iload_n (j := 2) (show decode cX7_removeArrived 47 = .ok (.iload_n 2, 1) by decide +kernel) rfl rfl ?_
        refine X_aload_n (j := 0) (show decode cX7_removeArrived 48 = .ok (.aload_n 0, 1) by decide +kernel) rfl rfl ?_
        refine X_getR fl_X7_20 (show decode cX7_removeArrived 49 = .ok (.getfield 20, 3) by decide +kernel) s1 ?_
        refine X_iload_n (j := 1) (show decode cX7_removeArrived 52 = .ok (.iload_n 1, 1) by decide +kernel) rfl rfl ?_
        obtain ⟨s8, w⟩ := w
        refine X_aaldT (show decode cX7_removeArrived 53 = .ok (.aaload, 1) by decide +kernel) (isA_eq s4) s8 ?_
        obtain ⟨s9, w⟩ := w
        obtain ⟨s10, w⟩ := w
        refine X_aastT (show decode cX7_removeArrived 54 = .ok (.aastore, 1) by decide +kernel) (isA_eq s4) s9 s10 s5 ?_
        have w := w _ rfl
        refine X_aload_n (j := 0) (show decode cX7_removeArrived 55 = .ok (.aload_n 0, 1) by decide +kernel) rfl rfl ?_
        refine X_getR fl_X7_20 (show decode cX7_removeArrived 56 = .ok (.getfield 20, 3) by decide +kernel) s1 ?_
        refine X_iload_n (j := 1) (show decode cX7_removeArrived 59 = .ok (.iload_n 1, 1) by decide +kernel) rfl rfl ?_
        refine X_aload_n (j := 3) (show decode cX7_removeArrived 60 = .ok (.aload_n 3, 1) by decide +kernel) rfl rfl ?_
        obtain ⟨s12, w⟩ := w
        obtain ⟨s13, w⟩ := w
        obtain ⟨s14, w⟩ := w
        refine X_aastT (show decode cX7_removeArrived 61 = .ok (.aastore, 1) by decide +kernel) (isA_eq s12) s6 s13 s14 ?_
        have w := w _ rfl
        refine X_iinc (j := 1) (v := _ + (nI 1)) (ls' := [(0, .ref _), (1, .int _), (2, .int _), (3, .ref _)]) (show decode cX7_removeArrived 62 = .ok (.iinc 1 1, 3) by decide +kernel) rfl rfl (Nat.le_of_ble_eq_true rfl) rfl ?_
        refine X_iinc (j := 2) (v := _ + (nI 1)) (ls' := [(0, .ref _), (1, .int _), (2, .int _), (3, .ref _)]) (show decode cX7_removeArrived 65 = .ok (.iinc 2 1, 3) by decide +kernel) rfl rfl (Nat.le_of_ble_eq_true rfl) rfl ?_
        refine X_goto (tgt := 4) (show decode cX7_removeArrived 68 = .ok (.goto (-64), 3) by decide +kernel) (by decide) ?_
        refine X_pick (ls' := [(0, .ref _), (1, .int _), (2, .int _)]) [0, 1, 2] rfl ?_
        exact ih _ _ _ _ w
      · have w := w.2 c7
        refine X_aload_n (j := 0) (show decode cX7_removeArrived 30 = .ok (.aload_n 0, 1) by decide +kernel) rfl rfl ?_
        refine X_dup (show decode cX7_removeArrived 31 = .ok (.dup, 1) by decide +kernel) rfl ?_
        refine X_getI fl_X7_38 (show decode cX7_removeArrived 32 = .ok (.getfield 38, 3) by decide +kernel) s1 ?_
        refine X_iconst (v := (nI 1)) (show decode cX7_removeArrived 35 = .ok (.iconst 1, 1) by decide +kernel) (by decide) ?_
        refine X_iadd (show decode cX7_removeArrived 36 = .ok (.iadd, 1) by decide +kernel) ?_
        refine X_putI fp_X7_38 (show decode cX7_removeArrived 37 = .ok (.putfield 38, 3) by decide +kernel) (fun z => nomatch z) s1 rfl rfl ?_
        have w := w _ rfl
        refine X_goto (tgt := 65) (show decode cX7_removeArrived 40 = .ok (.goto 25, 3) by decide +kernel) (by decide) ?_
        refine X_iinc (j := 2) (v := _ + (nI 1)) (ls' := [(0, .ref _), (1, .int _), (2, .int _), (3, .ref _)]) (show decode cX7_removeArrived 65 = .ok (.iinc 2 1, 3) by decide +kernel) rfl rfl (Nat.le_of_ble_eq_true rfl) rfl ?_
        refine X_goto (tgt := 4) (show decode cX7_removeArrived 68 = .ok (.goto (-64), 3) by decide +kernel) (by decide) ?_
        refine X_pick (ls' := [(0, .ref _), (1, .int _), (2, .int _)]) [0, 1, 2] rfl ?_
        exact ih _ _ _ _ w
set_option maxRecDepth 100000 in
set_option maxHeartbeats 4000000 in
theorem kX7_removeArrived {a0 : Nat} {h : AH} {K : AH → Prop} (w : wX7_removeArrived a0 h K) : Cn mX7_removeArrived (cwd mX7_removeArrived) 1 0 0 [.ref a0] h (KV K) T0 := by
  refine Cn_of (by decide +kernel) rfl (Nat.le_of_ble_eq_true rfl) ?_
  show X mX7_removeArrived 1 (KV K) T0 0 0 0 [(0, .ref a0)] [] h
  unfold wX7_removeArrived at w
  refine X_iconst (v := (nI 0)) (show decode cX7_removeArrived 0 = .ok (.iconst 0, 1) by decide +kernel) (by decide) ?_
  refine X_istore_n (ls' := [(0, .ref _), (1, .int _)]) (show decode cX7_removeArrived 1 = .ok (.istore_n 1, 1) by decide +kernel) rfl (by decide) rfl ?_
  refine X_iconst (v := (nI 0)) (show decode cX7_removeArrived 2 = .ok (.iconst 0, 1) by decide +kernel) (by decide) ?_
  refine X_istore_n (ls' := [(0, .ref _), (1, .int _), (2, .int _)]) (show decode cX7_removeArrived 3 = .ok (.istore_n 2, 1) by decide +kernel) rfl (by decide) rfl ?_
  obtain ⟨n17, w⟩ := w
  exact kX7_removeArrived_L4  n17 _ _ _ _ w
set_option maxRecDepth 100000 in
set_option maxHeartbeats 4000000 in
theorem kX7_considerQueue_J43 {K : AH → Prop} {c4 : Nat → Int32 → Int32 → AH → Prop} (hc4 : ∀ x0 x1 x2 h, c4 x0 x1 x2 h → X mX7_considerQueue 4 (KV K) T0 0 0 4 [(0, .ref x0), (1, .int x1), (2, .int x2)] [] h) (x0 : Nat) (x1 : Int32) (x2 : Int32) (x3 : Nat) (h : AH) (w : wX7_considerQueue_J43 K c4 x0 x1 x2 x3 h) : X mX7_considerQueue 4 (KV K) T0 0 0 43 [(0, .ref x0), (1, .int x1), (2, .int x2), (3, .ref x3)] [] h := by
  unfold wX7_considerQueue_J43 at w
  refine X_aload_n (j := 3) (show decode cX7_considerQueue 43 = .ok (.aload_n 3, 1) by decide +kernel) rfl rfl ?_
  refine X_ifnull (tgt := 80) (show decode cX7_considerQueue 44 = .ok (.ifnull 36, 3) by decide +kernel) (by decide) ⟨fun c9 => ?_, fun c9 => ?_⟩
  · have w := w.1 c9
    refine X_iinc (j := 2) (v := _ + (nI 1)) (ls' := [(0, .ref _), (1, .int _), (2, .int _), (3, .ref _)]) (show decode cX7_considerQueue 80 = .ok (.iinc 2 1, 3) by decide +kernel) rfl rfl (Nat.le_of_ble_eq_true rfl) rfl ?_
    refine X_goto (tgt := 4) (show decode cX7_considerQueue 83 = .ok (.goto (-79), 3) by decide +kernel) (by decide) ?_
    refine X_pick (ls' := [(0, .ref _), (1, .int _), (2, .int _)]) [0, 1, 2] rfl ?_
    exact hc4 _ _ _ _ w
  · have w := w.2 c9
    refine X_aload_n (j := 3) (show decode cX7_considerQueue 47 = .ok (.aload_n 3, 1) by decide +kernel) rfl rfl ?_
    refine X_dup (show decode cX7_considerQueue 48 = .ok (.dup, 1) by decide +kernel) rfl ?_
    obtain ⟨s10, w⟩ := w
    refine X_getI fl_X7_178 (show decode cX7_considerQueue 49 = .ok (.getfield 178, 3) by decide +kernel) s10 ?_
    refine X_iconst (v := (nI 1)) (show decode cX7_considerQueue 52 = .ok (.iconst 1, 1) by decide +kernel) (by decide) ?_
    refine X_iadd (show decode cX7_considerQueue 53 = .ok (.iadd, 1) by decide +kernel) ?_
    refine X_putI fp_X7_178 (show decode cX7_considerQueue 54 = .ok (.putfield 178, 3) by decide +kernel) (fun z => nomatch z) s10 rfl rfl ?_
    have w := w _ rfl
    refine X_aload_n (j := 0) (show decode cX7_considerQueue 57 = .ok (.aload_n 0, 1) by decide +kernel) rfl rfl ?_
    refine X_dup (show decode cX7_considerQueue 58 = .ok (.dup, 1) by decide +kernel) rfl ?_
    obtain ⟨s12, w⟩ := w
    refine X_getL fl_X7_44 (show decode cX7_considerQueue 59 = .ok (.getfield 44, 3) by decide +kernel) s12 ?_
    refine X_lconst (v := 1) (show decode cX7_considerQueue 62 = .ok (.lconst 1, 1) by decide +kernel) (by decide) ?_
    refine X_ladd (show decode cX7_considerQueue 63 = .ok (.ladd, 1) by decide +kernel) ?_
    refine X_putL fp_X7_44 (show decode cX7_considerQueue 64 = .ok (.putfield 44, 3) by decide +kernel) (fun z => nomatch z) s12 ?_
    have w := w _ rfl
    refine X_aload_n (j := 0) (show decode cX7_considerQueue 67 = .ok (.aload_n 0, 1) by decide +kernel) rfl rfl ?_
    refine X_getR fl_X7_24 (show decode cX7_considerQueue 68 = .ok (.getfield 24, 3) by decide +kernel) s12 ?_
    refine X_iload_n (j := 1) (show decode cX7_considerQueue 71 = .ok (.iload_n 1, 1) by decide +kernel) rfl rfl ?_
    refine X_aload_n (j := 3) (show decode cX7_considerQueue 72 = .ok (.aload_n 3, 1) by decide +kernel) rfl rfl ?_
    refine X_getI fl_X7_62 (show decode cX7_considerQueue 73 = .ok (.getfield 62, 3) by decide +kernel) s10 ?_
    obtain ⟨s14, w⟩ := w
    obtain ⟨s15, w⟩ := w
    obtain ⟨s16, w⟩ := w
    refine X_iast (show decode cX7_considerQueue 76 = .ok (.iastore, 1) by decide +kernel) (isA_eq s14) s15 s16 ?_
    have w := w _ rfl
    refine X_iinc (j := 1) (v := _ + (nI 1)) (ls' := [(0, .ref _), (1, .int _), (2, .int _), (3, .ref _)]) (show decode cX7_considerQueue 77 = .ok (.iinc 1 1, 3) by decide +kernel) rfl rfl (Nat.le_of_ble_eq_true rfl) rfl ?_
    refine X_iinc (j := 2) (v := _ + (nI 1)) (ls' := [(0, .ref _), (1, .int _), (2, .int _), (3, .ref _)]) (show decode cX7_considerQueue 80 = .ok (.iinc 2 1, 3) by decide +kernel) rfl rfl (Nat.le_of_ble_eq_true rfl) rfl ?_
    refine X_goto (tgt := 4) (show decode cX7_considerQueue 83 = .ok (.goto (-79), 3) by decide +kernel) (by decide) ?_
    refine X_pick (ls' := [(0, .ref _), (1, .int _), (2, .int _)]) [0, 1, 2] rfl ?_
    exact hc4 _ _ _ _ w
set_option maxRecDepth 100000 in
set_option maxHeartbeats 4000000 in
theorem kX7_considerQueue_L4 {K : AH → Prop}    : ∀ (n : Nat) (x0 : Nat) (x1 : Int32) (x2 : Int32) (h : AH), wX7_considerQueue_L4 K   n x0 x1 x2 h → X mX7_considerQueue 4 (KV K) T0 0 0 4 [(0, .ref x0), (1, .int x1), (2, .int x2)] [] h := by
  intro n
  induction n with
  | zero => intro _ _ _ _ w; exact w.elim
  | succ n ih =>
    intro x0 x1 x2 h w
    rw [wX7_considerQueue_L4] at w
    refine X_iload_n (j := 2) (show decode cX7_considerQueue 4 = .ok (.iload_n 2, 1) by decide +kernel) rfl rfl ?_
    refine X_aload_n (j := 0) (show decode cX7_considerQueue 5 = .ok (.aload_n 0, 1) by decide +kernel) rfl rfl ?_
    obtain ⟨s1, w⟩ := w
    refine X_getI fl_X7_32 (show decode cX7_considerQueue 6 = .ok (.getfield 32, 3) by decide +kernel) s1 ?_
    refine X_icmp_ge (tgt := 86) (show decode cX7_considerQueue 9 = .ok (.if_icmp .ge 77, 3) by decide +kernel) (by decide) ⟨fun c2 => ?_, fun c2 => ?_⟩
    · have w := w.1 c2
      refine X_aload_n (j := 0) (show decode cX7_considerQueue 86 = .ok (.aload_n 0, 1) by decide +kernel) rfl rfl ?_
      refine X_iload_n (j := 1) (show decode cX7_considerQueue 87 = .ok (.iload_n 1, 1) by decide +kernel) rfl rfl ?_
      refine X_putI fp_X7_32 (show decode cX7_considerQueue 88 = .ok (.putfield 32, 3) by decide +kernel) (fun z => nomatch z) s1 rfl rfl ?_
      have w := w _ rfl
      exact X_vret ⟨(show decode cX7_considerQueue 91 = .ok (.return_, 1) by decide +kernel), rfl⟩ ⟨rfl, w⟩
    · have w := w.2 c2
      refine X_aload_n (j := 0) (show decode cX7_considerQueue 12 = .ok (.aload_n 0, 1) by decide +kernel) rfl rfl ?_
      refine X_aload_n (j := 0) (show decode cX7_considerQueue 13 = .ok (.aload_n 0, 1) by decide +kernel) rfl rfl ?_
      refine X_getR fl_X7_24 (show decode cX7_considerQueue 14 = .ok (.getfield 24, 3) by decide +kernel) s1 ?_
      refine X_iload_n (j := 2) (show decode cX7_considerQueue 17 = .ok (.iload_n 2, 1) by decide +kernel) rfl rfl ?_
      obtain ⟨s4, w⟩ := w
      obtain ⟨s5, w⟩ := w
      refine X_iald (show decode cX7_considerQueue 18 = .ok (.iaload, 1) by decide +kernel) (isA_eq s4) s5 ?_
      refine X_vR (rc' := 0) (rs' := 0) (as := [.int _]) mv_X7_136 (show decode cX7_considerQueue 19 = .ok (.invokevirtual 136, 3) by decide +kernel) (by decide) (Nat.le_of_ble_eq_true rfl) (Nat.le_of_ble_eq_true rfl) rfl rfl (Nat.le_of_ble_eq_true rfl) (rcvD s1 (by decide) rfl) (kX7_find w) (fun E h hk => hk.elim) (fun r7 h6 w => ?_)
      refine X_astore_n (ls' := [(0, .ref _), (1, .int _), (2, .int _), (3, .ref _)]) (show decode cX7_considerQueue 22 = .ok (.astore_n 3, 1) by decide +kernel) rfl (by decide) rfl ?_
      refine X_aload_n (j := 3) (show decode cX7_considerQueue 23 = .ok (.aload_n 3, 1) by decide +kernel) rfl rfl ?_
      refine X_ifnull (tgt := 43) (show decode cX7_considerQueue 24 = .ok (.ifnull 19, 3) by decide +kernel) (by decide) ⟨fun c8 => ?_, fun c8 => ?_⟩
      · have w := w.1 c8
        exact kX7_considerQueue_J43 ih _ _ _ _ _ w
      · have w := w.2 c8
        refine X_aload_n (j := 0) (show decode cX7_considerQueue 27 = .ok (.aload_n 0, 1) by decide +kernel) rfl rfl ?_
        refine X_aload_n (j := 3) (show decode cX7_considerQueue 28 = .ok (.aload_n 3, 1) by decide +kernel) rfl rfl ?_
        obtain ⟨s24, w⟩ := w
        refine X_vI (rc' := 0) (rs' := 0) (as := [.ref _]) mv_X7_140 (show decode cX7_considerQueue 29 = .ok (.invokevirtual 140, 3) by decide +kernel) (by decide) (Nat.le_of_ble_eq_true rfl) (Nat.le_of_ble_eq_true rfl) rfl rfl (Nat.le_of_ble_eq_true rfl) (rcvD s24 (by decide) rfl) (kX7_canSet w) (fun E h hk => hk.elim) (fun r19 h18 w => ?_)
        refine X_if_eq (tgt := 43) (show decode cX7_considerQueue 32 = .ok (.ifCond .eq 11, 3) by decide +kernel) (by decide) ⟨fun c20 => ?_, fun c20 => ?_⟩
        · have w := w.1 c20
          exact kX7_considerQueue_J43 ih _ _ _ _ _ w
        · have w := w.2 c20
          refine X_aload_n (j := 0) (show decode cX7_considerQueue 35 = .ok (.aload_n 0, 1) by decide +kernel) rfl rfl ?_
          refine X_aload_n (j := 3) (show decode cX7_considerQueue 36 = .ok (.aload_n 3, 1) by decide +kernel) rfl rfl ?_
          obtain ⟨s23, w⟩ := w
          refine X_vV (rc' := 0) (rs' := 0) (as := [.ref _]) mv_X7_147 (show decode cX7_considerQueue 37 = .ok (.invokevirtual 147, 3) by decide +kernel) (by decide) (Nat.le_of_ble_eq_true rfl) (Nat.le_of_ble_eq_true rfl) rfl rfl (Nat.le_of_ble_eq_true rfl) (rcvD s23 (by decide) rfl) (kX7_reserveRoute w) (fun E h hk => hk.elim) (fun h21 w => ?_)
          refine X_goto (tgt := 80) (show decode cX7_considerQueue 40 = .ok (.goto 40, 3) by decide +kernel) (by decide) ?_
          refine X_iinc (j := 2) (v := _ + (nI 1)) (ls' := [(0, .ref _), (1, .int _), (2, .int _), (3, .ref _)]) (show decode cX7_considerQueue 80 = .ok (.iinc 2 1, 3) by decide +kernel) rfl rfl (Nat.le_of_ble_eq_true rfl) rfl ?_
          refine X_goto (tgt := 4) (show decode cX7_considerQueue 83 = .ok (.goto (-79), 3) by decide +kernel) (by decide) ?_
          refine X_pick (ls' := [(0, .ref _), (1, .int _), (2, .int _)]) [0, 1, 2] rfl ?_
          exact ih _ _ _ _ w
set_option maxRecDepth 100000 in
set_option maxHeartbeats 4000000 in
theorem kX7_considerQueue {a0 : Nat} {h : AH} {K : AH → Prop} (w : wX7_considerQueue a0 h K) : Cn mX7_considerQueue (cwd mX7_considerQueue) 4 0 0 [.ref a0] h (KV K) T0 := by
  refine Cn_of (by decide +kernel) rfl (Nat.le_of_ble_eq_true rfl) ?_
  show X mX7_considerQueue 4 (KV K) T0 0 0 0 [(0, .ref a0)] [] h
  unfold wX7_considerQueue at w
  refine X_iconst (v := (nI 0)) (show decode cX7_considerQueue 0 = .ok (.iconst 0, 1) by decide +kernel) (by decide) ?_
  refine X_istore_n (ls' := [(0, .ref _), (1, .int _)]) (show decode cX7_considerQueue 1 = .ok (.istore_n 1, 1) by decide +kernel) rfl (by decide) rfl ?_
  refine X_iconst (v := (nI 0)) (show decode cX7_considerQueue 2 = .ok (.iconst 0, 1) by decide +kernel) (by decide) ?_
  refine X_istore_n (ls' := [(0, .ref _), (1, .int _), (2, .int _)]) (show decode cX7_considerQueue 3 = .ok (.istore_n 2, 1) by decide +kernel) rfl (by decide) rfl ?_
  obtain ⟨n25, w⟩ := w
  exact kX7_considerQueue_L4  n25 _ _ _ _ w
set_option maxRecDepth 100000 in
set_option maxHeartbeats 4000000 in
theorem kX7_passMinute_L12 {K : AH → Prop}    : ∀ (n : Nat) (x0 : Nat) (x1 : Int32) (h : AH), wX7_passMinute_L12 K   n x0 x1 h → X mX7_passMinute 5 (KV K) T0 0 0 12 [(0, .ref x0), (1, .int x1)] [] h := by
  intro n
  induction n with
  | zero => intro _ _ _ w; exact w.elim
  | succ n ih =>
    intro x0 x1 h w
    rw [wX7_passMinute_L12] at w
    refine X_iload_n (j := 1) (show decode cX7_passMinute 12 = .ok (.iload_n 1, 1) by decide +kernel) rfl rfl ?_
    refine X_aload_n (j := 0) (show decode cX7_passMinute 13 = .ok (.aload_n 0, 1) by decide +kernel) rfl rfl ?_
    obtain ⟨s3, w⟩ := w
    refine X_getI fl_X7_28 (show decode cX7_passMinute 14 = .ok (.getfield 28, 3) by decide +kernel) s3 ?_
    refine X_icmp_ge (tgt := 64) (show decode cX7_passMinute 17 = .ok (.if_icmp .ge 47, 3) by decide +kernel) (by decide) ⟨fun c4 => ?_, fun c4 => ?_⟩
    · have w := w.1 c4
      refine X_aload_n (j := 0) (show decode cX7_passMinute 64 = .ok (.aload_n 0, 1) by decide +kernel) rfl rfl ?_
      refine X_vV (rc' := 0) (rs' := 0) (as := []) mv_X7_172 (show decode cX7_passMinute 65 = .ok (.invokevirtual 172, 3) by decide +kernel) (by decide) (Nat.le_of_ble_eq_true rfl) (Nat.le_of_ble_eq_true rfl) rfl rfl (Nat.le_of_ble_eq_true rfl) (rcvD s3 (by decide) rfl) (kX7_removeArrived w) (fun E h hk => hk.elim) (fun h5 w => ?_)
      refine X_aload_n (j := 0) (show decode cX7_passMinute 68 = .ok (.aload_n 0, 1) by decide +kernel) rfl rfl ?_
      obtain ⟨s9, w⟩ := w
      refine X_vV (rc' := 0) (rs' := 0) (as := []) mv_X7_175 (show decode cX7_passMinute 69 = .ok (.invokevirtual 175, 3) by decide +kernel) (by decide) (Nat.le_of_ble_eq_true rfl) (Nat.le_of_ble_eq_true rfl) rfl rfl (Nat.le_of_ble_eq_true rfl) (rcvD s9 (by decide) rfl) (kX7_considerQueue w) (fun E h hk => hk.elim) (fun h7 w => ?_)
      exact X_vret ⟨(show decode cX7_passMinute 72 = .ok (.return_, 1) by decide +kernel), rfl⟩ ⟨rfl, w⟩
    · have w := w.2 c4
      refine X_aload_n (j := 0) (show decode cX7_passMinute 20 = .ok (.aload_n 0, 1) by decide +kernel) rfl rfl ?_
      refine X_getR fl_X7_20 (show decode cX7_passMinute 21 = .ok (.getfield 20, 3) by decide +kernel) s3 ?_
      refine X_iload_n (j := 1) (show decode cX7_passMinute 24 = .ok (.iload_n 1, 1) by decide +kernel) rfl rfl ?_
      obtain ⟨s10, w⟩ := w
      obtain ⟨s11, w⟩ := w
      refine X_aaldT (show decode cX7_passMinute 25 = .ok (.aaload, 1) by decide +kernel) (isA_eq s10) s11 ?_
      obtain ⟨s22, w⟩ := w
      refine X_vI (rc' := 0) (rs' := 0) (as := []) mv_X7_129 (show decode cX7_passMinute 26 = .ok (.invokevirtual 129, 3) by decide +kernel) (by decide) (Nat.le_of_ble_eq_true rfl) (Nat.le_of_ble_eq_true rfl) rfl rfl (Nat.le_of_ble_eq_true rfl) (rcvD s22 (by decide) rfl) (kX8_isRouted w) (fun E h hk => hk.elim) (fun r13 h12 w => ?_)
      refine X_if_eq (tgt := 58) (show decode cX7_passMinute 29 = .ok (.ifCond .eq 29, 3) by decide +kernel) (by decide) ⟨fun c14 => ?_, fun c14 => ?_⟩
      · have w := w.1 c14
        refine X_iinc (j := 1) (v := _ + (nI 1)) (ls' := [(0, .ref _), (1, .int _)]) (show decode cX7_passMinute 58 = .ok (.iinc 1 1, 3) by decide +kernel) rfl rfl (Nat.le_of_ble_eq_true rfl) rfl ?_
        refine X_goto (tgt := 12) (show decode cX7_passMinute 61 = .ok (.goto (-49), 3) by decide +kernel) (by decide) ?_
        exact ih _ _ _ w
      · have w := w.2 c14
        refine X_aload_n (j := 0) (show decode cX7_passMinute 32 = .ok (.aload_n 0, 1) by decide +kernel) rfl rfl ?_
        obtain ⟨s15, w⟩ := w
        refine X_getR fl_X7_20 (show decode cX7_passMinute 33 = .ok (.getfield 20, 3) by decide +kernel) s15 ?_
        refine X_iload_n (j := 1) (show decode cX7_passMinute 36 = .ok (.iload_n 1, 1) by decide +kernel) rfl rfl ?_
        obtain ⟨s16, w⟩ := w
        obtain ⟨s17, w⟩ := w
        refine X_aaldT (show decode cX7_passMinute 37 = .ok (.aaload, 1) by decide +kernel) (isA_eq s16) s17 ?_
        obtain ⟨s18, w⟩ := w
        refine X_getI fl_X7_163 (show decode cX7_passMinute 38 = .ok (.getfield 163, 3) by decide +kernel) s18 ?_
        refine X_aload_n (j := 0) (show decode cX7_passMinute 41 = .ok (.aload_n 0, 1) by decide +kernel) rfl rfl ?_
        refine X_getI fl_X7_41 (show decode cX7_passMinute 42 = .ok (.getfield 41, 3) by decide +kernel) s15 ?_
        refine X_icmp_ne (tgt := 58) (show decode cX7_passMinute 45 = .ok (.if_icmp .ne 13, 3) by decide +kernel) (by decide) ⟨fun c19 => ?_, fun c19 => ?_⟩
        · have w := w.1 c19
          refine X_iinc (j := 1) (v := _ + (nI 1)) (ls' := [(0, .ref _), (1, .int _)]) (show decode cX7_passMinute 58 = .ok (.iinc 1 1, 3) by decide +kernel) rfl rfl (Nat.le_of_ble_eq_true rfl) rfl ?_
          refine X_goto (tgt := 12) (show decode cX7_passMinute 61 = .ok (.goto (-49), 3) by decide +kernel) (by decide) ?_
          exact ih _ _ _ w
        · have w := w.2 c19
          refine X_aload_n (j := 0) (show decode cX7_passMinute 48 = .ok (.aload_n 0, 1) by decide +kernel) rfl rfl ?_
          refine X_aload_n (j := 0) (show decode cX7_passMinute 49 = .ok (.aload_n 0, 1) by decide +kernel) rfl rfl ?_
          refine X_getR fl_X7_20 (show decode cX7_passMinute 50 = .ok (.getfield 20, 3) by decide +kernel) s15 ?_
          refine X_iload_n (j := 1) (show decode cX7_passMinute 53 = .ok (.iload_n 1, 1) by decide +kernel) rfl rfl ?_
          refine X_aaldT (show decode cX7_passMinute 54 = .ok (.aaload, 1) by decide +kernel) (isA_eq s16) s17 ?_
          refine X_vV (rc' := 0) (rs' := 0) (as := [.ref _]) mv_X7_169 (show decode cX7_passMinute 55 = .ok (.invokevirtual 169, 3) by decide +kernel) (by decide) (Nat.le_of_ble_eq_true rfl) (Nat.le_of_ble_eq_true rfl) rfl rfl (Nat.le_of_ble_eq_true rfl) (rcvD s15 (by decide) rfl) (kX7_enterNext w) (fun E h hk => hk.elim) (fun h20 w => ?_)
          refine X_iinc (j := 1) (v := _ + (nI 1)) (ls' := [(0, .ref _), (1, .int _)]) (show decode cX7_passMinute 58 = .ok (.iinc 1 1, 3) by decide +kernel) rfl rfl (Nat.le_of_ble_eq_true rfl) rfl ?_
          refine X_goto (tgt := 12) (show decode cX7_passMinute 61 = .ok (.goto (-49), 3) by decide +kernel) (by decide) ?_
          exact ih _ _ _ w
set_option maxRecDepth 100000 in
set_option maxHeartbeats 4000000 in
theorem kX7_passMinute {a0 : Nat} {h : AH} {K : AH → Prop} (w : wX7_passMinute a0 h K) : Cn mX7_passMinute (cwd mX7_passMinute) 5 0 0 [.ref a0] h (KV K) T0 := by
  refine Cn_of (by decide +kernel) rfl (Nat.le_of_ble_eq_true rfl) ?_
  show X mX7_passMinute 5 (KV K) T0 0 0 0 [(0, .ref a0)] [] h
  unfold wX7_passMinute at w
  refine X_aload_n (j := 0) (show decode cX7_passMinute 0 = .ok (.aload_n 0, 1) by decide +kernel) rfl rfl ?_
  refine X_dup (show decode cX7_passMinute 1 = .ok (.dup, 1) by decide +kernel) rfl ?_
  obtain ⟨s1, w⟩ := w
  refine X_getI fl_X7_41 (show decode cX7_passMinute 2 = .ok (.getfield 41, 3) by decide +kernel) s1 ?_
  refine X_iconst (v := (nI 1)) (show decode cX7_passMinute 5 = .ok (.iconst 1, 1) by decide +kernel) (by decide) ?_
  refine X_iadd (show decode cX7_passMinute 6 = .ok (.iadd, 1) by decide +kernel) ?_
  refine X_putI fp_X7_41 (show decode cX7_passMinute 7 = .ok (.putfield 41, 3) by decide +kernel) (fun z => nomatch z) s1 rfl rfl ?_
  have w := w _ rfl
  refine X_iconst (v := (nI 0)) (show decode cX7_passMinute 10 = .ok (.iconst 0, 1) by decide +kernel) (by decide) ?_
  refine X_istore_n (ls' := [(0, .ref _), (1, .int _)]) (show decode cX7_passMinute 11 = .ok (.istore_n 1, 1) by decide +kernel) rfl (by decide) rfl ?_
  obtain ⟨n23, w⟩ := w
  exact kX7_passMinute_L12  n23 _ _ _ w
set_option maxRecDepth 100000 in
set_option maxHeartbeats 4000000 in
theorem kX7_letPass_L22 {K : Int32 → AH → Prop}    : ∀ (n : Nat) (x0 : Nat) (x1 : Int32) (x2 : Int32) (x3 : Int32) (h : AH), wX7_letPass_L22 K   n x0 x1 x2 x3 h → X mX7_letPass 6 (KI K) T0 0 0 22 [(0, .ref x0), (1, .int x1), (2, .int x2), (3, .int x3)] [] h := by
  intro n
  induction n with
  | zero => intro _ _ _ _ _ w; exact w.elim
  | succ n ih =>
    intro x0 x1 x2 x3 h w
    rw [wX7_letPass_L22] at w
    refine X_iload_n (j := 3) (show decode cX7_letPass 22 = .ok (.iload_n 3, 1) by decide +kernel) rfl rfl ?_
    refine X_iload_n (j := 1) (show decode cX7_letPass 23 = .ok (.iload_n 1, 1) by decide +kernel) rfl rfl ?_
    refine X_icmp_ge (tgt := 37) (show decode cX7_letPass 24 = .ok (.if_icmp .ge 13, 3) by decide +kernel) (by decide) ⟨fun c4 => ?_, fun c4 => ?_⟩
    · have w := w.1 c4
      refine X_aload_n (j := 0) (show decode cX7_letPass 37 = .ok (.aload_n 0, 1) by decide +kernel) rfl rfl ?_
      obtain ⟨s5, w⟩ := w
      refine X_getI fl_X7_38 (show decode cX7_letPass 38 = .ok (.getfield 38, 3) by decide +kernel) s5 ?_
      refine X_iload_n (j := 2) (show decode cX7_letPass 41 = .ok (.iload_n 2, 1) by decide +kernel) rfl rfl ?_
      refine X_isub (show decode cX7_letPass 42 = .ok (.isub, 1) by decide +kernel) ?_
      exact X_iret ⟨(show decode cX7_letPass 43 = .ok (.ireturn, 1) by decide +kernel), .int, rfl, rfl⟩ ⟨_, rfl, w⟩
    · have w := w.2 c4
      refine X_aload_n (j := 0) (show decode cX7_letPass 27 = .ok (.aload_n 0, 1) by decide +kernel) rfl rfl ?_
      obtain ⟨s8, w⟩ := w
      refine X_vV (rc' := 0) (rs' := 0) (as := []) mv_X7_166 (show decode cX7_letPass 28 = .ok (.invokevirtual 166, 3) by decide +kernel) (by decide) (Nat.le_of_ble_eq_true rfl) (Nat.le_of_ble_eq_true rfl) rfl rfl (Nat.le_of_ble_eq_true rfl) (rcvD s8 (by decide) rfl) (kX7_passMinute w) (fun E h hk => hk.elim) (fun h6 w => ?_)
      refine X_iinc (j := 3) (v := _ + (nI 1)) (ls' := [(0, .ref _), (1, .int _), (2, .int _), (3, .int _)]) (show decode cX7_letPass 31 = .ok (.iinc 3 1, 3) by decide +kernel) rfl rfl (Nat.le_of_ble_eq_true rfl) rfl ?_
      refine X_goto (tgt := 22) (show decode cX7_letPass 34 = .ok (.goto (-12), 3) by decide +kernel) (by decide) ?_
      exact ih _ _ _ _ _ w
set_option maxRecDepth 100000 in
set_option maxHeartbeats 4000000 in
theorem kX7_letPass {a0 : Nat} {a1 : Int32} {h : AH} {K : Int32 → AH → Prop} (w : wX7_letPass a0 a1 h K) : Cn mX7_letPass (cwd mX7_letPass) 6 0 0 [.ref a0, .int a1] h (KI K) T0 := by
  refine Cn_of (by decide +kernel) rfl (Nat.le_of_ble_eq_true rfl) ?_
  show X mX7_letPass 6 (KI K) T0 0 0 0 [(0, .ref a0), (1, .int a1)] [] h
  unfold wX7_letPass at w
  refine X_iload_n (j := 1) (show decode cX7_letPass 0 = .ok (.iload_n 1, 1) by decide +kernel) rfl rfl ?_
  refine X_iconst (v := (nI 1)) (show decode cX7_letPass 1 = .ok (.iconst 1, 1) by decide +kernel) (by decide) ?_
  refine X_icmp_lt (tgt := 12) (show decode cX7_letPass 2 = .ok (.if_icmp .lt 10, 3) by decide +kernel) (by decide) ⟨fun c1 => ?_, fun c1 => ?_⟩
  · have w := w.1 c1
    refine X_bipush (v := (-2)) (show decode cX7_letPass 12 = .ok (.bipush (-2), 2) by decide +kernel) (by decide) ?_
    exact X_iret ⟨(show decode cX7_letPass 14 = .ok (.ireturn, 1) by decide +kernel), .int, rfl, rfl⟩ ⟨_, rfl, w⟩
  · have w := w.2 c1
    refine X_iload_n (j := 1) (show decode cX7_letPass 5 = .ok (.iload_n 1, 1) by decide +kernel) rfl rfl ?_
    refine X_sipush (v := (nI 240)) (show decode cX7_letPass 6 = .ok (.sipush 240, 3) by decide +kernel) (by decide) ?_
    refine X_icmp_le (tgt := 15) (show decode cX7_letPass 9 = .ok (.if_icmp .le 6, 3) by decide +kernel) (by decide) ⟨fun c2 => ?_, fun c2 => ?_⟩
    · have w := w.1 c2
      refine X_aload_n (j := 0) (show decode cX7_letPass 15 = .ok (.aload_n 0, 1) by decide +kernel) rfl rfl ?_
      obtain ⟨s3, w⟩ := w
      refine X_getI fl_X7_38 (show decode cX7_letPass 16 = .ok (.getfield 38, 3) by decide +kernel) s3 ?_
      refine X_istore_n (ls' := [(0, .ref _), (1, .int _), (2, .int _)]) (show decode cX7_letPass 19 = .ok (.istore_n 2, 1) by decide +kernel) rfl (by decide) rfl ?_
      refine X_iconst (v := (nI 0)) (show decode cX7_letPass 20 = .ok (.iconst 0, 1) by decide +kernel) (by decide) ?_
      refine X_istore_n (ls' := [(0, .ref _), (1, .int _), (2, .int _), (3, .int _)]) (show decode cX7_letPass 21 = .ok (.istore_n 3, 1) by decide +kernel) rfl (by decide) rfl ?_
      obtain ⟨n9, w⟩ := w
      exact kX7_letPass_L22  n9 _ _ _ _ _ w
    · have w := w.2 c2
      refine X_bipush (v := (-2)) (show decode cX7_letPass 12 = .ok (.bipush (-2), 2) by decide +kernel) (by decide) ?_
      exact X_iret ⟨(show decode cX7_letPass 14 = .ok (.ireturn, 1) by decide +kernel), .int, rfl, rfl⟩ ⟨_, rfl, w⟩
set_option maxRecDepth 100000 in
set_option maxHeartbeats 4000000 in
theorem kX9_pass {a0 : Nat} {a1 : Int32} {h : AH} {K : Int32 → AH → Prop} {T : String → AH → Prop} (w : wX9_pass a0 a1 h K T) : Cn mX9_pass (cwd mX9_pass) 10 1 6 [.ref a0, .int a1] h (KI K) T := by
  refine Cn_of (by decide +kernel) rfl (Nat.le_of_ble_eq_true rfl) ?_
  show X mX9_pass 10 (KI K) T 1 6 0 [(0, .ref a0), (1, .int a1)] [] h
  unfold wX9_pass at w
  refine X_aload_n (j := 0) (show decode cX9_pass 0 = .ok (.aload_n 0, 1) by decide +kernel) rfl rfl ?_
  obtain ⟨s1, w⟩ := w
  refine X_getR fl_X9_25 (show decode cX9_pass 1 = .ok (.getfield 25, 3) by decide +kernel) s1 ?_
  refine X_aload_n (j := 0) (show decode cX9_pass 4 = .ok (.aload_n 0, 1) by decide +kernel) rfl rfl ?_
  refine X_getR fl_X9_12 (show decode cX9_pass 5 = .ok (.getfield 12, 3) by decide +kernel) s1 ?_
  obtain ⟨s11, w⟩ := w
  refine X_vV (rc' := 1) (rs' := 6) (as := [.ref _]) mv_X9_68 (show decode cX9_pass 8 = .ok (.invokevirtual 68, 3) by decide +kernel) (by decide) (Nat.le_of_ble_eq_true rfl) (Nat.le_of_ble_eq_true rfl) rfl rfl (Nat.le_of_ble_eq_true rfl) (rcvD s11 (by decide) rfl) (kX2_keep w) (fun E h hk => hk.elim) (fun h2 w => ?_)
  refine X_aload_n (j := 0) (show decode cX9_pass 11 = .ok (.aload_n 0, 1) by decide +kernel) rfl rfl ?_
  refine X_aload_n (j := 0) (show decode cX9_pass 12 = .ok (.aload_n 0, 1) by decide +kernel) rfl rfl ?_
  obtain ⟨s4, w⟩ := w
  refine X_getR fl_X9_12 (show decode cX9_pass 13 = .ok (.getfield 12, 3) by decide +kernel) s4 ?_
  refine X_iload_n (j := 1) (show decode cX9_pass 16 = .ok (.iload_n 1, 1) by decide +kernel) rfl rfl ?_
  obtain ⟨s10, w⟩ := w
  refine X_vI (rc' := 1) (rs' := 6) (as := [.int _]) mv_X9_111 (show decode cX9_pass 17 = .ok (.invokevirtual 111, 3) by decide +kernel) (by decide) (Nat.le_of_ble_eq_true rfl) (Nat.le_of_ble_eq_true rfl) rfl rfl (Nat.le_of_ble_eq_true rfl) (rcvD s10 (by decide) rfl) (kX7_letPass w) (fun E h hk => hk.elim) (fun r6 h5 w => ?_)
  obtain ⟨s9, w⟩ := w
  refine X_vI (rc' := 0) (rs' := 0) (as := [.int _]) mv_X9_82 (show decode cX9_pass 20 = .ok (.invokevirtual 82, 3) by decide +kernel) (by decide) (Nat.le_of_ble_eq_true rfl) (Nat.le_of_ble_eq_true rfl) rfl rfl (Nat.le_of_ble_eq_true rfl) (rcvD s9 (by decide) rfl) (kX9_settle w) (fun E h hk => XT_out hk (fun x hx => absurd hx List.not_mem_nil)) (fun r8 h7 w => ?_)
  exact X_iret ⟨(show decode cX9_pass 23 = .ok (.ireturn, 1) by decide +kernel), .int, rfl, rfl⟩ ⟨_, rfl, w⟩
