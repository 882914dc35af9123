set_option maxRecDepth 100000 in
set_option maxHeartbeats 4000000 in
theorem kX3_blocksAhead_L10 {K : Int32 → AH → Prop}   {x0 : Nat} {x1 : Nat} : ∀ (n : Nat) (x2 : Int32) (x3 : Int32) (x4 : Int32) (h : AH), wX3_blocksAhead_L10 K  x0 x1 n x2 x3 x4 h → X mX3_blocksAhead 3 (KI K) T0 0 0 10 [(0, .ref x0), (1, .ref x1), (2, .int x2), (3, .int x3), (4, .int x4)] [] h := by
  intro n
  induction n with
  | zero => intro _ _ _ _ w; exact w.elim
  | succ n ih =>
    intro x2 x3 x4 h w
    rw [wX3_blocksAhead_L10] at w
    refine X_iload (j := 4) (show decode cX3_blocksAhead 10 = .ok (.iload 4, 2) by decide +kernel) rfl ?_
    refine X_bipush (v := 12) (show decode cX3_blocksAhead 12 = .ok (.bipush 12, 2) by decide +kernel) (by decide) ?_
    refine X_icmp_ge (tgt := 51) (show decode cX3_blocksAhead 14 = .ok (.if_icmp .ge 37, 3) by decide +kernel) (by decide) ⟨fun c2 => ?_, fun c2 => ?_⟩
    · have w := w.1 c2
      refine X_iload_n (j := 2) (show decode cX3_blocksAhead 51 = .ok (.iload_n 2, 1) by decide +kernel) rfl rfl ?_
      exact X_iret ⟨(show decode cX3_blocksAhead 52 = .ok (.ireturn, 1) by decide +kernel), .int, rfl, rfl⟩ ⟨_, rfl, w⟩
    · have w := w.2 c2
      refine X_aload_n (j := 0) (show decode cX3_blocksAhead 17 = .ok (.aload_n 0, 1) by decide +kernel) rfl rfl ?_
      refine X_iload_n (j := 3) (show decode cX3_blocksAhead 18 = .ok (.iload_n 3, 1) by decide +kernel) rfl rfl ?_
      obtain ⟨s11, w⟩ := w
      refine X_vI (rc' := 0) (rs' := 0) (as := [.int _]) mv_X3_85 (show decode cX3_blocksAhead 19 = .ok (.invokevirtual 85, 3) by decide +kernel) (by decide) (Nat.le_of_ble_eq_true rfl) (Nat.le_of_ble_eq_true rfl) rfl rfl (Nat.le_of_ble_eq_true rfl) (rcvD s11 (by decide) rfl) (kX4_has w) (fun E h hk => hk.elim) (fun r4 h3 w => ?_)
      refine X_if_eq (tgt := 51) (show decode cX3_blocksAhead 22 = .ok (.ifCond .eq 29, 3) by decide +kernel) (by decide) ⟨fun c5 => ?_, fun c5 => ?_⟩
      · have w := w.1 c5
        refine X_iload_n (j := 2) (show decode cX3_blocksAhead 51 = .ok (.iload_n 2, 1) by decide +kernel) rfl rfl ?_
        exact X_iret ⟨(show decode cX3_blocksAhead 52 = .ok (.ireturn, 1) by decide +kernel), .int, rfl, rfl⟩ ⟨_, rfl, w⟩
      · have w := w.2 c5
        refine X_iload_n (j := 3) (show decode cX3_blocksAhead 25 = .ok (.iload_n 3, 1) by decide +kernel) rfl rfl ?_
        refine X_aload_n (j := 1) (show decode cX3_blocksAhead 26 = .ok (.aload_n 1, 1) by decide +kernel) rfl rfl ?_
        obtain ⟨s6, w⟩ := w
        refine X_getI fl_X3_88 (show decode cX3_blocksAhead 27 = .ok (.getfield 88, 3) by decide +kernel) s6 ?_
        refine X_icmp_eq (tgt := 51) (show decode cX3_blocksAhead 30 = .ok (.if_icmp .eq 21, 3) by decide +kernel) (by decide) ⟨fun c7 => ?_, fun c7 => ?_⟩
        · have w := w.1 c7
          refine X_iload_n (j := 2) (show decode cX3_blocksAhead 51 = .ok (.iload_n 2, 1) by decide +kernel) rfl rfl ?_
          exact X_iret ⟨(show decode cX3_blocksAhead 52 = .ok (.ireturn, 1) by decide +kernel), .int, rfl, rfl⟩ ⟨_, rfl, w⟩
        · have w := w.2 c7
          refine X_aload_n (j := 0) (show decode cX3_blocksAhead 33 = .ok (.aload_n 0, 1) by decide +kernel) rfl rfl ?_
          refine X_iload_n (j := 3) (show decode cX3_blocksAhead 34 = .ok (.iload_n 3, 1) by decide +kernel) rfl rfl ?_
          obtain ⟨s10, w⟩ := w
          refine X_vI (rc' := 0) (rs' := 0) (as := [.int _]) mv_X3_120 (show decode cX3_blocksAhead 35 = .ok (.invokevirtual 120, 3) by decide +kernel) (by decide) (Nat.le_of_ble_eq_true rfl) (Nat.le_of_ble_eq_true rfl) rfl rfl (Nat.le_of_ble_eq_true rfl) (rcvD s10 (by decide) rfl) (kX4_exitOf w) (fun E h hk => hk.elim) (fun r9 h8 w => ?_)
          refine X_istore_n (ls' := [(0, .ref _), (1, .ref _), (2, .int _), (3, .int _), (4, .int _)]) (show decode cX3_blocksAhead 38 = .ok (.istore_n 3, 1) by decide +kernel) rfl (by decide) rfl ?_
          refine X_iload_n (j := 2) (show decode cX3_blocksAhead 39 = .ok (.iload_n 2, 1) by decide +kernel) rfl rfl ?_
          refine X_iconst (v := 1) (show decode cX3_blocksAhead 40 = .ok (.iconst 1, 1) by decide +kernel) (by decide) ?_
          refine X_iload_n (j := 3) (show decode cX3_blocksAhead 41 = .ok (.iload_n 3, 1) by decide +kernel) rfl rfl ?_
          refine X_ishl (show decode cX3_blocksAhead 42 = .ok (.ishl, 1) by decide +kernel) ?_
          refine X_ior (show decode cX3_blocksAhead 43 = .ok (.ior, 1) by decide +kernel) ?_
          refine X_istore_n (ls' := [(0, .ref _), (1, .ref _), (2, .int _), (3, .int _), (4, .int _)]) (show decode cX3_blocksAhead 44 = .ok (.istore_n 2, 1) by decide +kernel) rfl (by decide) rfl ?_
          refine X_iinc (j := 4) (v := _ + 1) (ls' := [(0, .ref _), (1, .ref _), (2, .int _), (3, .int _), (4, .int _)]) (show decode cX3_blocksAhead 45 = .ok (.iinc 4 1, 3) by decide +kernel) rfl rfl (Nat.le_of_ble_eq_true rfl) rfl ?_
          refine X_goto (tgt := 10) (show decode cX3_blocksAhead 48 = .ok (.goto (-38), 3) by decide +kernel) (by decide) ?_
          exact ih _ _ _ _ _ _ w
set_option maxRecDepth 100000 in
set_option maxHeartbeats 4000000 in
theorem kX3_blocksAhead {a0 : Nat} {a1 : Nat} {h : AH} {K : Int32 → AH → Prop} (w : wX3_blocksAhead a0 a1 h K) : Cn mX3_blocksAhead (cwd mX3_blocksAhead) 3 0 0 [.ref a0, .ref a1] h (KI K) T0 := by
  refine Cn_of (by decide +kernel) rfl (Nat.le_of_ble_eq_true rfl) ?_
  show X mX3_blocksAhead 3 (KI K) T0 0 0 0 [(0, .ref a0), (1, .ref a1), (2, .int 0), (3, .int (mI h a1 1)), (4, .int 0)] [] h
  unfold wX3_blocksAhead at w
  refine X_iconst (v := 0) (show decode cX3_blocksAhead 0 = .ok (.iconst 0, 1) by decide +kernel) (by decide) ?_
  refine X_istore_n (ls' := [(0, .ref _), (1, .ref _), (2, .int _)]) (show decode cX3_blocksAhead 1 = .ok (.istore_n 2, 1) by decide +kernel) rfl (by decide) rfl ?_
  refine X_aload_n (j := 1) (show decode cX3_blocksAhead 2 = .ok (.aload_n 1, 1) by decide +kernel) rfl rfl ?_
  obtain ⟨s1, w⟩ := w
  refine X_getI fl_X3_80 (show decode cX3_blocksAhead 3 = .ok (.getfield 80, 3) by decide +kernel) s1 ?_
  refine X_istore_n (ls' := [(0, .ref _), (1, .ref _), (2, .int _), (3, .int _)]) (show decode cX3_blocksAhead 6 = .ok (.istore_n 3, 1) by decide +kernel) rfl (by decide) rfl ?_
  refine X_iconst (v := 0) (show decode cX3_blocksAhead 7 = .ok (.iconst 0, 1) by decide +kernel) (by decide) ?_
  refine X_istore (ls' := [(0, .ref _), (1, .ref _), (2, .int _), (3, .int _), (4, .int _)]) (show decode cX3_blocksAhead 8 = .ok (.istore 4, 2) by decide +kernel) (by decide) rfl ?_
  obtain ⟨n12, w⟩ := w
  exact kX3_blocksAhead_L10  n12 _ _ _ _ w
set_option maxRecDepth 100000 in
set_option maxHeartbeats 4000000 in
theorem kX3_routesAreSound_J67 {K : Int32 → AH → Prop} {c2 : Nat → Int32 → AH → Prop} (hc2 : ∀ x0 x1 h, c2 x0 x1 h → X mX3_routesAreSound 4 (KI K) T0 0 0 2 [(0, .ref x0), (1, .int x1)] [] h) (x0 : Nat) (x1 : Int32) (x2 : Nat) (x3 : Int32) (x4 : Int32) (y0 : Int32) (h : AH) (w : wX3_routesAreSound_J67 K c2 x0 x1 x2 x3 x4 y0 h) : X mX3_routesAreSound 4 (KI K) T0 0 0 67 [(0, .ref x0), (1, .int x1), (2, .ref x2), (3, .int x3), (4, .int x4)] [.int y0] h := by
  unfold wX3_routesAreSound_J67 at w
  refine X_istore (ls' := [(0, .ref _), (1, .int _), (2, .ref _), (3, .int _), (4, .int _), (5, .int _)]) (show decode cX3_routesAreSound 67 = .ok (.istore 5, 2) by decide +kernel) (by decide) rfl ?_
  refine X_aload_n (j := 2) (show decode cX3_routesAreSound 69 = .ok (.aload_n 2, 1) by decide +kernel) rfl rfl ?_
  obtain ⟨s23, w⟩ := w
  refine X_vI (rc' := 0) (rs' := 0) (as := []) mv_X3_127 (show decode cX3_routesAreSound 70 = .ok (.invokevirtual 127, 3) by decide +kernel) (by decide) (Nat.le_of_ble_eq_true rfl) (Nat.le_of_ble_eq_true rfl) rfl rfl (Nat.le_of_ble_eq_true rfl) (rcvD s23 (by decide) rfl) (kX8_isRouted w) (fun E h hk => hk.elim) (fun r18 h17 w => ?_)
  refine X_if_eq (tgt := 94) (show decode cX3_routesAreSound 73 = .ok (.ifCond .eq 21, 3) by decide +kernel) (by decide) ⟨fun c19 => ?_, fun c19 => ?_⟩
  · have w := w.1 c19
    refine X_iinc (j := 1) (v := _ + 1) (ls' := [(0, .ref _), (1, .int _), (2, .ref _), (3, .int _), (4, .int _), (5, .int _)]) (show decode cX3_routesAreSound 94 = .ok (.iinc 1 1, 3) by decide +kernel) rfl rfl (Nat.le_of_ble_eq_true rfl) rfl ?_
    refine X_goto (tgt := 2) (show decode cX3_routesAreSound 97 = .ok (.goto (-95), 3) by decide +kernel) (by decide) ?_
    refine X_pick (ls' := [(0, .ref _), (1, .int _)]) [0, 1] rfl ?_
    exact hc2 _ _ _ w
  · have w := w.2 c19
    refine X_iload (j := 5) (show decode cX3_routesAreSound 76 = .ok (.iload 5, 2) by decide +kernel) rfl ?_
    refine X_if_eq (tgt := 92) (show decode cX3_routesAreSound 78 = .ok (.ifCond .eq 14, 3) by decide +kernel) (by decide) ⟨fun c20 => ?_, fun c20 => ?_⟩
    · have w := w.1 c20
      refine X_iconst (v := 0) (show decode cX3_routesAreSound 92 = .ok (.iconst 0, 1) by decide +kernel) (by decide) ?_
      exact X_iret ⟨(show decode cX3_routesAreSound 93 = .ok (.ireturn, 1) by decide +kernel), .boolean, rfl, (by decide)⟩ ⟨_, rfl, w⟩
    · have w := w.2 c20
      refine X_iload_n (j := 3) (show decode cX3_routesAreSound 81 = .ok (.iload_n 3, 1) by decide +kernel) rfl rfl ?_
      refine X_iconst (v := 1) (show decode cX3_routesAreSound 82 = .ok (.iconst 1, 1) by decide +kernel) (by decide) ?_
      refine X_icmp_lt (tgt := 92) (show decode cX3_routesAreSound 83 = .ok (.if_icmp .lt 9, 3) by decide +kernel) (by decide) ⟨fun c21 => ?_, fun c21 => ?_⟩
      · have w := w.1 c21
        refine X_iconst (v := 0) (show decode cX3_routesAreSound 92 = .ok (.iconst 0, 1) by decide +kernel) (by decide) ?_
        exact X_iret ⟨(show decode cX3_routesAreSound 93 = .ok (.ireturn, 1) by decide +kernel), .boolean, rfl, (by decide)⟩ ⟨_, rfl, w⟩
      · have w := w.2 c21
        refine X_iload_n (j := 3) (show decode cX3_routesAreSound 86 = .ok (.iload_n 3, 1) by decide +kernel) rfl rfl ?_
        refine X_iload (j := 4) (show decode cX3_routesAreSound 87 = .ok (.iload 4, 2) by decide +kernel) rfl ?_
        refine X_icmp_le (tgt := 94) (show decode cX3_routesAreSound 89 = .ok (.if_icmp .le 5, 3) by decide +kernel) (by decide) ⟨fun c22 => ?_, fun c22 => ?_⟩
        · have w := w.1 c22
          refine X_iinc (j := 1) (v := _ + 1) (ls' := [(0, .ref _), (1, .int _), (2, .ref _), (3, .int _), (4, .int _), (5, .int _)]) (show decode cX3_routesAreSound 94 = .ok (.iinc 1 1, 3) by decide +kernel) rfl rfl (Nat.le_of_ble_eq_true rfl) rfl ?_
          refine X_goto (tgt := 2) (show decode cX3_routesAreSound 97 = .ok (.goto (-95), 3) by decide +kernel) (by decide) ?_
          refine X_pick (ls' := [(0, .ref _), (1, .int _)]) [0, 1] rfl ?_
          exact hc2 _ _ _ w
        · have w := w.2 c22
          refine X_iconst (v := 0) (show decode cX3_routesAreSound 92 = .ok (.iconst 0, 1) by decide +kernel) (by decide) ?_
          exact X_iret ⟨(show decode cX3_routesAreSound 93 = .ok (.ireturn, 1) by decide +kernel), .boolean, rfl, (by decide)⟩ ⟨_, rfl, w⟩
set_option maxRecDepth 100000 in
set_option maxHeartbeats 4000000 in
theorem kX3_routesAreSound_L2 {K : Int32 → AH → Prop}   {x0 : Nat} : ∀ (n : Nat) (x1 : Int32) (h : AH), wX3_routesAreSound_L2 K  x0 n x1 h → X mX3_routesAreSound 4 (KI K) T0 0 0 2 [(0, .ref x0), (1, .int x1)] [] h := by
  intro n
  induction n with
  | zero => intro _ _ w; exact w.elim
  | succ n ih =>
    intro x1 h w
    rw [wX3_routesAreSound_L2] at w
    refine X_iload_n (j := 1) (show decode cX3_routesAreSound 2 = .ok (.iload_n 1, 1) by decide +kernel) rfl rfl ?_
    refine X_aload_n (j := 0) (show decode cX3_routesAreSound 3 = .ok (.aload_n 0, 1) by decide +kernel) rfl rfl ?_
    obtain ⟨s1, w⟩ := w
    refine X_getI fl_X3_73 (show decode cX3_routesAreSound 4 = .ok (.getfield 73, 3) by decide +kernel) s1 ?_
    refine X_icmp_ge (tgt := 100) (show decode cX3_routesAreSound 7 = .ok (.if_icmp .ge 93, 3) by decide +kernel) (by decide) ⟨fun c2 => ?_, fun c2 => ?_⟩
    · have w := w.1 c2
      refine X_iconst (v := 1) (show decode cX3_routesAreSound 100 = .ok (.iconst 1, 1) by decide +kernel) (by decide) ?_
      exact X_iret ⟨(show decode cX3_routesAreSound 101 = .ok (.ireturn, 1) by decide +kernel), .boolean, rfl, (by decide)⟩ ⟨_, rfl, w⟩
    · have w := w.2 c2
      refine X_aload_n (j := 0) (show decode cX3_routesAreSound 10 = .ok (.aload_n 0, 1) by decide +kernel) rfl rfl ?_
      refine X_getR fl_X3_76 (show decode cX3_routesAreSound 11 = .ok (.getfield 76, 3) by decide +kernel) s1 ?_
      refine X_iload_n (j := 1) (show decode cX3_routesAreSound 14 = .ok (.iload_n 1, 1) by decide +kernel) rfl rfl ?_
      obtain ⟨s3, w⟩ := w
      obtain ⟨s4, w⟩ := w
      refine X_aaldT (show decode cX3_routesAreSound 15 = .ok (.aaload, 1) by decide +kernel) (isA_eq s3) s4 ?_
      refine X_astore_n (ls' := [(0, .ref _), (1, .int _), (2, .ref _)]) (show decode cX3_routesAreSound 16 = .ok (.astore_n 2, 1) by decide +kernel) rfl (by decide) rfl ?_
      refine X_aload_n (j := 2) (show decode cX3_routesAreSound 17 = .ok (.aload_n 2, 1) by decide +kernel) rfl rfl ?_
      obtain ⟨s5, w⟩ := w
      refine X_getI fl_X3_114 (show decode cX3_routesAreSound 18 = .ok (.getfield 114, 3) by decide +kernel) s5 ?_
      refine X_aload_n (j := 0) (show decode cX3_routesAreSound 21 = .ok (.aload_n 0, 1) by decide +kernel) rfl rfl ?_
      refine X_getI fl_X3_117 (show decode cX3_routesAreSound 22 = .ok (.getfield 117, 3) by decide +kernel) s1 ?_
      refine X_isub (show decode cX3_routesAreSound 25 = .ok (.isub, 1) by decide +kernel) ?_
      refine X_topi (fun v6 e7 => ?_)
      have w := w v6 e7
      refine X_istore_n (ls' := [(0, .ref _), (1, .int _), (2, .ref _), (3, .int _)]) (show decode cX3_routesAreSound 26 = .ok (.istore_n 3, 1) by decide +kernel) rfl (by decide) rfl ?_
      refine X_aload_n (j := 0) (show decode cX3_routesAreSound 27 = .ok (.aload_n 0, 1) by decide +kernel) rfl rfl ?_
      refine X_getR fl_X3_9 (show decode cX3_routesAreSound 28 = .ok (.getfield 9, 3) by decide +kernel) s1 ?_
      refine X_aload_n (j := 0) (show decode cX3_routesAreSound 31 = .ok (.aload_n 0, 1) by decide +kernel) rfl rfl ?_
      refine X_getR fl_X3_9 (show decode cX3_routesAreSound 32 = .ok (.getfield 9, 3) by decide +kernel) s1 ?_
      refine X_aload_n (j := 2) (show decode cX3_routesAreSound 35 = .ok (.aload_n 2, 1) by decide +kernel) rfl rfl ?_
      refine X_getI fl_X3_80 (show decode cX3_routesAreSound 36 = .ok (.getfield 80, 3) by decide +kernel) s5 ?_
      obtain ⟨s25, w⟩ := w
      refine X_vI (rc' := 0) (rs' := 0) (as := [.int _]) mv_X3_120 (show decode cX3_routesAreSound 39 = .ok (.invokevirtual 120, 3) by decide +kernel) (by decide) (Nat.le_of_ble_eq_true rfl) (Nat.le_of_ble_eq_true rfl) rfl rfl (Nat.le_of_ble_eq_true rfl) (rcvD s25 (by decide) rfl) (kX4_exitOf w) (fun E h hk => hk.elim) (fun r9 h8 w => ?_)
      obtain ⟨s24, w⟩ := w
      refine X_vI (rc' := 0) (rs' := 0) (as := [.int _]) mv_X3_44 (show decode cX3_routesAreSound 42 = .ok (.invokevirtual 44, 3) by decide +kernel) (by decide) (Nat.le_of_ble_eq_true rfl) (Nat.le_of_ble_eq_true rfl) rfl rfl (Nat.le_of_ble_eq_true rfl) (rcvD s24 (by decide) rfl) (kX4_lengthOf w) (fun E h hk => hk.elim) (fun r11 h10 w => ?_)
      refine X_istore (ls' := [(0, .ref _), (1, .int _), (2, .ref _), (3, .int _), (4, .int _)]) (show decode cX3_routesAreSound 45 = .ok (.istore 4, 2) by decide +kernel) (by decide) rfl ?_
      refine X_aload_n (j := 0) (show decode cX3_routesAreSound 47 = .ok (.aload_n 0, 1) by decide +kernel) rfl rfl ?_
      obtain ⟨s12, w⟩ := w
      refine X_getR fl_X3_9 (show decode cX3_routesAreSound 48 = .ok (.getfield 9, 3) by decide +kernel) s12 ?_
      refine X_aload_n (j := 2) (show decode cX3_routesAreSound 51 = .ok (.aload_n 2, 1) by decide +kernel) rfl rfl ?_
      refine X_sI (rc' := 0) (rs' := 0) (as := [.ref _, .ref _]) ms_X3_123 (show decode cX3_routesAreSound 52 = .ok (.invokestatic 123, 3) by decide +kernel) (by decide) (Nat.le_of_ble_eq_true rfl) (Nat.le_of_ble_eq_true rfl) rfl rfl (Nat.le_of_ble_eq_true rfl) (kX3_blocksAhead w) (fun E h hk => hk.elim) (fun r14 h13 w => ?_)
      refine X_aload_n (j := 2) (show decode cX3_routesAreSound 55 = .ok (.aload_n 2, 1) by decide +kernel) rfl rfl ?_
      obtain ⟨s15, w⟩ := w
      refine X_getI fl_X3_107 (show decode cX3_routesAreSound 56 = .ok (.getfield 107, 3) by decide +kernel) s15 ?_
      refine X_icmp_ne (tgt := 66) (show decode cX3_routesAreSound 59 = .ok (.if_icmp .ne 7, 3) by decide +kernel) (by decide) ⟨fun c16 => ?_, fun c16 => ?_⟩
      · have w := w.1 c16
        refine X_iconst (v := 0) (show decode cX3_routesAreSound 66 = .ok (.iconst 0, 1) by decide +kernel) (by decide) ?_
        exact kX3_routesAreSound_J67 ih _ _ _ _ _ _ _ w
      · have w := w.2 c16
        refine X_iconst (v := 1) (show decode cX3_routesAreSound 62 = .ok (.iconst 1, 1) by decide +kernel) (by decide) ?_
        refine X_goto (tgt := 67) (show decode cX3_routesAreSound 63 = .ok (.goto 4, 3) by decide +kernel) (by decide) ?_
        exact kX3_routesAreSound_J67 ih _ _ _ _ _ _ _ w
set_option maxRecDepth 100000 in
set_option maxHeartbeats 4000000 in
theorem kX3_routesAreSound {a0 : Nat} {h : AH} {K : Int32 → AH → Prop} (w : wX3_routesAreSound a0 h K) : Cn mX3_routesAreSound (cwd mX3_routesAreSound) 4 0 0 [.ref a0] h (KI K) T0 := by
  refine Cn_of (by decide +kernel) rfl (Nat.le_of_ble_eq_true rfl) ?_
  show X mX3_routesAreSound 4 (KI K) T0 0 0 0 [(0, .ref a0), (1, .int 0)] [] h
  unfold wX3_routesAreSound at w
  refine X_iconst (v := 0) (show decode cX3_routesAreSound 0 = .ok (.iconst 0, 1) by decide +kernel) (by decide) ?_
  refine X_istore_n (ls' := [(0, .ref _), (1, .int _)]) (show decode cX3_routesAreSound 1 = .ok (.istore_n 1, 1) by decide +kernel) rfl (by decide) rfl ?_
  obtain ⟨n26, w⟩ := w
  exact kX3_routesAreSound_L2  n26 _ _ w
set_option maxRecDepth 100000 in
set_option maxHeartbeats 4000000 in
theorem kX3_queueIsSound_L4 {K : Int32 → AH → Prop} {c38 : Nat → Int32 → AH → Prop} (hc38 : ∀ x0 x1 h, c38 x0 x1 h → X mX3_queueIsSound 2 (KI K) T0 0 0 38 [(0, .ref x0), (1, .int x1)] [] h) {x0 : Nat} : ∀ (n : Nat) (x1 : Int32) (x2 : Int32) (h : AH), wX3_queueIsSound_L4 K c38 x0 n x1 x2 h → X mX3_queueIsSound 2 (KI K) T0 0 0 4 [(0, .ref x0), (1, .int x1), (2, .int x2)] [] h := by
  intro n
  induction n with
  | zero => intro _ _ _ w; exact w.elim
  | succ n ih =>
    intro x1 x2 h w
    rw [wX3_queueIsSound_L4] at w
    refine X_iload_n (j := 2) (show decode cX3_queueIsSound 4 = .ok (.iload_n 2, 1) by decide +kernel) rfl rfl ?_
    refine X_aload_n (j := 0) (show decode cX3_queueIsSound 5 = .ok (.aload_n 0, 1) by decide +kernel) rfl rfl ?_
    obtain ⟨s1, w⟩ := w
    refine X_getI fl_X3_73 (show decode cX3_queueIsSound 6 = .ok (.getfield 73, 3) by decide +kernel) s1 ?_
    refine X_icmp_ge (tgt := 38) (show decode cX3_queueIsSound 9 = .ok (.if_icmp .ge 29, 3) by decide +kernel) (by decide) ⟨fun c2 => ?_, fun c2 => ?_⟩
    · have w := w.1 c2
      refine X_pick (ls' := [(0, .ref _), (1, .int _)]) [0, 1] rfl ?_
      exact hc38 _ _ _ w
    · have w := w.2 c2
      refine X_iload_n (j := 1) (show decode cX3_queueIsSound 12 = .ok (.iload_n 1, 1) by decide +kernel) rfl rfl ?_
      refine X_aload_n (j := 0) (show decode cX3_queueIsSound 13 = .ok (.aload_n 0, 1) by decide +kernel) rfl rfl ?_
      refine X_getR fl_X3_76 (show decode cX3_queueIsSound 14 = .ok (.getfield 76, 3) by decide +kernel) s1 ?_
      refine X_iload_n (j := 2) (show decode cX3_queueIsSound 17 = .ok (.iload_n 2, 1) by decide +kernel) rfl rfl ?_
      obtain ⟨s3, w⟩ := w
      obtain ⟨s4, w⟩ := w
      refine X_aaldT (show decode cX3_queueIsSound 18 = .ok (.aaload, 1) by decide +kernel) (isA_eq s3) s4 ?_
      obtain ⟨s8, w⟩ := w
      refine X_vI (rc' := 0) (rs' := 0) (as := []) mv_X3_127 (show decode cX3_queueIsSound 19 = .ok (.invokevirtual 127, 3) by decide +kernel) (by decide) (Nat.le_of_ble_eq_true rfl) (Nat.le_of_ble_eq_true rfl) rfl rfl (Nat.le_of_ble_eq_true rfl) (rcvD s8 (by decide) rfl) (kX8_isRouted w) (fun E h hk => hk.elim) (fun r6 h5 w => ?_)
      refine X_if_eq (tgt := 29) (show decode cX3_queueIsSound 22 = .ok (.ifCond .eq 7, 3) by decide +kernel) (by decide) ⟨fun c7 => ?_, fun c7 => ?_⟩
      · have w := w.1 c7
        refine X_iconst (v := 0) (show decode cX3_queueIsSound 29 = .ok (.iconst 0, 1) by decide +kernel) (by decide) ?_
        refine X_iadd (show decode cX3_queueIsSound 30 = .ok (.iadd, 1) by decide +kernel) ?_
        refine X_istore_n (ls' := [(0, .ref _), (1, .int _), (2, .int _)]) (show decode cX3_queueIsSound 31 = .ok (.istore_n 1, 1) by decide +kernel) rfl (by decide) rfl ?_
        refine X_iinc (j := 2) (v := _ + 1) (ls' := [(0, .ref _), (1, .int _), (2, .int _)]) (show decode cX3_queueIsSound 32 = .ok (.iinc 2 1, 3) by decide +kernel) rfl rfl (Nat.le_of_ble_eq_true rfl) rfl ?_
        refine X_goto (tgt := 4) (show decode cX3_queueIsSound 35 = .ok (.goto (-31), 3) by decide +kernel) (by decide) ?_
        exact ih _ _ _ _ w
      · have w := w.2 c7
        refine X_iconst (v := 1) (show decode cX3_queueIsSound 25 = .ok (.iconst 1, 1) by decide +kernel) (by decide) ?_
        refine X_goto (tgt := 30) (show decode cX3_queueIsSound 26 = .ok (.goto 4, 3) by decide +kernel) (by decide) ?_
        refine X_iadd (show decode cX3_queueIsSound 30 = .ok (.iadd, 1) by decide +kernel) ?_
        refine X_istore_n (ls' := [(0, .ref _), (1, .int _), (2, .int _)]) (show decode cX3_queueIsSound 31 = .ok (.istore_n 1, 1) by decide +kernel) rfl (by decide) rfl ?_
        refine X_iinc (j := 2) (v := _ + 1) (ls' := [(0, .ref _), (1, .int _), (2, .int _)]) (show decode cX3_queueIsSound 32 = .ok (.iinc 2 1, 3) by decide +kernel) rfl rfl (Nat.le_of_ble_eq_true rfl) rfl ?_
        refine X_goto (tgt := 4) (show decode cX3_queueIsSound 35 = .ok (.goto (-31), 3) by decide +kernel) (by decide) ?_
        exact ih _ _ _ _ w
set_option maxRecDepth 100000 in
set_option maxHeartbeats 4000000 in
theorem kX3_queueIsSound_L74 {K : Int32 → AH → Prop} {c102 : Nat → Int32 → Int32 → AH → Prop} (hc102 : ∀ x0 x1 x2 h, c102 x0 x1 x2 h → X mX3_queueIsSound 2 (KI K) T0 0 0 102 [(0, .ref x0), (1, .int x1), (2, .int x2)] [] h) {x0 : Nat} {x1 : Int32} {x2 : Int32} : ∀ (n : Nat) (x4 : Int32) (h : AH), wX3_queueIsSound_L74 K c102 x0 x1 x2 n x4 h → X mX3_queueIsSound 2 (KI K) T0 0 0 74 [(0, .ref x0), (1, .int x1), (2, .int x2), (4, .int x4)] [] h := by
  intro n
  induction n with
  | zero => intro _ _ w; exact w.elim
  | succ n ih =>
    intro x4 h w
    rw [wX3_queueIsSound_L74] at w
    refine X_iload (j := 3) (show decode cX3_queueIsSound 74 = .ok (.iload 4, 2) by decide +kernel) rfl ?_
    refine X_iload_n (j := 2) (show decode cX3_queueIsSound 76 = .ok (.iload_n 2, 1) by decide +kernel) rfl rfl ?_
    refine X_icmp_ge (tgt := 102) (show decode cX3_queueIsSound 77 = .ok (.if_icmp .ge 25, 3) by decide +kernel) (by decide) ⟨fun c23 => ?_, fun c23 => ?_⟩
    · have w := w.1 c23
      refine X_pick (ls' := [(0, .ref _), (1, .int _), (2, .int _)]) [0, 1, 2] rfl ?_
      exact hc102 _ _ _ _ w
    · have w := w.2 c23
      refine X_aload_n (j := 0) (show decode cX3_queueIsSound 80 = .ok (.aload_n 0, 1) by decide +kernel) rfl rfl ?_
      refine X_iload (j := 3) (show decode cX3_queueIsSound 81 = .ok (.iload 4, 2) by decide +kernel) rfl ?_
      obtain ⟨s30, w⟩ := w
      refine X_vI (rc' := 0) (rs' := 0) (as := [.int _]) mv_X3_134 (show decode cX3_queueIsSound 83 = .ok (.invokevirtual 134, 3) by decide +kernel) (by decide) (Nat.le_of_ble_eq_true rfl) (Nat.le_of_ble_eq_true rfl) rfl rfl (Nat.le_of_ble_eq_true rfl) (rcvD s30 (by decide) rfl) (kX7_inQueue w) (fun E h hk => hk.elim) (fun r25 h24 w => ?_)
      refine X_aload_n (j := 0) (show decode cX3_queueIsSound 86 = .ok (.aload_n 0, 1) by decide +kernel) rfl rfl ?_
      refine X_iload_n (j := 2) (show decode cX3_queueIsSound 87 = .ok (.iload_n 2, 1) by decide +kernel) rfl rfl ?_
      obtain ⟨s29, w⟩ := w
      refine X_vI (rc' := 0) (rs' := 0) (as := [.int _]) mv_X3_134 (show decode cX3_queueIsSound 88 = .ok (.invokevirtual 134, 3) by decide +kernel) (by decide) (Nat.le_of_ble_eq_true rfl) (Nat.le_of_ble_eq_true rfl) rfl rfl (Nat.le_of_ble_eq_true rfl) (rcvD s29 (by decide) rfl) (kX7_inQueue w) (fun E h hk => hk.elim) (fun r27 h26 w => ?_)
      refine X_icmp_ne (tgt := 96) (show decode cX3_queueIsSound 91 = .ok (.if_icmp .ne 5, 3) by decide +kernel) (by decide) ⟨fun c28 => ?_, fun c28 => ?_⟩
      · have w := w.1 c28
        refine X_iinc (j := 3) (v := _ + 1) (ls' := [(0, .ref _), (1, .int _), (2, .int _), (4, .int _)]) (show decode cX3_queueIsSound 96 = .ok (.iinc 4 1, 3) by decide +kernel) rfl rfl (Nat.le_of_ble_eq_true rfl) rfl ?_
        refine X_goto (tgt := 74) (show decode cX3_queueIsSound 99 = .ok (.goto (-25), 3) by decide +kernel) (by decide) ?_
        exact ih _ _ _ _ _ w
      · have w := w.2 c28
        refine X_iconst (v := 0) (show decode cX3_queueIsSound 94 = .ok (.iconst 0, 1) by decide +kernel) (by decide) ?_
        exact X_iret ⟨(show decode cX3_queueIsSound 95 = .ok (.ireturn, 1) by decide +kernel), .boolean, rfl, (by decide)⟩ ⟨_, rfl, w⟩
set_option maxRecDepth 100000 in
set_option maxHeartbeats 4000000 in
theorem kX3_queueIsSound_L40 {K : Int32 → AH → Prop}   {x0 : Nat} {x1 : Int32} : ∀ (n : Nat) (x2 : Int32) (h : AH), wX3_queueIsSound_L40 K  x0 x1 n x2 h → X mX3_queueIsSound 2 (KI K) T0 0 0 40 [(0, .ref x0), (1, .int x1), (2, .int x2)] [] h := by
  intro n
  induction n with
  | zero => intro _ _ w; exact w.elim
  | succ n ih =>
    intro x2 h w
    rw [wX3_queueIsSound_L40] at w
    refine X_iload_n (j := 2) (show decode cX3_queueIsSound 40 = .ok (.iload_n 2, 1) by decide +kernel) rfl rfl ?_
    refine X_aload_n (j := 0) (show decode cX3_queueIsSound 41 = .ok (.aload_n 0, 1) by decide +kernel) rfl rfl ?_
    obtain ⟨s12, w⟩ := w
    refine X_getI fl_X3_131 (show decode cX3_queueIsSound 42 = .ok (.getfield 131, 3) by decide +kernel) s12 ?_
    refine X_icmp_ge (tgt := 108) (show decode cX3_queueIsSound 45 = .ok (.if_icmp .ge 63, 3) by decide +kernel) (by decide) ⟨fun c13 => ?_, fun c13 => ?_⟩
    · have w := w.1 c13
      refine X_iload_n (j := 1) (show decode cX3_queueIsSound 108 = .ok (.iload_n 1, 1) by decide +kernel) rfl rfl ?_
      refine X_aload_n (j := 0) (show decode cX3_queueIsSound 109 = .ok (.aload_n 0, 1) by decide +kernel) rfl rfl ?_
      refine X_getI fl_X3_131 (show decode cX3_queueIsSound 110 = .ok (.getfield 131, 3) by decide +kernel) s12 ?_
      refine X_iadd (show decode cX3_queueIsSound 113 = .ok (.iadd, 1) by decide +kernel) ?_
      refine X_aload_n (j := 0) (show decode cX3_queueIsSound 114 = .ok (.aload_n 0, 1) by decide +kernel) rfl rfl ?_
      refine X_getI fl_X3_73 (show decode cX3_queueIsSound 115 = .ok (.getfield 73, 3) by decide +kernel) s12 ?_
      refine X_icmp_ne (tgt := 125) (show decode cX3_queueIsSound 118 = .ok (.if_icmp .ne 7, 3) by decide +kernel) (by decide) ⟨fun c14 => ?_, fun c14 => ?_⟩
      · have w := w.1 c14
        refine X_iconst (v := 0) (show decode cX3_queueIsSound 125 = .ok (.iconst 0, 1) by decide +kernel) (by decide) ?_
        exact X_iret ⟨(show decode cX3_queueIsSound 126 = .ok (.ireturn, 1) by decide +kernel), .boolean, rfl, (by decide)⟩ ⟨_, rfl, w⟩
      · have w := w.2 c14
        refine X_iconst (v := 1) (show decode cX3_queueIsSound 121 = .ok (.iconst 1, 1) by decide +kernel) (by decide) ?_
        refine X_goto (tgt := 126) (show decode cX3_queueIsSound 122 = .ok (.goto 4, 3) by decide +kernel) (by decide) ?_
        exact X_iret ⟨(show decode cX3_queueIsSound 126 = .ok (.ireturn, 1) by decide +kernel), .boolean, rfl, (by decide)⟩ ⟨_, rfl, w⟩
    · have w := w.2 c13
      refine X_aload_n (j := 0) (show decode cX3_queueIsSound 48 = .ok (.aload_n 0, 1) by decide +kernel) rfl rfl ?_
      refine X_aload_n (j := 0) (show decode cX3_queueIsSound 49 = .ok (.aload_n 0, 1) by decide +kernel) rfl rfl ?_
      refine X_iload_n (j := 2) (show decode cX3_queueIsSound 50 = .ok (.iload_n 2, 1) by decide +kernel) rfl rfl ?_
      refine X_vI (rc' := 0) (rs' := 0) (as := [.int _]) mv_X3_134 (show decode cX3_queueIsSound 51 = .ok (.invokevirtual 134, 3) by decide +kernel) (by decide) (Nat.le_of_ble_eq_true rfl) (Nat.le_of_ble_eq_true rfl) rfl rfl (Nat.le_of_ble_eq_true rfl) (rcvD s12 (by decide) rfl) (kX7_inQueue w) (fun E h hk => hk.elim) (fun r16 h15 w => ?_)
      obtain ⟨s37, w⟩ := w
      refine X_vR (rc' := 0) (rs' := 0) (as := [.int _]) mv_X3_137 (show decode cX3_queueIsSound 54 = .ok (.invokevirtual 137, 3) by decide +kernel) (by decide) (Nat.le_of_ble_eq_true rfl) (Nat.le_of_ble_eq_true rfl) rfl rfl (Nat.le_of_ble_eq_true rfl) (rcvD s37 (by decide) rfl) (kX7_find w) (fun E h hk => hk.elim) (fun r18 h17 w => ?_)
      refine X_astore_n (ls' := [(0, .ref _), (1, .int _), (2, .int _), (3, .ref _)]) (show decode cX3_queueIsSound 57 = .ok (.astore_n 3, 1) by decide +kernel) rfl (by decide) rfl ?_
      refine X_aload_n (j := 3) (show decode cX3_queueIsSound 58 = .ok (.aload_n 3, 1) by decide +kernel) rfl rfl ?_
      refine X_ifnull (tgt := 69) (show decode cX3_queueIsSound 59 = .ok (.ifnull 10, 3) by decide +kernel) (by decide) ⟨fun c19 => ?_, fun c19 => ?_⟩
      · have w := w.1 c19
        refine X_iconst (v := 0) (show decode cX3_queueIsSound 69 = .ok (.iconst 0, 1) by decide +kernel) (by decide) ?_
        exact X_iret ⟨(show decode cX3_queueIsSound 70 = .ok (.ireturn, 1) by decide +kernel), .boolean, rfl, (by decide)⟩ ⟨_, rfl, w⟩
      · have w := w.2 c19
        refine X_aload_n (j := 3) (show decode cX3_queueIsSound 62 = .ok (.aload_n 3, 1) by decide +kernel) rfl rfl ?_
        obtain ⟨s36, w⟩ := w
        refine X_vI (rc' := 0) (rs' := 0) (as := []) mv_X3_127 (show decode cX3_queueIsSound 63 = .ok (.invokevirtual 127, 3) by decide +kernel) (by decide) (Nat.le_of_ble_eq_true rfl) (Nat.le_of_ble_eq_true rfl) rfl rfl (Nat.le_of_ble_eq_true rfl) (rcvD s36 (by decide) rfl) (kX8_isRouted w) (fun E h hk => hk.elim) (fun r21 h20 w => ?_)
        refine X_if_eq (tgt := 71) (show decode cX3_queueIsSound 66 = .ok (.ifCond .eq 5, 3) by decide +kernel) (by decide) ⟨fun c22 => ?_, fun c22 => ?_⟩
        · have w := w.1 c22
          refine X_iconst (v := 0) (show decode cX3_queueIsSound 71 = .ok (.iconst 0, 1) by decide +kernel) (by decide) ?_
          refine X_istore (ls' := [(0, .ref _), (1, .int _), (2, .int _), (3, .ref _), (4, .int _)]) (show decode cX3_queueIsSound 72 = .ok (.istore 4, 2) by decide +kernel) (by decide) rfl ?_
          refine X_pick (ls' := [(0, .ref _), (1, .int _), (2, .int _), (4, .int _)]) [0, 1, 2, 4] rfl ?_
          obtain ⟨n35, w⟩ := w
          refine kX3_queueIsSound_L74 ?_ n35 _ _ w
          · intro x0_31 x1_32 x2_33 h34 w
            refine X_iinc (j := 2) (v := _ + 1) (ls' := [(0, .ref _), (1, .int _), (2, .int _)]) (show decode cX3_queueIsSound 102 = .ok (.iinc 2 1, 3) by decide +kernel) rfl rfl (Nat.le_of_ble_eq_true rfl) rfl ?_
            refine X_goto (tgt := 40) (show decode cX3_queueIsSound 105 = .ok (.goto (-65), 3) by decide +kernel) (by decide) ?_
            exact ih _ _ _ _ w
        · have w := w.2 c22
          refine X_iconst (v := 0) (show decode cX3_queueIsSound 69 = .ok (.iconst 0, 1) by decide +kernel) (by decide) ?_
          exact X_iret ⟨(show decode cX3_queueIsSound 70 = .ok (.ireturn, 1) by decide +kernel), .boolean, rfl, (by decide)⟩ ⟨_, rfl, w⟩
set_option maxRecDepth 100000 in
set_option maxHeartbeats 4000000 in
theorem kX3_queueIsSound {a0 : Nat} {h : AH} {K : Int32 → AH → Prop} (w : wX3_queueIsSound a0 h K) : Cn mX3_queueIsSound (cwd mX3_queueIsSound) 2 0 0 [.ref a0] h (KI K) T0 := by
  refine Cn_of (by decide +kernel) rfl (Nat.le_of_ble_eq_true rfl) ?_
  show X mX3_queueIsSound 2 (KI K) T0 0 0 0 [(0, .ref a0), (1, .int 0), (2, .int 0)] [] h
  unfold wX3_queueIsSound at w
  refine X_iconst (v := 0) (show decode cX3_queueIsSound 0 = .ok (.iconst 0, 1) by decide +kernel) (by decide) ?_
  refine X_istore_n (ls' := [(0, .ref _), (1, .int _)]) (show decode cX3_queueIsSound 1 = .ok (.istore_n 1, 1) by decide +kernel) rfl (by decide) rfl ?_
  refine X_iconst (v := 0) (show decode cX3_queueIsSound 2 = .ok (.iconst 0, 1) by decide +kernel) (by decide) ?_
  refine X_istore_n (ls' := [(0, .ref _), (1, .int _), (2, .int _)]) (show decode cX3_queueIsSound 3 = .ok (.istore_n 2, 1) by decide +kernel) rfl (by decide) rfl ?_
  obtain ⟨n39, w⟩ := w
  refine kX3_queueIsSound_L4 ?_ n39 _ _ _ w
  · intro x0_9 x1_10 h11 w
    refine X_iconst (v := 0) (show decode cX3_queueIsSound 38 = .ok (.iconst 0, 1) by decide +kernel) (by decide) ?_
    refine X_istore_n (ls' := [(0, .ref _), (1, .int _), (2, .int _)]) (show decode cX3_queueIsSound 39 = .ok (.istore_n 2, 1) by decide +kernel) rfl (by decide) rfl ?_
    obtain ⟨n38, w⟩ := w
    exact kX3_queueIsSound_L40  n38 _ _ w
set_option maxRecDepth 100000 in
set_option maxHeartbeats 4000000 in
theorem kX3_hold {a0 : Nat} {h : AH} {K : Int32 → AH → Prop} (w : wX3_hold a0 h K) : Cn mX3_hold (cwd mX3_hold) 5 0 0 [.ref a0] h (KI K) T0 := by
  refine Cn_of (by decide +kernel) rfl (Nat.le_of_ble_eq_true rfl) ?_
  show X mX3_hold 5 (KI K) T0 0 0 0 [(0, .ref a0)] [] h
  unfold wX3_hold at w
  refine X_aload_n (j := 0) (show decode cX3_hold 0 = .ok (.aload_n 0, 1) by decide +kernel) rfl rfl ?_
  obtain ⟨s1, w⟩ := w
  refine X_getR fl_X3_9 (show decode cX3_hold 1 = .ok (.getfield 9, 3) by decide +kernel) s1 ?_
  refine X_sI (rc' := 0) (rs' := 0) (as := [.ref _]) ms_X3_15 (show decode cX3_hold 4 = .ok (.invokestatic 15, 3) by decide +kernel) (by decide) (Nat.le_of_ble_eq_true rfl) (Nat.le_of_ble_eq_true rfl) rfl rfl (Nat.le_of_ble_eq_true rfl) (kX3_lineIsSound w) (fun E h hk => hk.elim) (fun r3 h2 w => ?_)
  refine X_if_eq (tgt := 42) (show decode cX3_hold 7 = .ok (.ifCond .eq 35, 3) by decide +kernel) (by decide) ⟨fun c4 => ?_, fun c4 => ?_⟩
  · have w := w.1 c4
    refine X_iconst (v := 0) (show decode cX3_hold 42 = .ok (.iconst 0, 1) by decide +kernel) (by decide) ?_
    exact X_iret ⟨(show decode cX3_hold 43 = .ok (.ireturn, 1) by decide +kernel), .boolean, rfl, (by decide)⟩ ⟨_, rfl, w⟩
  · have w := w.2 c4
    refine X_aload_n (j := 0) (show decode cX3_hold 10 = .ok (.aload_n 0, 1) by decide +kernel) rfl rfl ?_
    refine X_sI (rc' := 0) (rs' := 0) (as := [.ref _]) ms_X3_21 (show decode cX3_hold 11 = .ok (.invokestatic 21, 3) by decide +kernel) (by decide) (Nat.le_of_ble_eq_true rfl) (Nat.le_of_ble_eq_true rfl) rfl rfl (Nat.le_of_ble_eq_true rfl) (kX3_trainsAreSound w) (fun E h hk => hk.elim) (fun r6 h5 w => ?_)
    refine X_if_eq (tgt := 42) (show decode cX3_hold 14 = .ok (.ifCond .eq 28, 3) by decide +kernel) (by decide) ⟨fun c7 => ?_, fun c7 => ?_⟩
    · have w := w.1 c7
      refine X_iconst (v := 0) (show decode cX3_hold 42 = .ok (.iconst 0, 1) by decide +kernel) (by decide) ?_
      exact X_iret ⟨(show decode cX3_hold 43 = .ok (.ireturn, 1) by decide +kernel), .boolean, rfl, (by decide)⟩ ⟨_, rfl, w⟩
    · have w := w.2 c7
      refine X_aload_n (j := 0) (show decode cX3_hold 17 = .ok (.aload_n 0, 1) by decide +kernel) rfl rfl ?_
      refine X_sI (rc' := 0) (rs' := 0) (as := [.ref _]) ms_X3_25 (show decode cX3_hold 18 = .ok (.invokestatic 25, 3) by decide +kernel) (by decide) (Nat.le_of_ble_eq_true rfl) (Nat.le_of_ble_eq_true rfl) rfl rfl (Nat.le_of_ble_eq_true rfl) (kX3_blocksAreHeldOnce w) (fun E h hk => hk.elim) (fun r9 h8 w => ?_)
      refine X_if_eq (tgt := 42) (show decode cX3_hold 21 = .ok (.ifCond .eq 21, 3) by decide +kernel) (by decide) ⟨fun c10 => ?_, fun c10 => ?_⟩
      · have w := w.1 c10
        refine X_iconst (v := 0) (show decode cX3_hold 42 = .ok (.iconst 0, 1) by decide +kernel) (by decide) ?_
        exact X_iret ⟨(show decode cX3_hold 43 = .ok (.ireturn, 1) by decide +kernel), .boolean, rfl, (by decide)⟩ ⟨_, rfl, w⟩
      · have w := w.2 c10
        refine X_aload_n (j := 0) (show decode cX3_hold 24 = .ok (.aload_n 0, 1) by decide +kernel) rfl rfl ?_
        refine X_sI (rc' := 0) (rs' := 0) (as := [.ref _]) ms_X3_28 (show decode cX3_hold 25 = .ok (.invokestatic 28, 3) by decide +kernel) (by decide) (Nat.le_of_ble_eq_true rfl) (Nat.le_of_ble_eq_true rfl) rfl rfl (Nat.le_of_ble_eq_true rfl) (kX3_routesAreSound w) (fun E h hk => hk.elim) (fun r12 h11 w => ?_)
        refine X_if_eq (tgt := 42) (show decode cX3_hold 28 = .ok (.ifCond .eq 14, 3) by decide +kernel) (by decide) ⟨fun c13 => ?_, fun c13 => ?_⟩
        · have w := w.1 c13
          refine X_iconst (v := 0) (show decode cX3_hold 42 = .ok (.iconst 0, 1) by decide +kernel) (by decide) ?_
          exact X_iret ⟨(show decode cX3_hold 43 = .ok (.ireturn, 1) by decide +kernel), .boolean, rfl, (by decide)⟩ ⟨_, rfl, w⟩
        · have w := w.2 c13
          refine X_aload_n (j := 0) (show decode cX3_hold 31 = .ok (.aload_n 0, 1) by decide +kernel) rfl rfl ?_
          refine X_sI (rc' := 0) (rs' := 0) (as := [.ref _]) ms_X3_31 (show decode cX3_hold 32 = .ok (.invokestatic 31, 3) by decide +kernel) (by decide) (Nat.le_of_ble_eq_true rfl) (Nat.le_of_ble_eq_true rfl) rfl rfl (Nat.le_of_ble_eq_true rfl) (kX3_queueIsSound w) (fun E h hk => hk.elim) (fun r15 h14 w => ?_)
          refine X_if_eq (tgt := 42) (show decode cX3_hold 35 = .ok (.ifCond .eq 7, 3) by decide +kernel) (by decide) ⟨fun c16 => ?_, fun c16 => ?_⟩
          · have w := w.1 c16
            refine X_iconst (v := 0) (show decode cX3_hold 42 = .ok (.iconst 0, 1) by decide +kernel) (by decide) ?_
            exact X_iret ⟨(show decode cX3_hold 43 = .ok (.ireturn, 1) by decide +kernel), .boolean, rfl, (by decide)⟩ ⟨_, rfl, w⟩
          · have w := w.2 c16
            refine X_iconst (v := 1) (show decode cX3_hold 38 = .ok (.iconst 1, 1) by decide +kernel) (by decide) ?_
            refine X_goto (tgt := 43) (show decode cX3_hold 39 = .ok (.goto 4, 3) by decide +kernel) (by decide) ?_
            exact X_iret ⟨(show decode cX3_hold 43 = .ok (.ireturn, 1) by decide +kernel), .boolean, rfl, (by decide)⟩ ⟨_, rfl, w⟩
set_option maxRecDepth 100000 in
set_option maxHeartbeats 4000000 in
theorem kX9_isConsistent {a0 : Nat} {h : AH} {K : Int32 → AH → Prop} (w : wX9_isConsistent a0 h K) : Cn mX9_isConsistent (cwd mX9_isConsistent) 6 0 0 [.ref a0] h (KI K) T0 := by
  refine Cn_of (by decide +kernel) rfl (Nat.le_of_ble_eq_true rfl) ?_
  show X mX9_isConsistent 6 (KI K) T0 0 0 0 [(0, .ref a0)] [] h
  unfold wX9_isConsistent at w
  refine X_aload_n (j := 0) (show decode cX9_isConsistent 0 = .ok (.aload_n 0, 1) by decide +kernel) rfl rfl ?_
  obtain ⟨s1, w⟩ := w
  refine X_getR fl_X9_12 (show decode cX9_isConsistent 1 = .ok (.getfield 12, 3) by decide +kernel) s1 ?_
  refine X_sI (rc' := 0) (rs' := 0) (as := [.ref _]) ms_X9_290 (show decode cX9_isConsistent 4 = .ok (.invokestatic 290, 3) by decide +kernel) (by decide) (Nat.le_of_ble_eq_true rfl) (Nat.le_of_ble_eq_true rfl) rfl rfl (Nat.le_of_ble_eq_true rfl) (kX3_hold w) (fun E h hk => hk.elim) (fun r3 h2 w => ?_)
  obtain ⟨s4, w⟩ := w
  exact X_iret ⟨(show decode cX9_isConsistent 7 = .ok (.ireturn, 1) by decide +kernel), .boolean, rfl, s4⟩ ⟨_, rfl, w⟩
set_option maxRecDepth 100000 in
set_option maxHeartbeats 4000000 in
theorem kJx7c733_init_d00df {a0 : Nat} {a1 : Int32} {h : AH} {K : AH → Prop} {T : String → AH → Prop} (w : wJx7c733_init_d00df a0 a1 h K T) : Cn mJx7c733_init_d00df (cwd mJx7c733_init_d00df) 26 24 3634 [.ref a0, .int a1] h (KV K) T := by
  refine Cn_of (by decide +kernel) rfl (Nat.le_of_ble_eq_true rfl) ?_
  show X mJx7c733_init_d00df 26 (KV K) T 24 3634 0 [(0, .ref a0), (1, .int a1)] [] h
  unfold wJx7c733_init_d00df at w
  refine X_aload_n (j := 0) (show decode cJx7c733_init_d00df 0 = .ok (.aload_n 0, 1) by decide +kernel) rfl rfl ?_
  refine X_new (rc' := 23) (rs' := 3630) nw_Jx7c733_10 (show decode cJx7c733_init_d00df 1 = .ok (.new 10, 3) by decide +kernel) (Nat.le_of_ble_eq_true rfl) (Nat.le_of_ble_eq_true rfl) ?_
  have w := w _ rfl
  refine X_dup (show decode cJx7c733_init_d00df 4 = .ok (.dup, 1) by decide +kernel) rfl ?_
  obtain ⟨s4, w⟩ := w
  refine X_iV (rc' := 8) (rs' := 1296) (as := []) mi_Jx7c733_12 (show decode cJx7c733_init_d00df 5 = .ok (.invokespecial 12, 3) by decide +kernel) (by decide) (Nat.le_of_ble_eq_true rfl) (Nat.le_of_ble_eq_true rfl) rfl rfl (Nat.le_of_ble_eq_true rfl) s4 (kJ4_init_da8c8 w) (fun h2 w => ?_)
  exact w.elim
set_option maxRecDepth 100000 in
set_option maxHeartbeats 4000000 in
theorem kJx00060_init_d00df {a0 : Nat} {a1 : Int32} {h : AH} {K : AH → Prop} {T : String → AH → Prop} (w : wJx00060_init_d00df a0 a1 h K T) : Cn mJx00060_init_d00df (cwd mJx00060_init_d00df) 26 24 3634 [.ref a0, .int a1] h (KV K) T := by
  refine Cn_of (by decide +kernel) rfl (Nat.le_of_ble_eq_true rfl) ?_
  show X mJx00060_init_d00df 26 (KV K) T 24 3634 0 [(0, .ref a0), (1, .int a1)] [] h
  unfold wJx00060_init_d00df at w
  refine X_aload_n (j := 0) (show decode cJx00060_init_d00df 0 = .ok (.aload_n 0, 1) by decide +kernel) rfl rfl ?_
  refine X_new (rc' := 23) (rs' := 3630) nw_Jx00060_10 (show decode cJx00060_init_d00df 1 = .ok (.new 10, 3) by decide +kernel) (Nat.le_of_ble_eq_true rfl) (Nat.le_of_ble_eq_true rfl) ?_
  have w := w _ rfl
  refine X_dup (show decode cJx00060_init_d00df 4 = .ok (.dup, 1) by decide +kernel) rfl ?_
  obtain ⟨s4, w⟩ := w
  refine X_iV (rc' := 8) (rs' := 1296) (as := []) mi_Jx00060_12 (show decode cJx00060_init_d00df 5 = .ok (.invokespecial 12, 3) by decide +kernel) (by decide) (Nat.le_of_ble_eq_true rfl) (Nat.le_of_ble_eq_true rfl) rfl rfl (Nat.le_of_ble_eq_true rfl) s4 (kJ4_init_da8c8 w) (fun h2 w => ?_)
  exact w.elim
set_option maxRecDepth 100000 in
set_option maxHeartbeats 4000000 in
theorem kJ7_rangeCheck_23922 {a0 : Int32} {a1 : Int32} {a2 : Int32} {h : AH} {K : AH → Prop} {T : String → AH → Prop} (w : wJ7_rangeCheck_23922 a0 a1 a2 h K T) : Cn mJ7_rangeCheck_23922 (cwd mJ7_rangeCheck_23922) 8 1 6 [.int a0, .int a1, .int a2] h (KV K) T := by
  refine Cn_of (by decide +kernel) rfl (Nat.le_of_ble_eq_true rfl) ?_
  show X mJ7_rangeCheck_23922 8 (KV K) T 1 6 0 [(0, .int a0), (1, .int a1), (2, .int a2)] [] h
  unfold wJ7_rangeCheck_23922 at w
  refine X_iload_n (j := 1) (show decode cJ7_rangeCheck_23922 0 = .ok (.iload_n 1, 1) by decide +kernel) rfl rfl ?_
  refine X_iload_n (j := 2) (show decode cJ7_rangeCheck_23922 1 = .ok (.iload_n 2, 1) by decide +kernel) rfl rfl ?_
  refine X_icmp_le (tgt := 46) (show decode cJ7_rangeCheck_23922 2 = .ok (.if_icmp .le 44, 3) by decide +kernel) (by decide) ⟨fun c1 => ?_, fun c1 => ?_⟩
  · have w := w.1 c1
    refine X_iload_n (j := 1) (show decode cJ7_rangeCheck_23922 46 = .ok (.iload_n 1, 1) by decide +kernel) rfl rfl ?_
    refine X_if_ge (tgt := 59) (show decode cJ7_rangeCheck_23922 47 = .ok (.ifCond .ge 12, 3) by decide +kernel) (by decide) ⟨fun c2 => ?_, fun c2 => ?_⟩
    · have w := w.1 c2
      refine X_iload_n (j := 2) (show decode cJ7_rangeCheck_23922 59 = .ok (.iload_n 2, 1) by decide +kernel) rfl rfl ?_
      refine X_iload_n (j := 0) (show decode cJ7_rangeCheck_23922 60 = .ok (.iload_n 0, 1) by decide +kernel) rfl rfl ?_
      refine X_icmp_le (tgt := 73) (show decode cJ7_rangeCheck_23922 61 = .ok (.if_icmp .le 12, 3) by decide +kernel) (by decide) ⟨fun c3 => ?_, fun c3 => ?_⟩
      · have w := w.1 c3
        exact X_vret ⟨(show decode cJ7_rangeCheck_23922 73 = .ok (.return_, 1) by decide +kernel), rfl⟩ ⟨rfl, w⟩
      · have w := w.2 c3
        exact w.elim
    · have w := w.2 c2
      exact w.elim
  · have w := w.2 c1
    exact w.elim
set_option maxRecDepth 100000 in
set_option maxHeartbeats 4000000 in
theorem kJ7_fill_eb02e_L10 {K : AH → Prop} {T : String → AH → Prop}   {x0 : Nat} {x2 : Int32} {x3 : Int32} : ∀ (n : Nat) (x4 : Int32) (h : AH), wJ7_fill_eb02e_L10 K T  x0 x2 x3 n x4 h → X mJ7_fill_eb02e 9 (KV K) T 0 0 10 [(0, .ref x0), (2, .int x2), (3, .int x3), (4, .int x4)] [] h := by
  intro n
  induction n with
  | zero => intro _ _ w; exact w.elim
  | succ n ih =>
    intro x4 h w
    rw [wJ7_fill_eb02e_L10] at w
    refine X_iload (j := 3) (show decode cJ7_fill_eb02e 10 = .ok (.iload 4, 2) by decide +kernel) rfl ?_
    refine X_iload_n (j := 1) (show decode cJ7_fill_eb02e 12 = .ok (.iload_n 2, 1) by decide +kernel) rfl rfl ?_
    refine X_icmp_ge (tgt := 27) (show decode cJ7_fill_eb02e 13 = .ok (.if_icmp .ge 14, 3) by decide +kernel) (by decide) ⟨fun c4 => ?_, fun c4 => ?_⟩
    · have w := w.1 c4
      exact X_vret ⟨(show decode cJ7_fill_eb02e 27 = .ok (.return_, 1) by decide +kernel), rfl⟩ ⟨rfl, w⟩
    · have w := w.2 c4
      refine X_aload_n (j := 0) (show decode cJ7_fill_eb02e 16 = .ok (.aload_n 0, 1) by decide +kernel) rfl rfl ?_
      refine X_iload (j := 3) (show decode cJ7_fill_eb02e 17 = .ok (.iload 4, 2) by decide +kernel) rfl ?_
      refine X_iload_n (j := 2) (show decode cJ7_fill_eb02e 19 = .ok (.iload_n 3, 1) by decide +kernel) rfl rfl ?_
      obtain ⟨s5, w⟩ := w
      obtain ⟨s6, w⟩ := w
      obtain ⟨s7, w⟩ := w
      refine X_bast (show decode cJ7_fill_eb02e 20 = .ok (.bastore, 1) by decide +kernel) (isA_eq s5) s6 s7 ?_
      have w := w _ rfl
      refine X_iinc (j := 3) (v := _ + 1) (ls' := [(0, .ref _), (2, .int _), (3, .int _), (4, .int _)]) (show decode cJ7_fill_eb02e 21 = .ok (.iinc 4 1, 3) by decide +kernel) rfl rfl (Nat.le_of_ble_eq_true rfl) rfl ?_
      refine X_goto (tgt := 10) (show decode cJ7_fill_eb02e 24 = .ok (.goto (-14), 3) by decide +kernel) (by decide) ?_
      exact ih _ _ _ _ _ w
set_option maxRecDepth 100000 in
set_option maxHeartbeats 4000000 in
theorem kJ7_fill_eb02e {a0 : Nat} {a1 : Int32} {a2 : Int32} {a3 : Int32} {h : AH} {K : AH → Prop} {T : String → AH → Prop} (w : wJ7_fill_eb02e a0 a1 a2 a3 h K T) : Cn mJ7_fill_eb02e (cwd mJ7_fill_eb02e) 9 1 6 [.ref a0, .int a1, .int a2, .int a3] h (KV K) T := by
  refine Cn_of (by decide +kernel) rfl (Nat.le_of_ble_eq_true rfl) ?_
  show X mJ7_fill_eb02e 9 (KV K) T 1 6 0 [(0, .ref a0), (1, .int a1), (2, .int a2), (3, .int a3)] [] h
  unfold wJ7_fill_eb02e at w
  refine X_aload_n (j := 0) (show decode cJ7_fill_eb02e 0 = .ok (.aload_n 0, 1) by decide +kernel) rfl rfl ?_
  obtain ⟨s1, w⟩ := w
  refine X_alen (v := nI (ln _ _)) (show decode cJ7_fill_eb02e 1 = .ok (.arraylength, 1) by decide +kernel) (by decide) (isA_eq s1) rfl ?_
  refine X_iload_n (j := 1) (show decode cJ7_fill_eb02e 2 = .ok (.iload_n 1, 1) by decide +kernel) rfl rfl ?_
  refine X_iload_n (j := 2) (show decode cJ7_fill_eb02e 3 = .ok (.iload_n 2, 1) by decide +kernel) rfl rfl ?_
  refine X_sV (rc' := 0) (rs' := 0) (as := [.int _, .int _, .int _]) ms_J7_13 (show decode cJ7_fill_eb02e 4 = .ok (.invokestatic 13, 3) by decide +kernel) (by decide) (Nat.le_of_ble_eq_true rfl) (Nat.le_of_ble_eq_true rfl) rfl rfl (Nat.le_of_ble_eq_true rfl) (kJ7_rangeCheck_23922 w) (fun E h hk => XT_out hk (fun x hx => absurd hx List.not_mem_nil)) (fun h2 w => ?_)
  refine X_iload_n (j := 1) (show decode cJ7_fill_eb02e 7 = .ok (.iload_n 1, 1) by decide +kernel) rfl rfl ?_
  refine X_istore (ls' := [(0, .ref _), (1, .int _), (2, .int _), (3, .int _), (4, .int _)]) (show decode cJ7_fill_eb02e 8 = .ok (.istore 4, 2) by decide +kernel) (by decide) rfl ?_
  refine X_pick (ls' := [(0, .ref _), (2, .int _), (3, .int _), (4, .int _)]) [0, 2, 3, 4] rfl ?_
  obtain ⟨n9, w⟩ := w
  exact kJ7_fill_eb02e_L10  n9 _ _ w
set_option maxRecDepth 100000 in
set_option maxHeartbeats 4000000 in
theorem kJ1_fillNull_b72d1 {a0 : Nat} {a1 : Int32} {a2 : Int32} {h : AH} {K : AH → Prop} {T : String → AH → Prop} (w : wJ1_fillNull_b72d1 a0 a1 a2 h K T) : Cn mJ1_fillNull_b72d1 (cwd mJ1_fillNull_b72d1) 10 1 6 [.ref a0, .int a1, .int a2] h (KV K) T := by
  refine Cn_of (by decide +kernel) rfl (Nat.le_of_ble_eq_true rfl) ?_
  show X mJ1_fillNull_b72d1 10 (KV K) T 1 6 0 [(0, .ref a0), (1, .int a1), (2, .int a2)] [] h
  unfold wJ1_fillNull_b72d1 at w
  refine X_aload_n (j := 0) (show decode cJ1_fillNull_b72d1 0 = .ok (.aload_n 0, 1) by decide +kernel) rfl rfl ?_
  refine X_iload_n (j := 1) (show decode cJ1_fillNull_b72d1 1 = .ok (.iload_n 1, 1) by decide +kernel) rfl rfl ?_
  refine X_iload_n (j := 2) (show decode cJ1_fillNull_b72d1 2 = .ok (.iload_n 2, 1) by decide +kernel) rfl rfl ?_
  refine X_iconst (v := 0) (show decode cJ1_fillNull_b72d1 3 = .ok (.iconst 0, 1) by decide +kernel) (by decide) ?_
  refine X_sV (rc' := 0) (rs' := 0) (as := [.ref _, .int _, .int _, .int _]) ms_J1_236 (show decode cJ1_fillNull_b72d1 4 = .ok (.invokestatic 236, 3) by decide +kernel) (by decide) (Nat.le_of_ble_eq_true rfl) (Nat.le_of_ble_eq_true rfl) rfl rfl (Nat.le_of_ble_eq_true rfl) (kJ7_fill_eb02e w) (fun E h hk => XT_out hk (fun x hx => absurd hx List.not_mem_nil)) (fun h1 w => ?_)
  exact X_vret ⟨(show decode cJ1_fillNull_b72d1 7 = .ok (.return_, 1) by decide +kernel), rfl⟩ ⟨rfl, w⟩
set_option maxRecDepth 100000 in
set_option maxHeartbeats 4000000 in
theorem kJ2_fillNull_b72d1 {a0 : Nat} {a1 : Int32} {a2 : Int32} {h : AH} {K : AH → Prop} {T : String → AH → Prop} (w : wJ2_fillNull_b72d1 a0 a1 a2 h K T) : Cn mJ2_fillNull_b72d1 (cwd mJ2_fillNull_b72d1) 10 1 6 [.ref a0, .int a1, .int a2] h (KV K) T := by
  refine Cn_of (by decide +kernel) rfl (Nat.le_of_ble_eq_true rfl) ?_
  show X mJ2_fillNull_b72d1 10 (KV K) T 1 6 0 [(0, .ref a0), (1, .int a1), (2, .int a2)] [] h
  unfold wJ2_fillNull_b72d1 at w
  refine X_aload_n (j := 0) (show decode cJ2_fillNull_b72d1 0 = .ok (.aload_n 0, 1) by decide +kernel) rfl rfl ?_
  refine X_iload_n (j := 1) (show decode cJ2_fillNull_b72d1 1 = .ok (.iload_n 1, 1) by decide +kernel) rfl rfl ?_
  refine X_iconst (v := 1) (show decode cJ2_fillNull_b72d1 2 = .ok (.iconst 1, 1) by decide +kernel) (by decide) ?_
  refine X_ishl (show decode cJ2_fillNull_b72d1 3 = .ok (.ishl, 1) by decide +kernel) ?_
  refine X_iload_n (j := 2) (show decode cJ2_fillNull_b72d1 4 = .ok (.iload_n 2, 1) by decide +kernel) rfl rfl ?_
  refine X_iconst (v := 1) (show decode cJ2_fillNull_b72d1 5 = .ok (.iconst 1, 1) by decide +kernel) (by decide) ?_
  refine X_ishl (show decode cJ2_fillNull_b72d1 6 = .ok (.ishl, 1) by decide +kernel) ?_
  refine X_iconst (v := 0) (show decode cJ2_fillNull_b72d1 7 = .ok (.iconst 0, 1) by decide +kernel) (by decide) ?_
  refine X_sV (rc' := 0) (rs' := 0) (as := [.ref _, .int _, .int _, .int _]) ms_J2_380 (show decode cJ2_fillNull_b72d1 8 = .ok (.invokestatic 380, 3) by decide +kernel) (by decide) (Nat.le_of_ble_eq_true rfl) (Nat.le_of_ble_eq_true rfl) rfl rfl (Nat.le_of_ble_eq_true rfl) (kJ7_fill_eb02e w) (fun E h hk => XT_out hk (fun x hx => absurd hx List.not_mem_nil)) (fun h1 w => ?_)
  exact X_vret ⟨(show decode cJ2_fillNull_b72d1 11 = .ok (.return_, 1) by decide +kernel), rfl⟩ ⟨rfl, w⟩
set_option maxRecDepth 100000 in
set_option maxHeartbeats 4000000 in
theorem kJ5_setLength_d00df_J76 {K : AH → Prop} {T : String → AH → Prop}   (x0 : Nat) (x1 : Int32) (h : AH) (w : wJ5_setLength_d00df_J76 K T  x0 x1 h) : X mJ5_setLength_d00df 19 (KV K) T 0 0 76 [(0, .ref x0), (1, .int x1)] [] h := by
  unfold wJ5_setLength_d00df_J76 at w
  refine X_aload_n (j := 0) (show decode cJ5_setLength_d00df 76 = .ok (.aload_n 0, 1) by decide +kernel) rfl rfl ?_
  refine X_iload_n (j := 1) (show decode cJ5_setLength_d00df 77 = .ok (.iload_n 1, 1) by decide +kernel) rfl rfl ?_
  obtain ⟨s7, w⟩ := w
  refine X_putI fp_J5_79 (show decode cJ5_setLength_d00df 78 = .ok (.putfield 79, 3) by decide +kernel) (fun z => nomatch z) s7 rfl rfl ?_
  have w := w _ rfl
  exact X_vret ⟨(show decode cJ5_setLength_d00df 81 = .ok (.return_, 1) by decide +kernel), rfl⟩ ⟨rfl, w⟩
set_option maxRecDepth 100000 in
set_option maxHeartbeats 4000000 in
theorem kJ5_setLength_d00df {a0 : Nat} {a1 : Int32} {h : AH} {K : AH → Prop} {T : String → AH → Prop} (w : wJ5_setLength_d00df a0 a1 h K T) : Cn mJ5_setLength_d00df (cwd mJ5_setLength_d00df) 19 6 784 [.ref a0, .int a1] h (KV K) T := by
  refine Cn_of (by decide +kernel) rfl (Nat.le_of_ble_eq_true rfl) ?_
  show X mJ5_setLength_d00df 19 (KV K) T 6 784 0 [(0, .ref a0), (1, .int a1)] [] h
  unfold wJ5_setLength_d00df at w
  refine X_iload_n (j := 1) (show decode cJ5_setLength_d00df 0 = .ok (.iload_n 1, 1) by decide +kernel) rfl rfl ?_
  refine X_if_ge (tgt := 13) (show decode cJ5_setLength_d00df 1 = .ok (.ifCond .ge 12, 3) by decide +kernel) (by decide) ⟨fun c1 => ?_, fun c1 => ?_⟩
  · have w := w.1 c1
    refine X_aload_n (j := 0) (show decode cJ5_setLength_d00df 13 = .ok (.aload_n 0, 1) by decide +kernel) rfl rfl ?_
    refine X_iload_n (j := 1) (show decode cJ5_setLength_d00df 14 = .ok (.iload_n 1, 1) by decide +kernel) rfl rfl ?_
    obtain ⟨s19, w⟩ := w
    refine X_vV (rc' := 1) (rs' := 6) (as := [.int _]) mv_J5_100_J4 (show decode cJ5_setLength_d00df 15 = .ok (.invokevirtual 100, 3) by decide +kernel) (by decide) (Nat.le_of_ble_eq_true rfl) (Nat.le_of_ble_eq_true rfl) rfl rfl (Nat.le_of_ble_eq_true rfl) (rcvD s19 (by decide) rfl) (kJ5_ensureCapacityInternal_d00df w) (fun E h hk => XT_out hk (fun x hx => absurd hx List.not_mem_nil)) (fun h2 w => ?_)
    refine X_aload_n (j := 0) (show decode cJ5_setLength_d00df 18 = .ok (.aload_n 0, 1) by decide +kernel) rfl rfl ?_
    obtain ⟨s4, w⟩ := w
    refine X_getI fl_J5_79 (show decode cJ5_setLength_d00df 19 = .ok (.getfield 79, 3) by decide +kernel) s4 ?_
    refine X_iload_n (j := 1) (show decode cJ5_setLength_d00df 22 = .ok (.iload_n 1, 1) by decide +kernel) rfl rfl ?_
    refine X_icmp_ge (tgt := 63) (show decode cJ5_setLength_d00df 23 = .ok (.if_icmp .ge 40, 3) by decide +kernel) (by decide) ⟨fun c5 => ?_, fun c5 => ?_⟩
    · have w := w.1 c5
      refine X_aload_n (j := 0) (show decode cJ5_setLength_d00df 63 = .ok (.aload_n 0, 1) by decide +kernel) rfl rfl ?_
      refine X_getI fl_J5_79 (show decode cJ5_setLength_d00df 64 = .ok (.getfield 79, 3) by decide +kernel) s4 ?_
      refine X_iload_n (j := 1) (show decode cJ5_setLength_d00df 67 = .ok (.iload_n 1, 1) by decide +kernel) rfl rfl ?_
      refine X_icmp_le (tgt := 76) (show decode cJ5_setLength_d00df 68 = .ok (.if_icmp .le 8, 3) by decide +kernel) (by decide) ⟨fun c6 => ?_, fun c6 => ?_⟩
      · have w := w.1 c6
        refine X_room (rc' := 0) (rs' := 0) (Nat.le_of_ble_eq_true rfl) (Nat.le_of_ble_eq_true rfl) ?_
        exact kJ5_setLength_d00df_J76  _ _ _ w
      · have w := w.2 c6
        refine X_aload_n (j := 0) (show decode cJ5_setLength_d00df 71 = .ok (.aload_n 0, 1) by decide +kernel) rfl rfl ?_
        refine X_iconst (v := 1) (show decode cJ5_setLength_d00df 72 = .ok (.iconst 1, 1) by decide +kernel) (by decide) ?_
        refine X_putI fp_J5_73 (show decode cJ5_setLength_d00df 73 = .ok (.putfield 73, 3) by decide +kernel) (fun z => nomatch z) s4 (by decide) (by decide) ?_
        have w := w _ rfl
        refine X_room (rc' := 0) (rs' := 0) (Nat.le_of_ble_eq_true rfl) (Nat.le_of_ble_eq_true rfl) ?_
        exact kJ5_setLength_d00df_J76  _ _ _ w
    · have w := w.2 c5
      refine X_aload_n (j := 0) (show decode cJ5_setLength_d00df 26 = .ok (.aload_n 0, 1) by decide +kernel) rfl rfl ?_
      refine X_vI (rc' := 1) (rs' := 6) (as := []) mv_J5_83_J4 (show decode cJ5_setLength_d00df 27 = .ok (.invokevirtual 83, 3) by decide +kernel) (by decide) (Nat.le_of_ble_eq_true rfl) (Nat.le_of_ble_eq_true rfl) rfl rfl (Nat.le_of_ble_eq_true rfl) (rcvD s4 (by decide) rfl) (kJ5_isLatin1_aae02 w) (fun E h hk => hk.elim) (fun r11 h10 w => ?_)
      refine X_if_eq (tgt := 48) (show decode cJ5_setLength_d00df 30 = .ok (.ifCond .eq 18, 3) by decide +kernel) (by decide) ⟨fun c12 => ?_, fun c12 => ?_⟩
      · have w := w.1 c12
        refine X_aload_n (j := 0) (show decode cJ5_setLength_d00df 48 = .ok (.aload_n 0, 1) by decide +kernel) rfl rfl ?_
        obtain ⟨s13, w⟩ := w
        refine X_getR fl_J5_15 (show decode cJ5_setLength_d00df 49 = .ok (.getfield 15, 3) by decide +kernel) s13 ?_
        refine X_aload_n (j := 0) (show decode cJ5_setLength_d00df 52 = .ok (.aload_n 0, 1) by decide +kernel) rfl rfl ?_
        refine X_getI fl_J5_79 (show decode cJ5_setLength_d00df 53 = .ok (.getfield 79, 3) by decide +kernel) s13 ?_
        refine X_iload_n (j := 1) (show decode cJ5_setLength_d00df 56 = .ok (.iload_n 1, 1) by decide +kernel) rfl rfl ?_
        refine X_sV (rc' := 0) (rs' := 0) (as := [.ref _, .int _, .int _]) ms_J5_137 (show decode cJ5_setLength_d00df 57 = .ok (.invokestatic 137, 3) by decide +kernel) (by decide) (Nat.le_of_ble_eq_true rfl) (Nat.le_of_ble_eq_true rfl) rfl rfl (Nat.le_of_ble_eq_true rfl) (kJ2_fillNull_b72d1 w) (fun E h hk => XT_out hk (fun x hx => absurd hx List.not_mem_nil)) (fun h14 w => ?_)
        refine X_goto (tgt := 76) (show decode cJ5_setLength_d00df 60 = .ok (.goto 16, 3) by decide +kernel) (by decide) ?_
        exact kJ5_setLength_d00df_J76  _ _ _ w
      · have w := w.2 c12
        refine X_aload_n (j := 0) (show decode cJ5_setLength_d00df 33 = .ok (.aload_n 0, 1) by decide +kernel) rfl rfl ?_
        obtain ⟨s16, w⟩ := w
        refine X_getR fl_J5_15 (show decode cJ5_setLength_d00df 34 = .ok (.getfield 15, 3) by decide +kernel) s16 ?_
        refine X_aload_n (j := 0) (show decode cJ5_setLength_d00df 37 = .ok (.aload_n 0, 1) by decide +kernel) rfl rfl ?_
        refine X_getI fl_J5_79 (show decode cJ5_setLength_d00df 38 = .ok (.getfield 79, 3) by decide +kernel) s16 ?_
        refine X_iload_n (j := 1) (show decode cJ5_setLength_d00df 41 = .ok (.iload_n 1, 1) by decide +kernel) rfl rfl ?_
        refine X_sV (rc' := 0) (rs' := 0) (as := [.ref _, .int _, .int _]) ms_J5_133 (show decode cJ5_setLength_d00df 42 = .ok (.invokestatic 133, 3) by decide +kernel) (by decide) (Nat.le_of_ble_eq_true rfl) (Nat.le_of_ble_eq_true rfl) rfl rfl (Nat.le_of_ble_eq_true rfl) (kJ1_fillNull_b72d1 w) (fun E h hk => XT_out hk (fun x hx => absurd hx List.not_mem_nil)) (fun h17 w => ?_)
        refine X_goto (tgt := 76) (show decode cJ5_setLength_d00df 45 = .ok (.goto 31, 3) by decide +kernel) (by decide) ?_
        exact kJ5_setLength_d00df_J76  _ _ _ w
  · have w := w.2 c1
    exact w.elim
set_option maxRecDepth 100000 in
set_option maxHeartbeats 4000000 in
theorem kJ4_setLength_d00df {a0 : Nat} {a1 : Int32} {h : AH} {K : AH → Prop} {T : String → AH → Prop} (w : wJ4_setLength_d00df a0 a1 h K T) : Cn mJ4_setLength_d00df (cwd mJ4_setLength_d00df) 20 6 784 [.ref a0, .int a1] h (KV K) T := by
  refine Cn_of (by decide +kernel) rfl (Nat.le_of_ble_eq_true rfl) ?_
  show X mJ4_setLength_d00df 20 (KV K) T 6 784 0 [(0, .ref a0), (1, .int a1)] [] h
  unfold wJ4_setLength_d00df at w
  refine X_aload_n (j := 0) (show decode cJ4_setLength_d00df 0 = .ok (.aload_n 0, 1) by decide +kernel) rfl rfl ?_
  refine X_iload_n (j := 1) (show decode cJ4_setLength_d00df 1 = .ok (.iload_n 1, 1) by decide +kernel) rfl rfl ?_
  obtain ⟨s3, w⟩ := w
  refine X_callP (rc' := 0) (rs' := 0) (as := [.int _]) mp_J4_333 (show decode cJ4_setLength_d00df 2 = .ok (.invokespecial 333, 3) by decide +kernel) (by decide) (Nat.le_of_ble_eq_true rfl) (Nat.le_of_ble_eq_true rfl) rfl rfl (Nat.le_of_ble_eq_true rfl) s3 (kJ5_setLength_d00df w) (fun v9 h1 w => ?_)
  obtain ⟨rfl, w⟩ := w
  exact X_vret ⟨(show decode cJ4_setLength_d00df 5 = .ok (.return_, 1) by decide +kernel), rfl⟩ ⟨rfl, w⟩
set_option maxRecDepth 100000 in
set_option maxHeartbeats 4000000 in
theorem kJ1_canEncode_fc78d {a0 : Int32} {h : AH} {K : Int32 → AH → Prop} (w : wJ1_canEncode_fc78d a0 h K) : Cn mJ1_canEncode_fc78d (cwd mJ1_canEncode_fc78d) 1 0 0 [.int a0] h (KI K) T0 := by
  refine Cn_of (by decide +kernel) rfl (Nat.le_of_ble_eq_true rfl) ?_
  show X mJ1_canEncode_fc78d 1 (KI K) T0 0 0 0 [(0, .int a0)] [] h
  unfold wJ1_canEncode_fc78d at w
  refine X_iload_n (j := 0) (show decode cJ1_canEncode_fc78d 0 = .ok (.iload_n 0, 1) by decide +kernel) rfl rfl ?_
  refine X_sipush (v := 255) (show decode cJ1_canEncode_fc78d 1 = .ok (.sipush 255, 3) by decide +kernel) (by decide) ?_
  refine X_icmp_gt (tgt := 11) (show decode cJ1_canEncode_fc78d 4 = .ok (.if_icmp .gt 7, 3) by decide +kernel) (by decide) ⟨fun c1 => ?_, fun c1 => ?_⟩
  · have w := w.1 c1
    refine X_iconst (v := 0) (show decode cJ1_canEncode_fc78d 11 = .ok (.iconst 0, 1) by decide +kernel) (by decide) ?_
    exact X_iret ⟨(show decode cJ1_canEncode_fc78d 12 = .ok (.ireturn, 1) by decide +kernel), .boolean, rfl, (by decide)⟩ ⟨_, rfl, w⟩
  · have w := w.2 c1
    refine X_iconst (v := 1) (show decode cJ1_canEncode_fc78d 7 = .ok (.iconst 1, 1) by decide +kernel) (by decide) ?_
    refine X_goto (tgt := 12) (show decode cJ1_canEncode_fc78d 8 = .ok (.goto 4, 3) by decide +kernel) (by decide) ?_
    exact X_iret ⟨(show decode cJ1_canEncode_fc78d 12 = .ok (.ireturn, 1) by decide +kernel), .boolean, rfl, (by decide)⟩ ⟨_, rfl, w⟩
set_option maxRecDepth 100000 in
set_option maxHeartbeats 4000000 in
theorem kJ3_checkIndex_8e157_J9 {K : Int32 → AH → Prop}   (x0 : Int32) (x1 : Int32) (x2 : Nat) (h : AH) (w : wJ3_checkIndex_8e157_J9 K  x0 x1 x2 h) : X mJ3_checkIndex_8e157 2 (KI K) T0 0 0 9 [(0, .int x0), (1, .int x1), (2, .ref x2)] [] h := by
  unfold wJ3_checkIndex_8e157_J9 at w
  exact w.elim
set_option maxRecDepth 100000 in
set_option maxHeartbeats 4000000 in
theorem kJ3_checkIndex_8e157 {a0 : Int32} {a1 : Int32} {a2 : Nat} {h : AH} {K : Int32 → AH → Prop} (w : wJ3_checkIndex_8e157 a0 a1 a2 h K) : Cn mJ3_checkIndex_8e157 (cwd mJ3_checkIndex_8e157) 2 0 0 [.int a0, .int a1, .ref a2] h (KI K) T0 := by
  refine Cn_of (by decide +kernel) rfl (Nat.le_of_ble_eq_true rfl) ?_
  show X mJ3_checkIndex_8e157 2 (KI K) T0 0 0 0 [(0, .int a0), (1, .int a1), (2, .ref a2)] [] h
  unfold wJ3_checkIndex_8e157 at w
  refine X_iload_n (j := 0) (show decode cJ3_checkIndex_8e157 0 = .ok (.iload_n 0, 1) by decide +kernel) rfl rfl ?_
  refine X_if_lt (tgt := 9) (show decode cJ3_checkIndex_8e157 1 = .ok (.ifCond .lt 8, 3) by decide +kernel) (by decide) ⟨fun c1 => ?_, fun c1 => ?_⟩
  · have w := w.1 c1
    exact kJ3_checkIndex_8e157_J9  _ _ _ _ w
  · have w := w.2 c1
    refine X_iload_n (j := 0) (show decode cJ3_checkIndex_8e157 4 = .ok (.iload_n 0, 1) by decide +kernel) rfl rfl ?_
    refine X_iload_n (j := 1) (show decode cJ3_checkIndex_8e157 5 = .ok (.iload_n 1, 1) by decide +kernel) rfl rfl ?_
    refine X_icmp_lt (tgt := 16) (show decode cJ3_checkIndex_8e157 6 = .ok (.if_icmp .lt 10, 3) by decide +kernel) (by decide) ⟨fun c2 => ?_, fun c2 => ?_⟩
    · have w := w.1 c2
      refine X_iload_n (j := 0) (show decode cJ3_checkIndex_8e157 16 = .ok (.iload_n 0, 1) by decide +kernel) rfl rfl ?_
      exact X_iret ⟨(show decode cJ3_checkIndex_8e157 17 = .ok (.ireturn, 1) by decide +kernel), .int, rfl, rfl⟩ ⟨_, rfl, w⟩
    · have w := w.2 c2
      exact kJ3_checkIndex_8e157_J9  _ _ _ _ w
set_option maxRecDepth 100000 in
set_option maxHeartbeats 4000000 in
theorem kJ0_checkIndex_df160 {a0 : Int32} {a1 : Int32} {h : AH} {K : AH → Prop} (w : wJ0_checkIndex_df160 a0 a1 h K) : Cn mJ0_checkIndex_df160 (cwd mJ0_checkIndex_df160) 3 0 0 [.int a0, .int a1] h (KV K) T0 := by
  refine Cn_of (by decide +kernel) rfl (Nat.le_of_ble_eq_true rfl) ?_
  show X mJ0_checkIndex_df160 3 (KV K) T0 0 0 0 [(0, .int a0), (1, .int a1)] [] h
  unfold wJ0_checkIndex_df160 at w
  exact w.elim
set_option maxRecDepth 100000 in
set_option maxHeartbeats 4000000 in
theorem kJ2_checkIndex_2214a {a0 : Int32} {a1 : Nat} {h : AH} {K : AH → Prop} (w : wJ2_checkIndex_2214a a0 a1 h K) : Cn mJ2_checkIndex_2214a (cwd mJ2_checkIndex_2214a) 4 0 0 [.int a0, .ref a1] h (KV K) T0 := by
  refine Cn_of (by decide +kernel) rfl (Nat.le_of_ble_eq_true rfl) ?_
  show X mJ2_checkIndex_2214a 4 (KV K) T0 0 0 0 [(0, .int a0), (1, .ref a1)] [] h
  unfold wJ2_checkIndex_2214a at w
  refine X_iload_n (j := 0) (show decode cJ2_checkIndex_2214a 0 = .ok (.iload_n 0, 1) by decide +kernel) rfl rfl ?_
  refine X_aload_n (j := 1) (show decode cJ2_checkIndex_2214a 1 = .ok (.aload_n 1, 1) by decide +kernel) rfl rfl ?_
  refine X_sI (rc' := 0) (rs' := 0) (as := [.ref _]) ms_J2_48 (show decode cJ2_checkIndex_2214a 2 = .ok (.invokestatic 48, 3) by decide +kernel) (by decide) (Nat.le_of_ble_eq_true rfl) (Nat.le_of_ble_eq_true rfl) rfl rfl (Nat.le_of_ble_eq_true rfl) (kJ2_length_9d52b w) (fun E h hk => hk.elim) (fun r2 h1 w => ?_)
  refine X_sV (rc' := 0) (rs' := 0) (as := [.int _, .int _]) ms_J2_414 (show decode cJ2_checkIndex_2214a 5 = .ok (.invokestatic 414, 3) by decide +kernel) (by decide) (Nat.le_of_ble_eq_true rfl) (Nat.le_of_ble_eq_true rfl) rfl rfl (Nat.le_of_ble_eq_true rfl) (kJ0_checkIndex_df160 w) (fun E h hk => hk.elim) (fun h3 w => ?_)
  exact X_vret ⟨(show decode cJ2_checkIndex_2214a 8 = .ok (.return_, 1) by decide +kernel), rfl⟩ ⟨rfl, w⟩
set_option maxRecDepth 100000 in
set_option maxHeartbeats 4000000 in
theorem kJ2_putCharSB_b72d1 {a0 : Nat} {a1 : Int32} {a2 : Int32} {h : AH} {K : AH → Prop} (w : wJ2_putCharSB_b72d1 a0 a1 a2 h K) : Cn mJ2_putCharSB_b72d1 (cwd mJ2_putCharSB_b72d1) 5 0 0 [.ref a0, .int a1, .int a2] h (KV K) T0 := by
  refine Cn_of (by decide +kernel) rfl (Nat.le_of_ble_eq_true rfl) ?_
  show X mJ2_putCharSB_b72d1 5 (KV K) T0 0 0 0 [(0, .ref a0), (1, .int a1), (2, .int a2)] [] h
  unfold wJ2_putCharSB_b72d1 at w
  refine X_iload_n (j := 1) (show decode cJ2_putCharSB_b72d1 0 = .ok (.iload_n 1, 1) by decide +kernel) rfl rfl ?_
  refine X_aload_n (j := 0) (show decode cJ2_putCharSB_b72d1 1 = .ok (.aload_n 0, 1) by decide +kernel) rfl rfl ?_
  refine X_sV (rc' := 0) (rs' := 0) (as := [.int _, .ref _]) ms_J2_67 (show decode cJ2_putCharSB_b72d1 2 = .ok (.invokestatic 67, 3) by decide +kernel) (by decide) (Nat.le_of_ble_eq_true rfl) (Nat.le_of_ble_eq_true rfl) rfl rfl (Nat.le_of_ble_eq_true rfl) (kJ2_checkIndex_2214a w) (fun E h hk => hk.elim) (fun h1 w => ?_)
  refine X_aload_n (j := 0) (show decode cJ2_putCharSB_b72d1 5 = .ok (.aload_n 0, 1) by decide +kernel) rfl rfl ?_
  refine X_iload_n (j := 1) (show decode cJ2_putCharSB_b72d1 6 = .ok (.iload_n 1, 1) by decide +kernel) rfl rfl ?_
  refine X_iload_n (j := 2) (show decode cJ2_putCharSB_b72d1 7 = .ok (.iload_n 2, 1) by decide +kernel) rfl rfl ?_
  refine X_sV (rc' := 0) (rs' := 0) (as := [.ref _, .int _, .int _]) ms_J2_111 (show decode cJ2_putCharSB_b72d1 8 = .ok (.invokestatic 111, 3) by decide +kernel) (by decide) (Nat.le_of_ble_eq_true rfl) (Nat.le_of_ble_eq_true rfl) rfl rfl (Nat.le_of_ble_eq_true rfl) (kJ2_putChar_b72d1 w) (fun E h hk => hk.elim) (fun h3 w => ?_)
  exact X_vret ⟨(show decode cJ2_putCharSB_b72d1 11 = .ok (.return_, 1) by decide +kernel), rfl⟩ ⟨rfl, w⟩
set_option maxRecDepth 100000 in
set_option maxHeartbeats 4000000 in
theorem kJ5_append_3fe6f_J56 {K : Nat → AH → Prop} {T : String → AH → Prop}   (x0 : Nat) (x1 : Int32) (h : AH) (w : wJ5_append_3fe6f_J56 K T  x0 x1 h) : X mJ5_append_3fe6f 19 (KR K) T 0 0 56 [(0, .ref x0), (1, .int x1)] [] h := by
  unfold wJ5_append_3fe6f_J56 at w
  refine X_aload_n (j := 0) (show decode cJ5_append_3fe6f 56 = .ok (.aload_n 0, 1) by decide +kernel) rfl rfl ?_
  obtain ⟨s10, w⟩ := w
  refine X_getR fl_J5_15 (show decode cJ5_append_3fe6f 57 = .ok (.getfield 15, 3) by decide +kernel) s10 ?_
  refine X_aload_n (j := 0) (show decode cJ5_append_3fe6f 60 = .ok (.aload_n 0, 1) by decide +kernel) rfl rfl ?_
  refine X_dup (show decode cJ5_append_3fe6f 61 = .ok (.dup, 1) by decide +kernel) rfl ?_
  refine X_getI fl_J5_79 (show decode cJ5_append_3fe6f 62 = .ok (.getfield 79, 3) by decide +kernel) s10 ?_
  refine X_dup_x1 (show decode cJ5_append_3fe6f 65 = .ok (.dup_x1, 1) by decide +kernel) rfl rfl ?_
  refine X_iconst (v := 1) (show decode cJ5_append_3fe6f 66 = .ok (.iconst 1, 1) by decide +kernel) (by decide) ?_
  refine X_iadd (show decode cJ5_append_3fe6f 67 = .ok (.iadd, 1) by decide +kernel) ?_
  refine X_putI fp_J5_79 (show decode cJ5_append_3fe6f 68 = .ok (.putfield 79, 3) by decide +kernel) (fun z => nomatch z) s10 rfl rfl ?_
  have w := w _ rfl
  refine X_iload_n (j := 1) (show decode cJ5_append_3fe6f 71 = .ok (.iload_n 1, 1) by decide +kernel) rfl rfl ?_
  refine X_sV (rc' := 0) (rs' := 0) (as := [.ref _, .int _, .int _]) ms_J5_197 (show decode cJ5_append_3fe6f 72 = .ok (.invokestatic 197, 3) by decide +kernel) (by decide) (Nat.le_of_ble_eq_true rfl) (Nat.le_of_ble_eq_true rfl) rfl rfl (Nat.le_of_ble_eq_true rfl) (kJ2_putCharSB_b72d1 w) (fun E h hk => hk.elim) (fun h12 w => ?_)
  refine X_aload_n (j := 0) (show decode cJ5_append_3fe6f 75 = .ok (.aload_n 0, 1) by decide +kernel) rfl rfl ?_
  exact X_aret ⟨(show decode cJ5_append_3fe6f 76 = .ok (.areturn, 1) by decide +kernel), _, rfl⟩ ⟨_, rfl, w⟩
set_option maxRecDepth 100000 in
set_option maxHeartbeats 4000000 in
theorem kJ5_append_3fe6f_J45 {K : Nat → AH → Prop} {T : String → AH → Prop}   (x0 : Nat) (x1 : Int32) (h : AH) (w : wJ5_append_3fe6f_J45 K T  x0 x1 h) : X mJ5_append_3fe6f 19 (KR K) T 0 0 45 [(0, .ref x0), (1, .int x1)] [] h := by
  unfold wJ5_append_3fe6f_J45 at w
  refine X_aload_n (j := 0) (show decode cJ5_append_3fe6f 45 = .ok (.aload_n 0, 1) by decide +kernel) rfl rfl ?_
  obtain ⟨s16, w⟩ := w
  refine X_vI (rc' := 0) (rs' := 0) (as := []) mv_J5_83_J4 (show decode cJ5_append_3fe6f 46 = .ok (.invokevirtual 83, 3) by decide +kernel) (by decide) (Nat.le_of_ble_eq_true rfl) (Nat.le_of_ble_eq_true rfl) rfl rfl (Nat.le_of_ble_eq_true rfl) (rcvD s16 (by decide) rfl) (kJ5_isLatin1_aae02 w) (fun E h hk => hk.elim) (fun r8 h7 w => ?_)
  refine X_if_eq (tgt := 56) (show decode cJ5_append_3fe6f 49 = .ok (.ifCond .eq 7, 3) by decide +kernel) (by decide) ⟨fun c9 => ?_, fun c9 => ?_⟩
  · have w := w.1 c9
    exact kJ5_append_3fe6f_J56  _ _ _ w
  · have w := w.2 c9
    exact w.elim
set_option maxRecDepth 100000 in
set_option maxHeartbeats 4000000 in
theorem kJ5_append_3fe6f {a0 : Nat} {a1 : Int32} {h : AH} {K : Nat → AH → Prop} {T : String → AH → Prop} (w : wJ5_append_3fe6f a0 a1 h K T) : Cn mJ5_append_3fe6f (cwd mJ5_append_3fe6f) 19 5 778 [.ref a0, .int a1] h (KR K) T := by
  refine Cn_of (by decide +kernel) rfl (Nat.le_of_ble_eq_true rfl) ?_
  show X mJ5_append_3fe6f 19 (KR K) T 5 778 0 [(0, .ref a0), (1, .int a1)] [] h
  unfold wJ5_append_3fe6f at w
  refine X_aload_n (j := 0) (show decode cJ5_append_3fe6f 0 = .ok (.aload_n 0, 1) by decide +kernel) rfl rfl ?_
  refine X_aload_n (j := 0) (show decode cJ5_append_3fe6f 1 = .ok (.aload_n 0, 1) by decide +kernel) rfl rfl ?_
  obtain ⟨s1, w⟩ := w
  refine X_getI fl_J5_79 (show decode cJ5_append_3fe6f 2 = .ok (.getfield 79, 3) by decide +kernel) s1 ?_
  refine X_iconst (v := 1) (show decode cJ5_append_3fe6f 5 = .ok (.iconst 1, 1) by decide +kernel) (by decide) ?_
  refine X_iadd (show decode cJ5_append_3fe6f 6 = .ok (.iadd, 1) by decide +kernel) ?_
  refine X_vV (rc' := 0) (rs' := 0) (as := [.int _]) mv_J5_100_J4 (show decode cJ5_append_3fe6f 7 = .ok (.invokevirtual 100, 3) by decide +kernel) (by decide) (Nat.le_of_ble_eq_true rfl) (Nat.le_of_ble_eq_true rfl) rfl rfl (Nat.le_of_ble_eq_true rfl) (rcvD s1 (by decide) rfl) (kJ5_ensureCapacityInternal_d00df w) (fun E h hk => XT_out hk (fun x hx => absurd hx List.not_mem_nil)) (fun h2 w => ?_)
  refine X_aload_n (j := 0) (show decode cJ5_append_3fe6f 10 = .ok (.aload_n 0, 1) by decide +kernel) rfl rfl ?_
  obtain ⟨s26, w⟩ := w
  refine X_vI (rc' := 0) (rs' := 0) (as := []) mv_J5_83_J4 (show decode cJ5_append_3fe6f 11 = .ok (.invokevirtual 83, 3) by decide +kernel) (by decide) (Nat.le_of_ble_eq_true rfl) (Nat.le_of_ble_eq_true rfl) rfl rfl (Nat.le_of_ble_eq_true rfl) (rcvD s26 (by decide) rfl) (kJ5_isLatin1_aae02 w) (fun E h hk => hk.elim) (fun r5 h4 w => ?_)
  refine X_if_eq (tgt := 45) (show decode cJ5_append_3fe6f 14 = .ok (.ifCond .eq 31, 3) by decide +kernel) (by decide) ⟨fun c6 => ?_, fun c6 => ?_⟩
  · have w := w.1 c6
    exact kJ5_append_3fe6f_J45  _ _ _ w
  · have w := w.2 c6
    refine X_iload_n (j := 1) (show decode cJ5_append_3fe6f 17 = .ok (.iload_n 1, 1) by decide +kernel) rfl rfl ?_
    refine X_sI (rc' := 0) (rs' := 0) (as := [.int _]) ms_J5_191 (show decode cJ5_append_3fe6f 18 = .ok (.invokestatic 191, 3) by decide +kernel) (by decide) (Nat.le_of_ble_eq_true rfl) (Nat.le_of_ble_eq_true rfl) rfl rfl (Nat.le_of_ble_eq_true rfl) (kJ1_canEncode_fc78d w) (fun E h hk => hk.elim) (fun r18 h17 w => ?_)
    refine X_if_eq (tgt := 45) (show decode cJ5_append_3fe6f 21 = .ok (.ifCond .eq 24, 3) by decide +kernel) (by decide) ⟨fun c19 => ?_, fun c19 => ?_⟩
    · have w := w.1 c19
      exact kJ5_append_3fe6f_J45  _ _ _ w
    · have w := w.2 c19
      refine X_aload_n (j := 0) (show decode cJ5_append_3fe6f 24 = .ok (.aload_n 0, 1) by decide +kernel) rfl rfl ?_
      obtain ⟨s20, w⟩ := w
      refine X_getR fl_J5_15 (show decode cJ5_append_3fe6f 25 = .ok (.getfield 15, 3) by decide +kernel) s20 ?_
      refine X_aload_n (j := 0) (show decode cJ5_append_3fe6f 28 = .ok (.aload_n 0, 1) by decide +kernel) rfl rfl ?_
      refine X_dup (show decode cJ5_append_3fe6f 29 = .ok (.dup, 1) by decide +kernel) rfl ?_
      refine X_getI fl_J5_79 (show decode cJ5_append_3fe6f 30 = .ok (.getfield 79, 3) by decide +kernel) s20 ?_
      refine X_dup_x1 (show decode cJ5_append_3fe6f 33 = .ok (.dup_x1, 1) by decide +kernel) rfl rfl ?_
      refine X_iconst (v := 1) (show decode cJ5_append_3fe6f 34 = .ok (.iconst 1, 1) by decide +kernel) (by decide) ?_
      refine X_iadd (show decode cJ5_append_3fe6f 35 = .ok (.iadd, 1) by decide +kernel) ?_
      refine X_putI fp_J5_79 (show decode cJ5_append_3fe6f 36 = .ok (.putfield 79, 3) by decide +kernel) (fun z => nomatch z) s20 rfl rfl ?_
      have w := w _ rfl
      refine X_iload_n (j := 1) (show decode cJ5_append_3fe6f 39 = .ok (.iload_n 1, 1) by decide +kernel) rfl rfl ?_
      refine X_i2b (show decode cJ5_append_3fe6f 40 = .ok (.i2b, 1) by decide +kernel) ?_
      obtain ⟨s22, w⟩ := w
      obtain ⟨s23, w⟩ := w
      obtain ⟨s24, w⟩ := w
      refine X_bast (show decode cJ5_append_3fe6f 41 = .ok (.bastore, 1) by decide +kernel) (isA_eq s22) s23 s24 ?_
      have w := w _ rfl
      refine X_goto (tgt := 75) (show decode cJ5_append_3fe6f 42 = .ok (.goto 33, 3) by decide +kernel) (by decide) ?_
      refine X_aload_n (j := 0) (show decode cJ5_append_3fe6f 75 = .ok (.aload_n 0, 1) by decide +kernel) rfl rfl ?_
      exact X_aret ⟨(show decode cJ5_append_3fe6f 76 = .ok (.areturn, 1) by decide +kernel), _, rfl⟩ ⟨_, rfl, w⟩
set_option maxRecDepth 100000 in
set_option maxHeartbeats 4000000 in
theorem kJ4_append_cf468 {a0 : Nat} {a1 : Int32} {h : AH} {K : Nat → AH → Prop} {T : String → AH → Prop} (w : wJ4_append_cf468 a0 a1 h K T) : Cn mJ4_append_cf468 (cwd mJ4_append_cf468) 20 5 778 [.ref a0, .int a1] h (KR K) T := by
  refine Cn_of (by decide +kernel) rfl (Nat.le_of_ble_eq_true rfl) ?_
  show X mJ4_append_cf468 20 (KR K) T 5 778 0 [(0, .ref a0), (1, .int a1)] [] h
  unfold wJ4_append_cf468 at w
  refine X_aload_n (j := 0) (show decode cJ4_append_cf468 0 = .ok (.aload_n 0, 1) by decide +kernel) rfl rfl ?_
  refine X_iload_n (j := 1) (show decode cJ4_append_cf468 1 = .ok (.iload_n 1, 1) by decide +kernel) rfl rfl ?_
  obtain ⟨s3, w⟩ := w
  refine X_callP (rc' := 0) (rs' := 0) (as := [.int _]) mp_J4_50 (show decode cJ4_append_cf468 2 = .ok (.invokespecial 50, 3) by decide +kernel) (by decide) (Nat.le_of_ble_eq_true rfl) (Nat.le_of_ble_eq_true rfl) rfl rfl (Nat.le_of_ble_eq_true rfl) s3 (kJ5_append_3fe6f w) (fun v9 h1 w => ?_)
  obtain ⟨r2, rfl, w⟩ := w
  refine X_pop (show decode cJ4_append_cf468 5 = .ok (.pop, 1) by decide +kernel) rfl ?_
  refine X_aload_n (j := 0) (show decode cJ4_append_cf468 6 = .ok (.aload_n 0, 1) by decide +kernel) rfl rfl ?_
  exact X_aret ⟨(show decode cJ4_append_cf468 7 = .ok (.areturn, 1) by decide +kernel), _, rfl⟩ ⟨_, rfl, w⟩
set_option maxRecDepth 100000 in
set_option maxHeartbeats 4000000 in
theorem kJ4_length_8abf5 {a0 : Nat} {h : AH} {K : Int32 → AH → Prop} (w : wJ4_length_8abf5 a0 h K) : Cn mJ4_length_8abf5 (cwd mJ4_length_8abf5) 2 0 0 [.ref a0] h (KI K) T0 := by
  refine Cn_of (by decide +kernel) rfl (Nat.le_of_ble_eq_true rfl) ?_
  show X mJ4_length_8abf5 2 (KI K) T0 0 0 0 [(0, .ref a0)] [] h
  unfold wJ4_length_8abf5 at w
  refine X_aload_n (j := 0) (show decode cJ4_length_8abf5 0 = .ok (.aload_n 0, 1) by decide +kernel) rfl rfl ?_
  obtain ⟨s3, w⟩ := w
  refine X_callP (rc' := 0) (rs' := 0) (as := []) mp_J4_343 (show decode cJ4_length_8abf5 1 = .ok (.invokespecial 343, 3) by decide +kernel) (by decide) (Nat.le_of_ble_eq_true rfl) (Nat.le_of_ble_eq_true rfl) rfl rfl (Nat.le_of_ble_eq_true rfl) s3 (kJ5_length_8abf5 w) (fun v9 h1 w => ?_)
  obtain ⟨r2, rfl, w⟩ := w
  exact X_iret ⟨(show decode cJ4_length_8abf5 4 = .ok (.ireturn, 1) by decide +kernel), .int, rfl, rfl⟩ ⟨_, rfl, w⟩
set_option maxRecDepth 100000 in
set_option maxHeartbeats 4000000 in
theorem kX9_writeBlocks_J54 {K : Int32 → AH → Prop} {T : String → AH → Prop} {c10 : Nat → Int32 → AH → Prop} (hc10 : ∀ x0 x1 h, c10 x0 x1 h → X mX9_writeBlocks 21 (KI K) T 70 10892 10 [(0, .ref x0), (1, .int x1)] [] h) (x0 : Nat) (x1 : Int32) (h : AH) (w : wX9_writeBlocks_J54 K T c10 x0 x1 h) : X mX9_writeBlocks 21 (KI K) T 0 0 54 [(0, .ref x0), (1, .int x1)] [] h := by
  unfold wX9_writeBlocks_J54 at w
  refine X_aload_n (j := 0) (show decode cX9_writeBlocks 54 = .ok (.aload_n 0, 1) by decide +kernel) rfl rfl ?_
  obtain ⟨s17, w⟩ := w
  refine X_getR fl_X9_46 (show decode cX9_writeBlocks 55 = .ok (.getfield 46, 3) by decide +kernel) s17 ?_
  refine X_aload_n (j := 0) (show decode cX9_writeBlocks 58 = .ok (.aload_n 0, 1) by decide +kernel) rfl rfl ?_
  refine X_getR fl_X9_12 (show decode cX9_writeBlocks 59 = .ok (.getfield 12, 3) by decide +kernel) s17 ?_
  refine X_iload_n (j := 1) (show decode cX9_writeBlocks 62 = .ok (.iload_n 1, 1) by decide +kernel) rfl rfl ?_
  obtain ⟨s23, w⟩ := w
  refine X_vI (rc' := 0) (rs' := 0) (as := [.int _]) mv_X9_128 (show decode cX9_writeBlocks 63 = .ok (.invokevirtual 128, 3) by decide +kernel) (by decide) (Nat.le_of_ble_eq_true rfl) (Nat.le_of_ble_eq_true rfl) rfl rfl (Nat.le_of_ble_eq_true rfl) (rcvD s23 (by decide) rfl) (kX7_holderOf w) (fun E h hk => hk.elim) (fun r19 h18 w => ?_)
  obtain ⟨s22, w⟩ := w
  refine X_vR (rc' := 0) (rs' := 0) (as := [.int _]) mv_X9_303 (show decode cX9_writeBlocks 66 = .ok (.invokevirtual 303, 3) by decide +kernel) (by decide) (Nat.le_of_ble_eq_true rfl) (Nat.le_of_ble_eq_true rfl) rfl rfl (Nat.le_of_ble_eq_true rfl) (rcvD s22 (by decide) rfl) (kJ4_append_bf812 w) (fun E h hk => hk.elim) (fun r21 h20 w => ?_)
  refine X_pop (show decode cX9_writeBlocks 69 = .ok (.pop, 1) by decide +kernel) rfl ?_
  refine X_iinc (j := 1) (v := _ + 1) (ls' := [(0, .ref _), (1, .int _)]) (show decode cX9_writeBlocks 70 = .ok (.iinc 1 1, 3) by decide +kernel) rfl rfl (Nat.le_of_ble_eq_true rfl) rfl ?_
  refine X_goto (tgt := 10) (show decode cX9_writeBlocks 73 = .ok (.goto (-63), 3) by decide +kernel) (by decide) ?_
  exact hc10 _ _ _ w
set_option maxRecDepth 100000 in
set_option maxHeartbeats 4000000 in
theorem kX9_writeBlocks_L10 {K : Int32 → AH → Prop} {T : String → AH → Prop}   {x0 : Nat} : ∀ (n : Nat) (x1 : Int32) (h : AH), wX9_writeBlocks_L10 K T  x0 n x1 h → X mX9_writeBlocks 21 (KI K) T (n * 5 + 5) (n * 778 + 778) 10 [(0, .ref x0), (1, .int x1)] [] h := by
  intro n
  induction n with
  | zero => intro _ _ w; exact w.elim
  | succ n ih =>
    intro x1 h w
    rw [wX9_writeBlocks_L10] at w
    refine X_room (rc' := (n * 5 + 10)) (rs' := (n * 778 + 1556)) (by omega) (by omega) ?_
    refine X_iload_n (j := 1) (show decode cX9_writeBlocks 10 = .ok (.iload_n 1, 1) by decide +kernel) rfl rfl ?_
    refine X_aload_n (j := 0) (show decode cX9_writeBlocks 11 = .ok (.aload_n 0, 1) by decide +kernel) rfl rfl ?_
    obtain ⟨s4, w⟩ := w
    refine X_getR fl_X9_12 (show decode cX9_writeBlocks 12 = .ok (.getfield 12, 3) by decide +kernel) s4 ?_
    obtain ⟨s5, w⟩ := w
    refine X_getR fl_X9_72 (show decode cX9_writeBlocks 15 = .ok (.getfield 72, 3) by decide +kernel) s5 ?_
    obtain ⟨s6, w⟩ := w
    refine X_getI fl_X9_114 (show decode cX9_writeBlocks 18 = .ok (.getfield 114, 3) by decide +kernel) s6 ?_
    refine X_icmp_ge (tgt := 76) (show decode cX9_writeBlocks 21 = .ok (.if_icmp .ge 55, 3) by decide +kernel) (by decide) ⟨fun c7 => ?_, fun c7 => ?_⟩
    · have w := w.1 c7
      refine X_aload_n (j := 0) (show decode cX9_writeBlocks 76 = .ok (.aload_n 0, 1) by decide +kernel) rfl rfl ?_
      refine X_getR fl_X9_46 (show decode cX9_writeBlocks 77 = .ok (.getfield 46, 3) by decide +kernel) s4 ?_
      obtain ⟨s10, w⟩ := w
      refine X_vI (rc' := (n * 5 + 10)) (rs' := (n * 778 + 1556)) (as := []) mv_X9_306 (show decode cX9_writeBlocks 80 = .ok (.invokevirtual 306, 3) by decide +kernel) (by decide) (by omega) (by omega) rfl rfl (Nat.le_of_ble_eq_true rfl) (rcvD s10 (by decide) rfl) (kJ4_length_8abf5 w) (fun E h hk => hk.elim) (fun r9 h8 w => ?_)
      exact X_iret ⟨(show decode cX9_writeBlocks 83 = .ok (.ireturn, 1) by decide +kernel), .int, rfl, rfl⟩ ⟨_, rfl, w⟩
    · have w := w.2 c7
      refine X_aload_n (j := 0) (show decode cX9_writeBlocks 24 = .ok (.aload_n 0, 1) by decide +kernel) rfl rfl ?_
      refine X_getR fl_X9_12 (show decode cX9_writeBlocks 25 = .ok (.getfield 12, 3) by decide +kernel) s4 ?_
      refine X_iload_n (j := 1) (show decode cX9_writeBlocks 28 = .ok (.iload_n 1, 1) by decide +kernel) rfl rfl ?_
      refine X_vI (rc' := (n * 5 + 10)) (rs' := (n * 778 + 1556)) (as := [.int _]) mv_X9_124 (show decode cX9_writeBlocks 29 = .ok (.invokevirtual 124, 3) by decide +kernel) (by decide) (by omega) (by omega) rfl rfl (Nat.le_of_ble_eq_true rfl) (rcvD s5 (by decide) rfl) (kX7_stateOf w) (fun E h hk => hk.elim) (fun r12 h11 w => ?_)
      refine X_istore_n (ls' := [(0, .ref _), (1, .int _), (2, .int _)]) (show decode cX9_writeBlocks 32 = .ok (.istore_n 2, 1) by decide +kernel) rfl (by decide) rfl ?_
      refine X_aload_n (j := 0) (show decode cX9_writeBlocks 33 = .ok (.aload_n 0, 1) by decide +kernel) rfl rfl ?_
      obtain ⟨s13, w⟩ := w
      refine X_getR fl_X9_46 (show decode cX9_writeBlocks 34 = .ok (.getfield 46, 3) by decide +kernel) s13 ?_
      refine X_iload_n (j := 2) (show decode cX9_writeBlocks 37 = .ok (.iload_n 2, 1) by decide +kernel) rfl rfl ?_
      obtain ⟨s25, w⟩ := w
      refine X_vR (rc' := (n * 5 + 5)) (rs' := (n * 778 + 778)) (as := [.int _]) mv_X9_299 (show decode cX9_writeBlocks 38 = .ok (.invokevirtual 299, 3) by decide +kernel) (by decide) (by omega) (by omega) rfl rfl (Nat.le_of_ble_eq_true rfl) (rcvD s25 (by decide) rfl) (kJ4_append_cf468 w) (fun E h hk => XT_out hk (fun x hx => absurd hx List.not_mem_nil)) (fun r15 h14 w => ?_)
      refine X_pop (show decode cX9_writeBlocks 41 = .ok (.pop, 1) by decide +kernel) rfl ?_
      refine X_iload_n (j := 2) (show decode cX9_writeBlocks 42 = .ok (.iload_n 2, 1) by decide +kernel) rfl rfl ?_
      refine X_bipush (v := 111) (show decode cX9_writeBlocks 43 = .ok (.bipush 111, 2) by decide +kernel) (by decide) ?_
      refine X_icmp_eq (tgt := 54) (show decode cX9_writeBlocks 45 = .ok (.if_icmp .eq 9, 3) by decide +kernel) (by decide) ⟨fun c16 => ?_, fun c16 => ?_⟩
      · have w := w.1 c16
        refine X_room (rc' := 0) (rs' := 0) (by omega) (by omega) ?_
        refine X_pick (ls' := [(0, .ref _), (1, .int _)]) [0, 1] rfl ?_
        exact kX9_writeBlocks_J54 ih _ _ _ w
      · have w := w.2 c16
        refine X_iload_n (j := 2) (show decode cX9_writeBlocks 48 = .ok (.iload_n 2, 1) by decide +kernel) rfl rfl ?_
        refine X_bipush (v := 114) (show decode cX9_writeBlocks 49 = .ok (.bipush 114, 2) by decide +kernel) (by decide) ?_
        refine X_icmp_ne (tgt := 70) (show decode cX9_writeBlocks 51 = .ok (.if_icmp .ne 19, 3) by decide +kernel) (by decide) ⟨fun c24 => ?_, fun c24 => ?_⟩
        · have w := w.1 c24
          refine X_iinc (j := 1) (v := _ + 1) (ls' := [(0, .ref _), (1, .int _), (2, .int _)]) (show decode cX9_writeBlocks 70 = .ok (.iinc 1 1, 3) by decide +kernel) rfl rfl (Nat.le_of_ble_eq_true rfl) rfl ?_
          refine X_goto (tgt := 10) (show decode cX9_writeBlocks 73 = .ok (.goto (-63), 3) by decide +kernel) (by decide) ?_
          refine X_pick (ls' := [(0, .ref _), (1, .int _)]) [0, 1] rfl ?_
          exact ih _ _ _ w
        · have w := w.2 c24
          refine X_room (rc' := 0) (rs' := 0) (by omega) (by omega) ?_
          refine X_pick (ls' := [(0, .ref _), (1, .int _)]) [0, 1] rfl ?_
          exact kX9_writeBlocks_J54 ih _ _ _ w
set_option maxRecDepth 100000 in
set_option maxHeartbeats 4000000 in
theorem kX9_writeBlocks {a0 : Nat} {h : AH} {K : Int32 → AH → Prop} {T : String → AH → Prop} (w : wX9_writeBlocks a0 h K T) : Cn mX9_writeBlocks (cwd mX9_writeBlocks) 21 76 11676 [.ref a0] h (KI K) T := by
  refine Cn_of (by decide +kernel) rfl (Nat.le_of_ble_eq_true rfl) ?_
  show X mX9_writeBlocks 21 (KI K) T 76 11676 0 [(0, .ref a0)] [] h
  unfold wX9_writeBlocks at w
  refine X_aload_n (j := 0) (show decode cX9_writeBlocks 0 = .ok (.aload_n 0, 1) by decide +kernel) rfl rfl ?_
  obtain ⟨s1, w⟩ := w
  refine X_getR fl_X9_46 (show decode cX9_writeBlocks 1 = .ok (.getfield 46, 3) by decide +kernel) s1 ?_
  refine X_iconst (v := 0) (show decode cX9_writeBlocks 4 = .ok (.iconst 0, 1) by decide +kernel) (by decide) ?_
  obtain ⟨s27, w⟩ := w
  refine X_vV (rc' := 70) (rs' := 10892) (as := [.int _]) mv_X9_296 (show decode cX9_writeBlocks 5 = .ok (.invokevirtual 296, 3) by decide +kernel) (by decide) (Nat.le_of_ble_eq_true rfl) (Nat.le_of_ble_eq_true rfl) rfl rfl (Nat.le_of_ble_eq_true rfl) (rcvD s27 (by decide) rfl) (kJ4_setLength_d00df w) (fun E h hk => XT_out hk (fun x hx => absurd hx List.not_mem_nil)) (fun h2 w => ?_)
  refine X_iconst (v := 0) (show decode cX9_writeBlocks 8 = .ok (.iconst 0, 1) by decide +kernel) (by decide) ?_
  refine X_istore_n (ls' := [(0, .ref _), (1, .int _)]) (show decode cX9_writeBlocks 9 = .ok (.istore_n 1, 1) by decide +kernel) rfl (by decide) rfl ?_
  obtain ⟨n26, hbn26, w⟩ := w
  refine X_room (rc' := n26 * 5 + 5) (rs' := n26 * 778 + 778) (by omega) (by omega) ?_
  exact kX9_writeBlocks_L10  n26 _ _ w
set_option maxRecDepth 100000 in
set_option maxHeartbeats 4000000 in
theorem kX9_writeRestOfRoute_L7 {K : AH → Prop} {T : String → AH → Prop}   {x0 : Nat} {x1 : Nat} : ∀ (n : Nat) (x2 : Int32) (x3 : Int32) (h : AH), wX9_writeRestOfRoute_L7 K T  x0 x1 n x2 x3 h → X mX9_writeRestOfRoute 21 (KV K) T (n * 5 + 5) (n * 778 + 778) 7 [(0, .ref x0), (1, .ref x1), (2, .int x2), (3, .int x3)] [] h := by
  intro n
  induction n with
  | zero => intro _ _ _ w; exact w.elim
  | succ n ih =>
    intro x2 x3 h w
    rw [wX9_writeRestOfRoute_L7] at w
    refine X_room (rc' := (n * 5 + 10)) (rs' := (n * 778 + 1556)) (by omega) (by omega) ?_
    refine X_iload_n (j := 3) (show decode cX9_writeRestOfRoute 7 = .ok (.iload_n 3, 1) by decide +kernel) rfl rfl ?_
    refine X_bipush (v := 12) (show decode cX9_writeRestOfRoute 8 = .ok (.bipush 12, 2) by decide +kernel) (by decide) ?_
    refine X_icmp_ge (tgt := 53) (show decode cX9_writeRestOfRoute 10 = .ok (.if_icmp .ge 43, 3) by decide +kernel) (by decide) ⟨fun c2 => ?_, fun c2 => ?_⟩
    · have w := w.1 c2
      exact X_vret ⟨(show decode cX9_writeRestOfRoute 53 = .ok (.return_, 1) by decide +kernel), rfl⟩ ⟨rfl, w⟩
    · have w := w.2 c2
      refine X_iload_n (j := 2) (show decode cX9_writeRestOfRoute 13 = .ok (.iload_n 2, 1) by decide +kernel) rfl rfl ?_
      refine X_aload_n (j := 1) (show decode cX9_writeRestOfRoute 14 = .ok (.aload_n 1, 1) by decide +kernel) rfl rfl ?_
      obtain ⟨s3, w⟩ := w
      refine X_getI fl_X9_188 (show decode cX9_writeRestOfRoute 15 = .ok (.getfield 188, 3) by decide +kernel) s3 ?_
      refine X_icmp_eq (tgt := 53) (show decode cX9_writeRestOfRoute 18 = .ok (.if_icmp .eq 35, 3) by decide +kernel) (by decide) ⟨fun c4 => ?_, fun c4 => ?_⟩
      · have w := w.1 c4
        exact X_vret ⟨(show decode cX9_writeRestOfRoute 53 = .ok (.return_, 1) by decide +kernel), rfl⟩ ⟨rfl, w⟩
      · have w := w.2 c4
        refine X_aload_n (j := 0) (show decode cX9_writeRestOfRoute 21 = .ok (.aload_n 0, 1) by decide +kernel) rfl rfl ?_
        obtain ⟨s5, w⟩ := w
        refine X_getR fl_X9_12 (show decode cX9_writeRestOfRoute 22 = .ok (.getfield 12, 3) by decide +kernel) s5 ?_
        obtain ⟨s6, w⟩ := w
        refine X_getR fl_X9_72 (show decode cX9_writeRestOfRoute 25 = .ok (.getfield 72, 3) by decide +kernel) s6 ?_
        refine X_iload_n (j := 2) (show decode cX9_writeRestOfRoute 28 = .ok (.iload_n 2, 1) by decide +kernel) rfl rfl ?_
        obtain ⟨s16, w⟩ := w
        refine X_vI (rc' := (n * 5 + 10)) (rs' := (n * 778 + 1556)) (as := [.int _]) mv_X9_399 (show decode cX9_writeRestOfRoute 29 = .ok (.invokevirtual 399, 3) by decide +kernel) (by decide) (by omega) (by omega) rfl rfl (Nat.le_of_ble_eq_true rfl) (rcvD s16 (by decide) rfl) (kX4_exitOf w) (fun E h hk => hk.elim) (fun r8 h7 w => ?_)
        refine X_istore_n (ls' := [(0, .ref _), (1, .ref _), (2, .int _), (3, .int _)]) (show decode cX9_writeRestOfRoute 32 = .ok (.istore_n 2, 1) by decide +kernel) rfl (by decide) rfl ?_
        refine X_aload_n (j := 0) (show decode cX9_writeRestOfRoute 33 = .ok (.aload_n 0, 1) by decide +kernel) rfl rfl ?_
        obtain ⟨s9, w⟩ := w
        refine X_getR fl_X9_46 (show decode cX9_writeRestOfRoute 34 = .ok (.getfield 46, 3) by decide +kernel) s9 ?_
        refine X_bipush (v := 62) (show decode cX9_writeRestOfRoute 37 = .ok (.bipush 62, 2) by decide +kernel) (by decide) ?_
        obtain ⟨s15, w⟩ := w
        refine X_vR (rc' := (n * 5 + 5)) (rs' := (n * 778 + 778)) (as := [.int _]) mv_X9_299 (show decode cX9_writeRestOfRoute 39 = .ok (.invokevirtual 299, 3) by decide +kernel) (by decide) (by omega) (by omega) rfl rfl (Nat.le_of_ble_eq_true rfl) (rcvD s15 (by decide) rfl) (kJ4_append_cf468 w) (fun E h hk => XT_out hk (fun x hx => absurd hx List.not_mem_nil)) (fun r11 h10 w => ?_)
        refine X_iload_n (j := 2) (show decode cX9_writeRestOfRoute 42 = .ok (.iload_n 2, 1) by decide +kernel) rfl rfl ?_
        obtain ⟨s14, w⟩ := w
        refine X_vR (rc' := (n * 5 + 5)) (rs' := (n * 778 + 778)) (as := [.int _]) mv_X9_303 (show decode cX9_writeRestOfRoute 43 = .ok (.invokevirtual 303, 3) by decide +kernel) (by decide) (by omega) (by omega) rfl rfl (Nat.le_of_ble_eq_true rfl) (rcvD s14 (by decide) rfl) (kJ4_append_bf812 w) (fun E h hk => hk.elim) (fun r13 h12 w => ?_)
        refine X_pop (show decode cX9_writeRestOfRoute 46 = .ok (.pop, 1) by decide +kernel) rfl ?_
        refine X_iinc (j := 3) (v := _ + 1) (ls' := [(0, .ref _), (1, .ref _), (2, .int _), (3, .int _)]) (show decode cX9_writeRestOfRoute 47 = .ok (.iinc 3 1, 3) by decide +kernel) rfl rfl (Nat.le_of_ble_eq_true rfl) rfl ?_
        refine X_goto (tgt := 7) (show decode cX9_writeRestOfRoute 50 = .ok (.goto (-43), 3) by decide +kernel) (by decide) ?_
        exact ih _ _ _ _ _ w
set_option maxRecDepth 100000 in
set_option maxHeartbeats 4000000 in
theorem kX9_writeRestOfRoute {a0 : Nat} {a1 : Nat} {h : AH} {K : AH → Prop} {T : String → AH → Prop} (w : wX9_writeRestOfRoute a0 a1 h K T) : Cn mX9_writeRestOfRoute (cwd mX9_writeRestOfRoute) 21 70 10892 [.ref a0, .ref a1] h (KV K) T := by
  refine Cn_of (by decide +kernel) rfl (Nat.le_of_ble_eq_true rfl) ?_
  show X mX9_writeRestOfRoute 21 (KV K) T 70 10892 0 [(0, .ref a0), (1, .ref a1), (2, .int (mI h a1 1)), (3, .int 0)] [] h
  unfold wX9_writeRestOfRoute at w
  refine X_aload_n (j := 1) (show decode cX9_writeRestOfRoute 0 = .ok (.aload_n 1, 1) by decide +kernel) rfl rfl ?_
  obtain ⟨s1, w⟩ := w
  refine X_getI fl_X9_183 (show decode cX9_writeRestOfRoute 1 = .ok (.getfield 183, 3) by decide +kernel) s1 ?_
  refine X_istore_n (ls' := [(0, .ref _), (1, .ref _), (2, .int _)]) (show decode cX9_writeRestOfRoute 4 = .ok (.istore_n 2, 1) by decide +kernel) rfl (by decide) rfl ?_
  refine X_iconst (v := 0) (show decode cX9_writeRestOfRoute 5 = .ok (.iconst 0, 1) by decide +kernel) (by decide) ?_
  refine X_istore_n (ls' := [(0, .ref _), (1, .ref _), (2, .int _), (3, .int _)]) (show decode cX9_writeRestOfRoute 6 = .ok (.istore_n 3, 1) by decide +kernel) rfl (by decide) rfl ?_
  obtain ⟨n17, hbn17, w⟩ := w
  refine X_room (rc' := n17 * 5 + 5) (rs' := n17 * 778 + 778) (by omega) (by omega) ?_
  exact kX9_writeRestOfRoute_L7  n17 _ _ _ w
set_option maxRecDepth 100000 in
set_option maxHeartbeats 4000000 in
theorem kX9_writeTrain_J70 {K : Int32 → AH → Prop} {T : String → AH → Prop}   (x0 : Nat) (h : AH) (w : wX9_writeTrain_J70 K T  x0 h) : X mX9_writeTrain 22 (KI K) T 0 0 70 [(0, .ref x0)] [] h := by
  unfold wX9_writeTrain_J70 at w
  refine X_aload_n (j := 0) (show decode cX9_writeTrain 70 = .ok (.aload_n 0, 1) by decide +kernel) rfl rfl ?_
  obtain ⟨s24, w⟩ := w
  refine X_getR fl_X9_46 (show decode cX9_writeTrain 71 = .ok (.getfield 46, 3) by decide +kernel) s24 ?_
  obtain ⟨s27, w⟩ := w
  refine X_vI (rc' := 0) (rs' := 0) (as := []) mv_X9_306 (show decode cX9_writeTrain 74 = .ok (.invokevirtual 306, 3) by decide +kernel) (by decide) (Nat.le_of_ble_eq_true rfl) (Nat.le_of_ble_eq_true rfl) rfl rfl (Nat.le_of_ble_eq_true rfl) (rcvD s27 (by decide) rfl) (kJ4_length_8abf5 w) (fun E h hk => hk.elim) (fun r26 h25 w => ?_)
  exact X_iret ⟨(show decode cX9_writeTrain 77 = .ok (.ireturn, 1) by decide +kernel), .int, rfl, rfl⟩ ⟨_, rfl, w⟩
set_option maxRecDepth 100000 in
set_option maxHeartbeats 4000000 in
theorem kX9_writeTrain {a0 : Nat} {a1 : Int32} {h : AH} {K : Int32 → AH → Prop} {T : String → AH → Prop} (w : wX9_writeTrain a0 a1 h K T) : Cn mX9_writeTrain (cwd mX9_writeTrain) 22 82 12460 [.ref a0, .int a1] h (KI K) T := by
  refine Cn_of (by decide +kernel) rfl (Nat.le_of_ble_eq_true rfl) ?_
  show X mX9_writeTrain 22 (KI K) T 82 12460 0 [(0, .ref a0), (1, .int a1)] [] h
  unfold wX9_writeTrain at w
  refine X_aload_n (j := 0) (show decode cX9_writeTrain 0 = .ok (.aload_n 0, 1) by decide +kernel) rfl rfl ?_
  refine X_iload_n (j := 1) (show decode cX9_writeTrain 1 = .ok (.iload_n 1, 1) by decide +kernel) rfl rfl ?_
  obtain ⟨s38, w⟩ := w
  refine X_vR (rc' := 81) (rs' := 12454) (as := [.int _]) mv_X9_180 (show decode cX9_writeTrain 2 = .ok (.invokevirtual 180, 3) by decide +kernel) (by decide) (Nat.le_of_ble_eq_true rfl) (Nat.le_of_ble_eq_true rfl) rfl rfl (Nat.le_of_ble_eq_true rfl) (rcvD s38 (by decide) rfl) (kX9_presentTrain w) (fun E h hk => XT_out hk (fun x hx => absurd hx List.not_mem_nil)) (fun r2 h1 w => ?_)
  refine X_astore_n (ls' := [(0, .ref _), (1, .int _), (2, .ref _)]) (show decode cX9_writeTrain 5 = .ok (.astore_n 2, 1) by decide +kernel) rfl (by decide) rfl ?_
  refine X_aload_n (j := 0) (show decode cX9_writeTrain 6 = .ok (.aload_n 0, 1) by decide +kernel) rfl rfl ?_
  obtain ⟨s3, w⟩ := w
  refine X_getR fl_X9_46 (show decode cX9_writeTrain 7 = .ok (.getfield 46, 3) by decide +kernel) s3 ?_
  refine X_iconst (v := 0) (show decode cX9_writeTrain 10 = .ok (.iconst 0, 1) by decide +kernel) (by decide) ?_
  obtain ⟨s37, w⟩ := w
  refine X_vV (rc' := 75) (rs' := 11670) (as := [.int _]) mv_X9_296 (show decode cX9_writeTrain 11 = .ok (.invokevirtual 296, 3) by decide +kernel) (by decide) (Nat.le_of_ble_eq_true rfl) (Nat.le_of_ble_eq_true rfl) rfl rfl (Nat.le_of_ble_eq_true rfl) (rcvD s37 (by decide) rfl) (kJ4_setLength_d00df w) (fun E h hk => XT_out hk (fun x hx => absurd hx List.not_mem_nil)) (fun h4 w => ?_)
  refine X_aload_n (j := 0) (show decode cX9_writeTrain 14 = .ok (.aload_n 0, 1) by decide +kernel) rfl rfl ?_
  obtain ⟨s6, w⟩ := w
  refine X_getR fl_X9_46 (show decode cX9_writeTrain 15 = .ok (.getfield 46, 3) by decide +kernel) s6 ?_
  refine X_aload_n (j := 2) (show decode cX9_writeTrain 18 = .ok (.aload_n 2, 1) by decide +kernel) rfl rfl ?_
  obtain ⟨s7, w⟩ := w
  refine X_getI fl_X9_212 (show decode cX9_writeTrain 19 = .ok (.getfield 212, 3) by decide +kernel) s7 ?_
  obtain ⟨s36, w⟩ := w
  refine X_vR (rc' := 75) (rs' := 11670) (as := [.int _]) mv_X9_303 (show decode cX9_writeTrain 22 = .ok (.invokevirtual 303, 3) by decide +kernel) (by decide) (Nat.le_of_ble_eq_true rfl) (Nat.le_of_ble_eq_true rfl) rfl rfl (Nat.le_of_ble_eq_true rfl) (rcvD s36 (by decide) rfl) (kJ4_append_bf812 w) (fun E h hk => hk.elim) (fun r9 h8 w => ?_)
  refine X_bipush (v := 64) (show decode cX9_writeTrain 25 = .ok (.bipush 64, 2) by decide +kernel) (by decide) ?_
  obtain ⟨s35, w⟩ := w
  refine X_vR (rc' := 70) (rs' := 10892) (as := [.int _]) mv_X9_299 (show decode cX9_writeTrain 27 = .ok (.invokevirtual 299, 3) by decide +kernel) (by decide) (Nat.le_of_ble_eq_true rfl) (Nat.le_of_ble_eq_true rfl) rfl rfl (Nat.le_of_ble_eq_true rfl) (rcvD s35 (by decide) rfl) (kJ4_append_cf468 w) (fun E h hk => XT_out hk (fun x hx => absurd hx List.not_mem_nil)) (fun r11 h10 w => ?_)
  refine X_aload_n (j := 2) (show decode cX9_writeTrain 30 = .ok (.aload_n 2, 1) by decide +kernel) rfl rfl ?_
  obtain ⟨s12, w⟩ := w
  refine X_getI fl_X9_183 (show decode cX9_writeTrain 31 = .ok (.getfield 183, 3) by decide +kernel) s12 ?_
  obtain ⟨s34, w⟩ := w
  refine X_vR (rc' := 70) (rs' := 10892) (as := [.int _]) mv_X9_303 (show decode cX9_writeTrain 34 = .ok (.invokevirtual 303, 3) by decide +kernel) (by decide) (Nat.le_of_ble_eq_true rfl) (Nat.le_of_ble_eq_true rfl) rfl rfl (Nat.le_of_ble_eq_true rfl) (rcvD s34 (by decide) rfl) (kJ4_append_bf812 w) (fun E h hk => hk.elim) (fun r14 h13 w => ?_)
  refine X_pop (show decode cX9_writeTrain 37 = .ok (.pop, 1) by decide +kernel) rfl ?_
  refine X_aload_n (j := 2) (show decode cX9_writeTrain 38 = .ok (.aload_n 2, 1) by decide +kernel) rfl rfl ?_
  obtain ⟨s33, w⟩ := w
  refine X_vI (rc' := 70) (rs' := 10892) (as := []) mv_X9_191 (show decode cX9_writeTrain 39 = .ok (.invokevirtual 191, 3) by decide +kernel) (by decide) (Nat.le_of_ble_eq_true rfl) (Nat.le_of_ble_eq_true rfl) rfl rfl (Nat.le_of_ble_eq_true rfl) (rcvD s33 (by decide) rfl) (kX8_isRouted w) (fun E h hk => hk.elim) (fun r16 h15 w => ?_)
  refine X_if_eq (tgt := 53) (show decode cX9_writeTrain 42 = .ok (.ifCond .eq 11, 3) by decide +kernel) (by decide) ⟨fun c17 => ?_, fun c17 => ?_⟩
  · have w := w.1 c17
    refine X_aload_n (j := 0) (show decode cX9_writeTrain 53 = .ok (.aload_n 0, 1) by decide +kernel) rfl rfl ?_
    obtain ⟨s18, w⟩ := w
    refine X_getR fl_X9_46 (show decode cX9_writeTrain 54 = .ok (.getfield 46, 3) by decide +kernel) s18 ?_
    refine X_bipush (v := 63) (show decode cX9_writeTrain 57 = .ok (.bipush 63, 2) by decide +kernel) (by decide) ?_
    obtain ⟨s29, w⟩ := w
    refine X_vR (rc' := 65) (rs' := 10114) (as := [.int _]) mv_X9_299 (show decode cX9_writeTrain 59 = .ok (.invokevirtual 299, 3) by decide +kernel) (by decide) (Nat.le_of_ble_eq_true rfl) (Nat.le_of_ble_eq_true rfl) rfl rfl (Nat.le_of_ble_eq_true rfl) (rcvD s29 (by decide) rfl) (kJ4_append_cf468 w) (fun E h hk => XT_out hk (fun x hx => absurd hx List.not_mem_nil)) (fun r20 h19 w => ?_)
    refine X_aload_n (j := 2) (show decode cX9_writeTrain 62 = .ok (.aload_n 2, 1) by decide +kernel) rfl rfl ?_
    obtain ⟨s21, w⟩ := w
    refine X_getI fl_X9_188 (show decode cX9_writeTrain 63 = .ok (.getfield 188, 3) by decide +kernel) s21 ?_
    obtain ⟨s28, w⟩ := w
    refine X_vR (rc' := 65) (rs' := 10114) (as := [.int _]) mv_X9_303 (show decode cX9_writeTrain 66 = .ok (.invokevirtual 303, 3) by decide +kernel) (by decide) (Nat.le_of_ble_eq_true rfl) (Nat.le_of_ble_eq_true rfl) rfl rfl (Nat.le_of_ble_eq_true rfl) (rcvD s28 (by decide) rfl) (kJ4_append_bf812 w) (fun E h hk => hk.elim) (fun r23 h22 w => ?_)
    refine X_pop (show decode cX9_writeTrain 69 = .ok (.pop, 1) by decide +kernel) rfl ?_
    refine X_room (rc' := 0) (rs' := 0) (Nat.le_of_ble_eq_true rfl) (Nat.le_of_ble_eq_true rfl) ?_
    refine X_pick (ls' := [(0, .ref _)]) [0] rfl ?_
    exact kX9_writeTrain_J70  _ _ w
  · have w := w.2 c17
    refine X_aload_n (j := 0) (show decode cX9_writeTrain 45 = .ok (.aload_n 0, 1) by decide +kernel) rfl rfl ?_
    refine X_aload_n (j := 2) (show decode cX9_writeTrain 46 = .ok (.aload_n 2, 1) by decide +kernel) rfl rfl ?_
    obtain ⟨s32, w⟩ := w
    refine X_vV (rc' := 0) (rs' := 0) (as := [.ref _]) mv_X9_309 (show decode cX9_writeTrain 47 = .ok (.invokevirtual 309, 3) by decide +kernel) (by decide) (Nat.le_of_ble_eq_true rfl) (Nat.le_of_ble_eq_true rfl) rfl rfl (Nat.le_of_ble_eq_true rfl) (rcvD s32 (by decide) rfl) (kX9_writeRestOfRoute w) (fun E h hk => XT_out hk (fun x hx => absurd hx List.not_mem_nil)) (fun h30 w => ?_)
    refine X_goto (tgt := 70) (show decode cX9_writeTrain 50 = .ok (.goto 20, 3) by decide +kernel) (by decide) ?_
    refine X_pick (ls' := [(0, .ref _)]) [0] rfl ?_
    exact kX9_writeTrain_J70  _ _ w
set_option maxRecDepth 100000 in
set_option maxHeartbeats 4000000 in
theorem kJ5_charAt_5068e {a0 : Nat} {a1 : Int32} {h : AH} {K : Int32 → AH → Prop} (w : wJ5_charAt_5068e a0 a1 h K) : Cn mJ5_charAt_5068e (cwd mJ5_charAt_5068e) 4 0 0 [.ref a0, .int a1] h (KI K) T0 := by
  refine Cn_of (by decide +kernel) rfl (Nat.le_of_ble_eq_true rfl) ?_
  show X mJ5_charAt_5068e 4 (KI K) T0 0 0 0 [(0, .ref a0), (1, .int a1), (2, .int (mI h a0 1)), (3, .ref (mR h a0 0)), (4, .int v3)] [] h
  unfold wJ5_charAt_5068e at w
  refine X_aload_n (j := 0) (show decode cJ5_charAt_5068e 0 = .ok (.aload_n 0, 1) by decide +kernel) rfl rfl ?_
  obtain ⟨s1, w⟩ := w
  refine X_getI fl_J5_22 (show decode cJ5_charAt_5068e 1 = .ok (.getfield 22, 3) by decide +kernel) s1 ?_
  refine X_istore_n (ls' := [(0, .ref _), (1, .int _), (2, .int _)]) (show decode cJ5_charAt_5068e 4 = .ok (.istore_n 2, 1) by decide +kernel) rfl (by decide) rfl ?_
  refine X_aload_n (j := 0) (show decode cJ5_charAt_5068e 5 = .ok (.aload_n 0, 1) by decide +kernel) rfl rfl ?_
  refine X_getR fl_J5_15 (show decode cJ5_charAt_5068e 6 = .ok (.getfield 15, 3) by decide +kernel) s1 ?_
  refine X_astore_n (ls' := [(0, .ref _), (1, .int _), (2, .int _), (3, .ref _)]) (show decode cJ5_charAt_5068e 9 = .ok (.astore_n 3, 1) by decide +kernel) rfl (by decide) rfl ?_
  refine X_aload_n (j := 0) (show decode cJ5_charAt_5068e 10 = .ok (.aload_n 0, 1) by decide +kernel) rfl rfl ?_
  refine X_getI fl_J5_79 (show decode cJ5_charAt_5068e 11 = .ok (.getfield 79, 3) by decide +kernel) s1 ?_
  refine X_aload_n (j := 3) (show decode cJ5_charAt_5068e 14 = .ok (.aload_n 3, 1) by decide +kernel) rfl rfl ?_
  obtain ⟨s2, w⟩ := w
  refine X_alen (v := nI (ln _ _)) (show decode cJ5_charAt_5068e 15 = .ok (.arraylength, 1) by decide +kernel) (by decide) (isA_eq s2) rfl ?_
  refine X_iload_n (j := 2) (show decode cJ5_charAt_5068e 16 = .ok (.iload_n 2, 1) by decide +kernel) rfl rfl ?_
  refine X_ishr (show decode cJ5_charAt_5068e 17 = .ok (.ishr, 1) by decide +kernel) ?_
  refine X_mmin (show decode cJ5_charAt_5068e 18 = .ok (.invokestatic 138, 3) by decide +kernel) gl_J5_138 gst_min gin_Math gco_min (by decide) (by decide) ?_
  refine X_topi (fun v3 e4 => ?_)
  have w := w v3 e4
  refine X_istore (ls' := [(0, .ref _), (1, .int _), (2, .int _), (3, .ref _), (4, .int _)]) (show decode cJ5_charAt_5068e 21 = .ok (.istore 4, 2) by decide +kernel) (by decide) rfl ?_
  refine X_iload_n (j := 1) (show decode cJ5_charAt_5068e 23 = .ok (.iload_n 1, 1) by decide +kernel) rfl rfl ?_
  refine X_iload (j := 4) (show decode cJ5_charAt_5068e 24 = .ok (.iload 4, 2) by decide +kernel) rfl ?_
  refine X_sV (rc' := 0) (rs' := 0) (as := [.int _, .int _]) ms_J5_144 (show decode cJ5_charAt_5068e 26 = .ok (.invokestatic 144, 3) by decide +kernel) (by decide) (Nat.le_of_ble_eq_true rfl) (Nat.le_of_ble_eq_true rfl) rfl rfl (Nat.le_of_ble_eq_true rfl) (kJ0_checkIndex_df160 w) (fun E h hk => hk.elim) (fun h5 w => ?_)
  refine X_iload_n (j := 2) (show decode cJ5_charAt_5068e 29 = .ok (.iload_n 2, 1) by decide +kernel) rfl rfl ?_
  refine X_if_ne (tgt := 42) (show decode cJ5_charAt_5068e 30 = .ok (.ifCond .ne 12, 3) by decide +kernel) (by decide) ⟨fun c7 => ?_, fun c7 => ?_⟩
  · have w := w.1 c7
    refine X_aload_n (j := 3) (show decode cJ5_charAt_5068e 42 = .ok (.aload_n 3, 1) by decide +kernel) rfl rfl ?_
    refine X_iload_n (j := 1) (show decode cJ5_charAt_5068e 43 = .ok (.iload_n 1, 1) by decide +kernel) rfl rfl ?_
    refine X_sI (rc' := 0) (rs' := 0) (as := [.ref _, .int _]) ms_J5_148 (show decode cJ5_charAt_5068e 44 = .ok (.invokestatic 148, 3) by decide +kernel) (by decide) (Nat.le_of_ble_eq_true rfl) (Nat.le_of_ble_eq_true rfl) rfl rfl (Nat.le_of_ble_eq_true rfl) (kJ2_getChar_3b067 w) (fun E h hk => hk.elim) (fun r9 h8 w => ?_)
    obtain ⟨s10, w⟩ := w
    exact X_iret ⟨(show decode cJ5_charAt_5068e 47 = .ok (.ireturn, 1) by decide +kernel), .char, rfl, s10⟩ ⟨_, rfl, w⟩
  · have w := w.2 c7
    refine X_aload_n (j := 3) (show decode cJ5_charAt_5068e 33 = .ok (.aload_n 3, 1) by decide +kernel) rfl rfl ?_
    refine X_iload_n (j := 1) (show decode cJ5_charAt_5068e 34 = .ok (.iload_n 1, 1) by decide +kernel) rfl rfl ?_
    obtain ⟨s11, w⟩ := w
    obtain ⟨s12, w⟩ := w
    refine X_bald (show decode cJ5_charAt_5068e 35 = .ok (.baload, 1) by decide +kernel) (isA_eq s11) s12 ?_
    refine X_sipush (v := 255) (show decode cJ5_charAt_5068e 36 = .ok (.sipush 255, 3) by decide +kernel) (by decide) ?_
    refine X_iand (show decode cJ5_charAt_5068e 39 = .ok (.iand, 1) by decide +kernel) ?_
    refine X_i2c (show decode cJ5_charAt_5068e 40 = .ok (.i2c, 1) by decide +kernel) ?_
    obtain ⟨s13, w⟩ := w
    exact X_iret ⟨(show decode cJ5_charAt_5068e 41 = .ok (.ireturn, 1) by decide +kernel), .char, rfl, s13⟩ ⟨_, rfl, w⟩
set_option maxRecDepth 100000 in
set_option maxHeartbeats 4000000 in
theorem kJ4_charAt_5068e {a0 : Nat} {a1 : Int32} {h : AH} {K : Int32 → AH → Prop} (w : wJ4_charAt_5068e a0 a1 h K) : Cn mJ4_charAt_5068e (cwd mJ4_charAt_5068e) 5 0 0 [.ref a0, .int a1] h (KI K) T0 := by
  refine Cn_of (by decide +kernel) rfl (Nat.le_of_ble_eq_true rfl) ?_
  show X mJ4_charAt_5068e 5 (KI K) T0 0 0 0 [(0, .ref a0), (1, .int a1)] [] h
  unfold wJ4_charAt_5068e at w
  refine X_aload_n (j := 0) (show decode cJ4_charAt_5068e 0 = .ok (.aload_n 0, 1) by decide +kernel) rfl rfl ?_
  refine X_iload_n (j := 1) (show decode cJ4_charAt_5068e 1 = .ok (.iload_n 1, 1) by decide +kernel) rfl rfl ?_
  obtain ⟨s4, w⟩ := w
  refine X_callP (rc' := 0) (rs' := 0) (as := [.int _]) mp_J4_329 (show decode cJ4_charAt_5068e 2 = .ok (.invokespecial 329, 3) by decide +kernel) (by decide) (Nat.le_of_ble_eq_true rfl) (Nat.le_of_ble_eq_true rfl) rfl rfl (Nat.le_of_ble_eq_true rfl) s4 (kJ5_charAt_5068e w) (fun v9 h1 w => ?_)
  obtain ⟨r2, rfl, w⟩ := w
  obtain ⟨s3, w⟩ := w
  exact X_iret ⟨(show decode cJ4_charAt_5068e 5 = .ok (.ireturn, 1) by decide +kernel), .char, rfl, s3⟩ ⟨_, rfl, w⟩
set_option maxRecDepth 100000 in
set_option maxHeartbeats 4000000 in
theorem kX9_charAt_J15 {K : Int32 → AH → Prop} {T : String → AH → Prop}    (h : AH) (w : wX9_charAt_J15 K T   h) : X mX9_charAt 8 (KI K) T 1 6 15 [] [] h := by
  unfold wX9_charAt_J15 at w
  exact X_throwSW tw_X9_313_315 (show decode cX9_charAt 15 = .ok (.new 313, 3) by decide +kernel) (show decode cX9_charAt 18 = .ok (.dup, 1) by decide +kernel) (show decode cX9_charAt 19 = .ok (.ldc_w 315, 3) by decide +kernel) (show decode cX9_charAt 22 = .ok (.invokespecial 317, 3) by decide +kernel) (show decode cX9_charAt 25 = .ok (.athrow, 1) by decide +kernel) (fun x hx => absurd hx List.not_mem_nil) (by decide) (Nat.le_of_ble_eq_true rfl) (Nat.le_of_ble_eq_true rfl) (Nat.le_of_ble_eq_true rfl) w
set_option maxRecDepth 100000 in
set_option maxHeartbeats 4000000 in
theorem kX9_charAt {a0 : Nat} {a1 : Int32} {h : AH} {K : Int32 → AH → Prop} {T : String → AH → Prop} (w : wX9_charAt a0 a1 h K T) : Cn mX9_charAt (cwd mX9_charAt) 8 1 6 [.ref a0, .int a1] h (KI K) T := by
  refine Cn_of (by decide +kernel) rfl (Nat.le_of_ble_eq_true rfl) ?_
  show X mX9_charAt 8 (KI K) T 1 6 0 [(0, .ref a0), (1, .int a1)] [] h
  unfold wX9_charAt at w
  refine X_iload_n (j := 1) (show decode cX9_charAt 0 = .ok (.iload_n 1, 1) by decide +kernel) rfl rfl ?_
  refine X_if_lt (tgt := 15) (show decode cX9_charAt 1 = .ok (.ifCond .lt 14, 3) by decide +kernel) (by decide) ⟨fun c1 => ?_, fun c1 => ?_⟩
  · have w := w.1 c1
    refine X_pick (ls' := []) [] rfl ?_
    exact kX9_charAt_J15  _ w
  · have w := w.2 c1
    refine X_iload_n (j := 1) (show decode cX9_charAt 4 = .ok (.iload_n 1, 1) by decide +kernel) rfl rfl ?_
    refine X_aload_n (j := 0) (show decode cX9_charAt 5 = .ok (.aload_n 0, 1) by decide +kernel) rfl rfl ?_
    obtain ⟨s2, w⟩ := w
    refine X_getR fl_X9_46 (show decode cX9_charAt 6 = .ok (.getfield 46, 3) by decide +kernel) s2 ?_
    obtain ⟨s11, w⟩ := w
    refine X_vI (rc' := 1) (rs' := 6) (as := []) mv_X9_306 (show decode cX9_charAt 9 = .ok (.invokevirtual 306, 3) by decide +kernel) (by decide) (Nat.le_of_ble_eq_true rfl) (Nat.le_of_ble_eq_true rfl) rfl rfl (Nat.le_of_ble_eq_true rfl) (rcvD s11 (by decide) rfl) (kJ4_length_8abf5 w) (fun E h hk => hk.elim) (fun r4 h3 w => ?_)
    refine X_icmp_lt (tgt := 26) (show decode cX9_charAt 12 = .ok (.if_icmp .lt 14, 3) by decide +kernel) (by decide) ⟨fun c5 => ?_, fun c5 => ?_⟩
    · have w := w.1 c5
      refine X_aload_n (j := 0) (show decode cX9_charAt 26 = .ok (.aload_n 0, 1) by decide +kernel) rfl rfl ?_
      obtain ⟨s6, w⟩ := w
      refine X_getR fl_X9_46 (show decode cX9_charAt 27 = .ok (.getfield 46, 3) by decide +kernel) s6 ?_
      refine X_iload_n (j := 1) (show decode cX9_charAt 30 = .ok (.iload_n 1, 1) by decide +kernel) rfl rfl ?_
      obtain ⟨s10, w⟩ := w
      refine X_vI (rc' := 1) (rs' := 6) (as := [.int _]) mv_X9_318 (show decode cX9_charAt 31 = .ok (.invokevirtual 318, 3) by decide +kernel) (by decide) (Nat.le_of_ble_eq_true rfl) (Nat.le_of_ble_eq_true rfl) rfl rfl (Nat.le_of_ble_eq_true rfl) (rcvD s10 (by decide) rfl) (kJ4_charAt_5068e w) (fun E h hk => hk.elim) (fun r8 h7 w => ?_)
      obtain ⟨s9, w⟩ := w
      exact X_iret ⟨(show decode cX9_charAt 34 = .ok (.ireturn, 1) by decide +kernel), .char, rfl, s9⟩ ⟨_, rfl, w⟩
    · have w := w.2 c5
      refine X_pick (ls' := []) [] rfl ?_
      exact kX9_charAt_J15  _ w
set_option maxRecDepth 100000 in
set_option maxHeartbeats 4000000 in
theorem kX5_append {a0 : Nat} {a1 : Int32} {h : AH} {K : Int32 → AH → Prop} (w : wX5_append a0 a1 h K) : Cn mX5_append (cwd mX5_append) 1 0 0 [.ref a0, .int a1] h (KI K) T0 := by
  refine Cn_of (by decide +kernel) rfl (Nat.le_of_ble_eq_true rfl) ?_
  show X mX5_append 1 (KI K) T0 0 0 0 [(0, .ref a0), (1, .int a1)] [] h
  unfold wX5_append at w
  refine X_aload_n (j := 0) (show decode cX5_append 0 = .ok (.aload_n 0, 1) by decide +kernel) rfl rfl ?_
  obtain ⟨s1, w⟩ := w
  refine X_getI fl_X5_15 (show decode cX5_append 1 = .ok (.getfield 15, 3) by decide +kernel) s1 ?_
  refine X_bipush (v := 60) (show decode cX5_append 4 = .ok (.bipush 60, 2) by decide +kernel) (by decide) ?_
  refine X_icmp_lt (tgt := 11) (show decode cX5_append 6 = .ok (.if_icmp .lt 5, 3) by decide +kernel) (by decide) ⟨fun c2 => ?_, fun c2 => ?_⟩
  · have w := w.1 c2
    refine X_aload_n (j := 0) (show decode cX5_append 11 = .ok (.aload_n 0, 1) by decide +kernel) rfl rfl ?_
    refine X_getR fl_X5_9 (show decode cX5_append 12 = .ok (.getfield 9, 3) by decide +kernel) s1 ?_
    refine X_aload_n (j := 0) (show decode cX5_append 15 = .ok (.aload_n 0, 1) by decide +kernel) rfl rfl ?_
    refine X_getI fl_X5_15 (show decode cX5_append 16 = .ok (.getfield 15, 3) by decide +kernel) s1 ?_
    refine X_iload_n (j := 1) (show decode cX5_append 19 = .ok (.iload_n 1, 1) by decide +kernel) rfl rfl ?_
    obtain ⟨s3, w⟩ := w
    obtain ⟨s4, w⟩ := w
    obtain ⟨s5, w⟩ := w
    refine X_cast (show decode cX5_append 20 = .ok (.castore, 1) by decide +kernel) (isA_eq s3) s4 s5 ?_
    have w := w _ rfl
    refine X_aload_n (j := 0) (show decode cX5_append 21 = .ok (.aload_n 0, 1) by decide +kernel) rfl rfl ?_
    refine X_dup (show decode cX5_append 22 = .ok (.dup, 1) by decide +kernel) rfl ?_
    refine X_getI fl_X5_15 (show decode cX5_append 23 = .ok (.getfield 15, 3) by decide +kernel) s1 ?_
    refine X_iconst (v := 1) (show decode cX5_append 26 = .ok (.iconst 1, 1) by decide +kernel) (by decide) ?_
    refine X_iadd (show decode cX5_append 27 = .ok (.iadd, 1) by decide +kernel) ?_
    refine X_putI fp_X5_15 (show decode cX5_append 28 = .ok (.putfield 15, 3) by decide +kernel) (fun z => nomatch z) s1 rfl rfl ?_
    have w := w _ rfl
    refine X_iconst (v := 1) (show decode cX5_append 31 = .ok (.iconst 1, 1) by decide +kernel) (by decide) ?_
    exact X_iret ⟨(show decode cX5_append 32 = .ok (.ireturn, 1) by decide +kernel), .boolean, rfl, (by decide)⟩ ⟨_, rfl, w⟩
  · have w := w.2 c2
    refine X_iconst (v := 0) (show decode cX5_append 9 = .ok (.iconst 0, 1) by decide +kernel) (by decide) ?_
    exact X_iret ⟨(show decode cX5_append 10 = .ok (.ireturn, 1) by decide +kernel), .boolean, rfl, (by decide)⟩ ⟨_, rfl, w⟩
set_option maxRecDepth 100000 in
set_option maxHeartbeats 4000000 in
theorem kX9_type {a0 : Nat} {a1 : Int32} {h : AH} {K : Int32 → AH → Prop} {T : String → AH → Prop} (w : wX9_type a0 a1 h K T) : Cn mX9_type (cwd mX9_type) 8 1 6 [.ref a0, .int a1] h (KI K) T := by
  refine Cn_of (by decide +kernel) rfl (Nat.le_of_ble_eq_true rfl) ?_
  show X mX9_type 8 (KI K) T 1 6 0 [(0, .ref a0), (1, .int a1)] [] h
  unfold wX9_type at w
  refine X_aload_n (j := 0) (show decode cX9_type 0 = .ok (.aload_n 0, 1) by decide +kernel) rfl rfl ?_
  obtain ⟨s1, w⟩ := w
  refine X_getR fl_X9_39 (show decode cX9_type 1 = .ok (.getfield 39, 3) by decide +kernel) s1 ?_
  refine X_iload_n (j := 1) (show decode cX9_type 4 = .ok (.iload_n 1, 1) by decide +kernel) rfl rfl ?_
  obtain ⟨s7, w⟩ := w
  refine X_vI (rc' := 1) (rs' := 6) (as := [.int _]) mv_X9_321 (show decode cX9_type 5 = .ok (.invokevirtual 321, 3) by decide +kernel) (by decide) (Nat.le_of_ble_eq_true rfl) (Nat.le_of_ble_eq_true rfl) rfl rfl (Nat.le_of_ble_eq_true rfl) (rcvD s7 (by decide) rfl) (kX5_append w) (fun E h hk => hk.elim) (fun r3 h2 w => ?_)
  refine X_if_ne (tgt := 22) (show decode cX9_type 8 = .ok (.ifCond .ne 14, 3) by decide +kernel) (by decide) ⟨fun c4 => ?_, fun c4 => ?_⟩
  · have w := w.1 c4
    refine X_aload_n (j := 0) (show decode cX9_type 22 = .ok (.aload_n 0, 1) by decide +kernel) rfl rfl ?_
    obtain ⟨s5, w⟩ := w
    refine X_getR fl_X9_39 (show decode cX9_type 23 = .ok (.getfield 39, 3) by decide +kernel) s5 ?_
    obtain ⟨s6, w⟩ := w
    refine X_getI fl_X9_329 (show decode cX9_type 26 = .ok (.getfield 329, 3) by decide +kernel) s6 ?_
    exact X_iret ⟨(show decode cX9_type 29 = .ok (.ireturn, 1) by decide +kernel), .int, rfl, rfl⟩ ⟨_, rfl, w⟩
  · have w := w.2 c4
    exact X_throwSW tw_X9_324_326 (show decode cX9_type 11 = .ok (.new 324, 3) by decide +kernel) (show decode cX9_type 14 = .ok (.dup, 1) by decide +kernel) (show decode cX9_type 15 = .ok (.ldc_w 326, 3) by decide +kernel) (show decode cX9_type 18 = .ok (.invokespecial 328, 3) by decide +kernel) (show decode cX9_type 21 = .ok (.athrow, 1) by decide +kernel) (fun x hx => absurd hx List.not_mem_nil) (by decide) (Nat.le_of_ble_eq_true rfl) (Nat.le_of_ble_eq_true rfl) (Nat.le_of_ble_eq_true rfl) w
set_option maxRecDepth 100000 in
set_option maxHeartbeats 4000000 in
theorem kJ0_isLatin1_aae02 {a0 : Nat} {h : AH} {K : Int32 → AH → Prop} (w : wJ0_isLatin1_aae02 a0 h K) : Cn mJ0_isLatin1_aae02 (cwd mJ0_isLatin1_aae02) 1 0 0 [.ref a0] h (KI K) T0 := by
  refine Cn_of (by decide +kernel) rfl (Nat.le_of_ble_eq_true rfl) ?_
  show X mJ0_isLatin1_aae02 1 (KI K) T0 0 0 0 [(0, .ref a0)] [] h
  unfold wJ0_isLatin1_aae02 at w
  refine X_getstI (j := 3) rfl gz_J0_38 (show decode cJ0_isLatin1_aae02 0 = .ok (.getstatic 38, 3) by decide +kernel) ?_
  refine X_if_eq (tgt := 17) (show decode cJ0_isLatin1_aae02 3 = .ok (.ifCond .eq 14, 3) by decide +kernel) (by decide) ⟨fun c1 => ?_, fun c1 => ?_⟩
  · have w := w.1 c1
    refine X_iconst (v := 0) (show decode cJ0_isLatin1_aae02 17 = .ok (.iconst 0, 1) by decide +kernel) (by decide) ?_
    exact X_iret ⟨(show decode cJ0_isLatin1_aae02 18 = .ok (.ireturn, 1) by decide +kernel), .boolean, rfl, (by decide)⟩ ⟨_, rfl, w⟩
  · have w := w.2 c1
    refine X_aload_n (j := 0) (show decode cJ0_isLatin1_aae02 6 = .ok (.aload_n 0, 1) by decide +kernel) rfl rfl ?_
    obtain ⟨s2, w⟩ := w
    obtain ⟨s3, w⟩ := w
    refine X_getS (j := 1) (kd := 20) (c := 0) (show decode cJ0_isLatin1_aae02 7 = .ok (.getfield 15, 3) by decide +kernel) (by decide) rfl rfl (Or.inl (gw_of (List.mem_of_getElem? (i := 912) (by decide +kernel)) (by decide +kernel))) s2 s3 ?_
    show X _ _ _ _ _ _ _ _ (.int (mI _ _ 1) :: _) _
    refine X_if_ne (tgt := 17) (show decode cJ0_isLatin1_aae02 10 = .ok (.ifCond .ne 7, 3) by decide +kernel) (by decide) ⟨fun c4 => ?_, fun c4 => ?_⟩
    · have w := w.1 c4
      refine X_iconst (v := 0) (show decode cJ0_isLatin1_aae02 17 = .ok (.iconst 0, 1) by decide +kernel) (by decide) ?_
      exact X_iret ⟨(show decode cJ0_isLatin1_aae02 18 = .ok (.ireturn, 1) by decide +kernel), .boolean, rfl, (by decide)⟩ ⟨_, rfl, w⟩
    · have w := w.2 c4
      refine X_iconst (v := 1) (show decode cJ0_isLatin1_aae02 13 = .ok (.iconst 1, 1) by decide +kernel) (by decide) ?_
      refine X_goto (tgt := 18) (show decode cJ0_isLatin1_aae02 14 = .ok (.goto 4, 3) by decide +kernel) (by decide) ?_
      exact X_iret ⟨(show decode cJ0_isLatin1_aae02 18 = .ok (.ireturn, 1) by decide +kernel), .boolean, rfl, (by decide)⟩ ⟨_, rfl, w⟩
set_option maxRecDepth 100000 in
set_option maxHeartbeats 4000000 in
theorem kJ1_charAt_3b067 {a0 : Nat} {a1 : Int32} {h : AH} {K : Int32 → AH → Prop} (w : wJ1_charAt_3b067 a0 a1 h K) : Cn mJ1_charAt_3b067 (cwd mJ1_charAt_3b067) 4 0 0 [.ref a0, .int a1] h (KI K) T0 := by
  refine Cn_of (by decide +kernel) rfl (Nat.le_of_ble_eq_true rfl) ?_
  show X mJ1_charAt_3b067 4 (KI K) T0 0 0 0 [(0, .ref a0), (1, .int a1)] [] h
  unfold wJ1_charAt_3b067 at w
  refine X_iload_n (j := 1) (show decode cJ1_charAt_3b067 0 = .ok (.iload_n 1, 1) by decide +kernel) rfl rfl ?_
  refine X_aload_n (j := 0) (show decode cJ1_charAt_3b067 1 = .ok (.aload_n 0, 1) by decide +kernel) rfl rfl ?_
  obtain ⟨s1, w⟩ := w
  refine X_alen (v := nI (ln _ _)) (show decode cJ1_charAt_3b067 2 = .ok (.arraylength, 1) by decide +kernel) (by decide) (isA_eq s1) rfl ?_
  refine X_sV (rc' := 0) (rs' := 0) (as := [.int _, .int _]) ms_J1_9 (show decode cJ1_charAt_3b067 3 = .ok (.invokestatic 9, 3) by decide +kernel) (by decide) (Nat.le_of_ble_eq_true rfl) (Nat.le_of_ble_eq_true rfl) rfl rfl (Nat.le_of_ble_eq_true rfl) (kJ0_checkIndex_df160 w) (fun E h hk => hk.elim) (fun h2 w => ?_)
  refine X_aload_n (j := 0) (show decode cJ1_charAt_3b067 6 = .ok (.aload_n 0, 1) by decide +kernel) rfl rfl ?_
  refine X_iload_n (j := 1) (show decode cJ1_charAt_3b067 7 = .ok (.iload_n 1, 1) by decide +kernel) rfl rfl ?_
  obtain ⟨s4, w⟩ := w
  obtain ⟨s5, w⟩ := w
  refine X_bald (show decode cJ1_charAt_3b067 8 = .ok (.baload, 1) by decide +kernel) (isA_eq s4) s5 ?_
  refine X_sipush (v := 255) (show decode cJ1_charAt_3b067 9 = .ok (.sipush 255, 3) by decide +kernel) (by decide) ?_
  refine X_iand (show decode cJ1_charAt_3b067 12 = .ok (.iand, 1) by decide +kernel) ?_
  refine X_i2c (show decode cJ1_charAt_3b067 13 = .ok (.i2c, 1) by decide +kernel) ?_
  obtain ⟨s6, w⟩ := w
  exact X_iret ⟨(show decode cJ1_charAt_3b067 14 = .ok (.ireturn, 1) by decide +kernel), .char, rfl, s6⟩ ⟨_, rfl, w⟩
set_option maxRecDepth 100000 in
set_option maxHeartbeats 4000000 in
theorem kJ2_charAt_3b067 {a0 : Nat} {a1 : Int32} {h : AH} {K : Int32 → AH → Prop} (w : wJ2_charAt_3b067 a0 a1 h K) : Cn mJ2_charAt_3b067 (cwd mJ2_charAt_3b067) 5 0 0 [.ref a0, .int a1] h (KI K) T0 := by
  refine Cn_of (by decide +kernel) rfl (Nat.le_of_ble_eq_true rfl) ?_
  show X mJ2_charAt_3b067 5 (KI K) T0 0 0 0 [(0, .ref a0), (1, .int a1)] [] h
  unfold wJ2_charAt_3b067 at w
  refine X_iload_n (j := 1) (show decode cJ2_charAt_3b067 0 = .ok (.iload_n 1, 1) by decide +kernel) rfl rfl ?_
  refine X_aload_n (j := 0) (show decode cJ2_charAt_3b067 1 = .ok (.aload_n 0, 1) by decide +kernel) rfl rfl ?_
  refine X_sV (rc' := 0) (rs' := 0) (as := [.int _, .ref _]) ms_J2_67 (show decode cJ2_charAt_3b067 2 = .ok (.invokestatic 67, 3) by decide +kernel) (by decide) (Nat.le_of_ble_eq_true rfl) (Nat.le_of_ble_eq_true rfl) rfl rfl (Nat.le_of_ble_eq_true rfl) (kJ2_checkIndex_2214a w) (fun E h hk => hk.elim) (fun h1 w => ?_)
  refine X_aload_n (j := 0) (show decode cJ2_charAt_3b067 5 = .ok (.aload_n 0, 1) by decide +kernel) rfl rfl ?_
  refine X_iload_n (j := 1) (show decode cJ2_charAt_3b067 6 = .ok (.iload_n 1, 1) by decide +kernel) rfl rfl ?_
  refine X_sI (rc' := 0) (rs' := 0) (as := [.ref _, .int _]) ms_J2_71 (show decode cJ2_charAt_3b067 7 = .ok (.invokestatic 71, 3) by decide +kernel) (by decide) (Nat.le_of_ble_eq_true rfl) (Nat.le_of_ble_eq_true rfl) rfl rfl (Nat.le_of_ble_eq_true rfl) (kJ2_getChar_3b067 w) (fun E h hk => hk.elim) (fun r4 h3 w => ?_)
  obtain ⟨s5, w⟩ := w
  exact X_iret ⟨(show decode cJ2_charAt_3b067 10 = .ok (.ireturn, 1) by decide +kernel), .char, rfl, s5⟩ ⟨_, rfl, w⟩
