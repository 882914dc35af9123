set_option maxRecDepth 100000 in
set_option maxHeartbeats 4000000 in
theorem kX3_trainsAreSound_J73 {K : Int32 → AH → Prop} {c7 : Nat → Int64 → Int32 → Int32 → AH → Prop} (hc7 : ∀ x0 x1 x3 x4 h, c7 x0 x1 x3 x4 h → X mX3_trainsAreSound 2 (KI K) T0 0 0 7 [(0, .ref x0), (1, .long x1), (3, .int x3), (4, .int x4)] [] h) (x0 : Nat) (x1 : Int64) (x3 : Int32) (x4 : Int32) (x5 : Nat) (y0 : Int32) (h : AH) (w : wX3_trainsAreSound_J73 K c7 x0 x1 x3 x4 x5 y0 h) : X mX3_trainsAreSound 2 (KI K) T0 0 0 73 [(0, .ref x0), (1, .long x1), (3, .int x3), (4, .int x4), (5, .ref x5)] [.int y0] h := by
  unfold wX3_trainsAreSound_J73 at w
  refine X_istore (ls' := [(0, .ref _), (1, .long _), (3, .int _), (4, .int _), (5, .ref _), (6, .int _)]) (show decode cX3_trainsAreSound 73 = .ok (.istore 6, 2) by decide +kernel) (by decide) rfl ?_
  refine X_iload (j := 5) (show decode cX3_trainsAreSound 75 = .ok (.iload 6, 2) by decide +kernel) rfl ?_
  refine X_if_eq (tgt := 97) (show decode cX3_trainsAreSound 77 = .ok (.ifCond .eq 20, 3) by decide +kernel) (by decide) ⟨fun c12 => ?_, fun c12 => ?_⟩
  · have w := w.1 c12
    refine X_iconst (v := (nI 0)) (show decode cX3_trainsAreSound 97 = .ok (.iconst 0, 1) by decide +kernel) (by decide) ?_
    exact X_iret ⟨(show decode cX3_trainsAreSound 98 = .ok (.ireturn, 1) by decide +kernel), .boolean, rfl, (by decide)⟩ ⟨_, rfl, w⟩
  · have w := w.2 c12
    refine X_aload (j := 4) (show decode cX3_trainsAreSound 80 = .ok (.aload 5, 2) by decide +kernel) rfl ?_
    obtain ⟨s13, w⟩ := w
    refine X_getI fl_X3_91 (show decode cX3_trainsAreSound 82 = .ok (.getfield 91, 3) by decide +kernel) s13 ?_
    refine X_iload_n (j := 2) (show decode cX3_trainsAreSound 85 = .ok (.iload_n 3, 1) by decide +kernel) rfl rfl ?_
    refine X_icmp_le (tgt := 97) (show decode cX3_trainsAreSound 86 = .ok (.if_icmp .le 11, 3) by decide +kernel) (by decide) ⟨fun c14 => ?_, fun c14 => ?_⟩
    · have w := w.1 c14
      refine X_iconst (v := (nI 0)) (show decode cX3_trainsAreSound 97 = .ok (.iconst 0, 1) by decide +kernel) (by decide) ?_
      exact X_iret ⟨(show decode cX3_trainsAreSound 98 = .ok (.ireturn, 1) by decide +kernel), .boolean, rfl, (by decide)⟩ ⟨_, rfl, w⟩
    · have w := w.2 c14
      refine X_aload (j := 4) (show decode cX3_trainsAreSound 89 = .ok (.aload 5, 2) by decide +kernel) rfl ?_
      refine X_getI fl_X3_94 (show decode cX3_trainsAreSound 91 = .ok (.getfield 94, 3) by decide +kernel) s13 ?_
      refine X_if_ge (tgt := 99) (show decode cX3_trainsAreSound 94 = .ok (.ifCond .ge 5, 3) by decide +kernel) (by decide) ⟨fun c15 => ?_, fun c15 => ?_⟩
      · have w := w.1 c15
        refine X_aload (j := 4) (show decode cX3_trainsAreSound 99 = .ok (.aload 5, 2) by decide +kernel) rfl ?_
        refine X_getI fl_X3_91 (show decode cX3_trainsAreSound 101 = .ok (.getfield 91, 3) by decide +kernel) s13 ?_
        refine X_istore_n (ls' := [(0, .ref _), (1, .long _), (3, .int _), (4, .int _), (5, .ref _), (6, .int _)]) (show decode cX3_trainsAreSound 104 = .ok (.istore_n 3, 1) by decide +kernel) rfl (by decide) rfl ?_
        refine X_lload_n (j := 1) (show decode cX3_trainsAreSound 105 = .ok (.lload_n 1, 1) by decide +kernel) rfl rfl ?_
        refine X_aload (j := 4) (show decode cX3_trainsAreSound 106 = .ok (.aload 5, 2) by decide +kernel) rfl ?_
        refine X_getI fl_X3_94 (show decode cX3_trainsAreSound 108 = .ok (.getfield 94, 3) by decide +kernel) s13 ?_
        refine X_i2l (show decode cX3_trainsAreSound 111 = .ok (.i2l, 1) by decide +kernel) ?_
        refine X_ladd (show decode cX3_trainsAreSound 112 = .ok (.ladd, 1) by decide +kernel) ?_
        refine X_lstore_n (ls' := [(0, .ref _), (1, .long _), (3, .int _), (4, .int _), (5, .ref _), (6, .int _)]) (show decode cX3_trainsAreSound 113 = .ok (.lstore_n 1, 1) by decide +kernel) rfl (by decide) rfl ?_
        refine X_iinc (j := 3) (v := _ + (nI 1)) (ls' := [(0, .ref _), (1, .long _), (3, .int _), (4, .int _), (5, .ref _), (6, .int _)]) (show decode cX3_trainsAreSound 114 = .ok (.iinc 4 1, 3) by decide +kernel) rfl rfl (Nat.le_of_ble_eq_true rfl) rfl ?_
        refine X_goto (tgt := 7) (show decode cX3_trainsAreSound 117 = .ok (.goto (-110), 3) by decide +kernel) (by decide) ?_
        refine X_pick (ls' := [(0, .ref _), (1, .long _), (3, .int _), (4, .int _)]) [0, 1, 2, 3] rfl ?_
        exact hc7 _ _ _ _ _ w
      · have w := w.2 c15
        refine X_iconst (v := (nI 0)) (show decode cX3_trainsAreSound 97 = .ok (.iconst 0, 1) by decide +kernel) (by decide) ?_
        exact X_iret ⟨(show decode cX3_trainsAreSound 98 = .ok (.ireturn, 1) by decide +kernel), .boolean, rfl, (by decide)⟩ ⟨_, rfl, w⟩
set_option maxRecDepth 100000 in
set_option maxHeartbeats 4000000 in
theorem kX3_trainsAreSound_J72 {K : Int32 → AH → Prop} {c7 : Nat → Int64 → Int32 → Int32 → AH → Prop} (hc7 : ∀ x0 x1 x3 x4 h, c7 x0 x1 x3 x4 h → X mX3_trainsAreSound 2 (KI K) T0 0 0 7 [(0, .ref x0), (1, .long x1), (3, .int x3), (4, .int x4)] [] h) (x0 : Nat) (x1 : Int64) (x3 : Int32) (x4 : Int32) (x5 : Nat) (h : AH) (w : wX3_trainsAreSound_J72 K c7 x0 x1 x3 x4 x5 h) : X mX3_trainsAreSound 2 (KI K) T0 0 0 72 [(0, .ref x0), (1, .long x1), (3, .int x3), (4, .int x4), (5, .ref x5)] [] h := by
  unfold wX3_trainsAreSound_J72 at w
  refine X_iconst (v := (nI 0)) (show decode cX3_trainsAreSound 72 = .ok (.iconst 0, 1) by decide +kernel) (by decide) ?_
  exact kX3_trainsAreSound_J73 hc7 _ _ _ _ _ _ _ w
set_option maxRecDepth 100000 in
set_option maxHeartbeats 4000000 in
theorem kX3_trainsAreSound_L7 {K : Int32 → AH → Prop}    : ∀ (n : Nat) (x0 : Nat) (x1 : Int64) (x3 : Int32) (x4 : Int32) (h : AH), wX3_trainsAreSound_L7 K   n x0 x1 x3 x4 h → X mX3_trainsAreSound 2 (KI K) T0 0 0 7 [(0, .ref x0), (1, .long x1), (3, .int x3), (4, .int x4)] [] h := by
  intro n
  induction n with
  | zero => intro _ _ _ _ _ w; exact w.elim
  | succ n ih =>
    intro x0 x1 x3 x4 h w
    rw [wX3_trainsAreSound_L7] at w
    refine X_iload (j := 3) (show decode cX3_trainsAreSound 7 = .ok (.iload 4, 2) by decide +kernel) rfl ?_
    refine X_aload_n (j := 0) (show decode cX3_trainsAreSound 9 = .ok (.aload_n 0, 1) by decide +kernel) rfl rfl ?_
    obtain ⟨s1, w⟩ := w
    refine X_getI fl_X3_73 (show decode cX3_trainsAreSound 10 = .ok (.getfield 73, 3) by decide +kernel) s1 ?_
    refine X_icmp_ge (tgt := 120) (show decode cX3_trainsAreSound 13 = .ok (.if_icmp .ge 107, 3) by decide +kernel) (by decide) ⟨fun c2 => ?_, fun c2 => ?_⟩
    · have w := w.1 c2
      refine X_iload_n (j := 2) (show decode cX3_trainsAreSound 120 = .ok (.iload_n 3, 1) by decide +kernel) rfl rfl ?_
      refine X_aload_n (j := 0) (show decode cX3_trainsAreSound 121 = .ok (.aload_n 0, 1) by decide +kernel) rfl rfl ?_
      refine X_getI fl_X3_97 (show decode cX3_trainsAreSound 122 = .ok (.getfield 97, 3) by decide +kernel) s1 ?_
      refine X_icmp_ge (tgt := 157) (show decode cX3_trainsAreSound 125 = .ok (.if_icmp .ge 32, 3) by decide +kernel) (by decide) ⟨fun c3 => ?_, fun c3 => ?_⟩
      · have w := w.1 c3
        refine X_iconst (v := (nI 0)) (show decode cX3_trainsAreSound 157 = .ok (.iconst 0, 1) by decide +kernel) (by decide) ?_
        exact X_iret ⟨(show decode cX3_trainsAreSound 158 = .ok (.ireturn, 1) by decide +kernel), .boolean, rfl, (by decide)⟩ ⟨_, rfl, w⟩
      · have w := w.2 c3
        refine X_aload_n (j := 0) (show decode cX3_trainsAreSound 128 = .ok (.aload_n 0, 1) by decide +kernel) rfl rfl ?_
        refine X_getI fl_X3_73 (show decode cX3_trainsAreSound 129 = .ok (.getfield 73, 3) by decide +kernel) s1 ?_
        refine X_aload_n (j := 0) (show decode cX3_trainsAreSound 132 = .ok (.aload_n 0, 1) by decide +kernel) rfl rfl ?_
        refine X_getI fl_X3_100 (show decode cX3_trainsAreSound 133 = .ok (.getfield 100, 3) by decide +kernel) s1 ?_
        refine X_iadd (show decode cX3_trainsAreSound 136 = .ok (.iadd, 1) by decide +kernel) ?_
        refine X_aload_n (j := 0) (show decode cX3_trainsAreSound 137 = .ok (.aload_n 0, 1) by decide +kernel) rfl rfl ?_
        refine X_getI fl_X3_97 (show decode cX3_trainsAreSound 138 = .ok (.getfield 97, 3) by decide +kernel) s1 ?_
        refine X_icmp_ne (tgt := 157) (show decode cX3_trainsAreSound 141 = .ok (.if_icmp .ne 16, 3) by decide +kernel) (by decide) ⟨fun c4 => ?_, fun c4 => ?_⟩
        · have w := w.1 c4
          refine X_iconst (v := (nI 0)) (show decode cX3_trainsAreSound 157 = .ok (.iconst 0, 1) by decide +kernel) (by decide) ?_
          exact X_iret ⟨(show decode cX3_trainsAreSound 158 = .ok (.ireturn, 1) by decide +kernel), .boolean, rfl, (by decide)⟩ ⟨_, rfl, w⟩
        · have w := w.2 c4
          refine X_lload_n (j := 1) (show decode cX3_trainsAreSound 144 = .ok (.lload_n 1, 1) by decide +kernel) rfl rfl ?_
          refine X_aload_n (j := 0) (show decode cX3_trainsAreSound 145 = .ok (.aload_n 0, 1) by decide +kernel) rfl rfl ?_
          refine X_getL fl_X3_103 (show decode cX3_trainsAreSound 146 = .ok (.getfield 103, 3) by decide +kernel) s1 ?_
          refine X_lcmp (show decode cX3_trainsAreSound 149 = .ok (.lcmp, 1) by decide +kernel) ?_
          refine X_if_gt (tgt := 157) (show decode cX3_trainsAreSound 150 = .ok (.ifCond .gt 7, 3) by decide +kernel) (by decide) ⟨fun c5 => ?_, fun c5 => ?_⟩
          · have w := w.1 c5
            refine X_iconst (v := (nI 0)) (show decode cX3_trainsAreSound 157 = .ok (.iconst 0, 1) by decide +kernel) (by decide) ?_
            exact X_iret ⟨(show decode cX3_trainsAreSound 158 = .ok (.ireturn, 1) by decide +kernel), .boolean, rfl, (by decide)⟩ ⟨_, rfl, w⟩
          · have w := w.2 c5
            refine X_iconst (v := (nI 1)) (show decode cX3_trainsAreSound 153 = .ok (.iconst 1, 1) by decide +kernel) (by decide) ?_
            refine X_goto (tgt := 158) (show decode cX3_trainsAreSound 154 = .ok (.goto 4, 3) by decide +kernel) (by decide) ?_
            exact X_iret ⟨(show decode cX3_trainsAreSound 158 = .ok (.ireturn, 1) by decide +kernel), .boolean, rfl, (by decide)⟩ ⟨_, rfl, w⟩
    · have w := w.2 c2
      refine X_aload_n (j := 0) (show decode cX3_trainsAreSound 16 = .ok (.aload_n 0, 1) by decide +kernel) rfl rfl ?_
      refine X_getR fl_X3_76 (show decode cX3_trainsAreSound 17 = .ok (.getfield 76, 3) by decide +kernel) s1 ?_
      refine X_iload (j := 3) (show decode cX3_trainsAreSound 20 = .ok (.iload 4, 2) by decide +kernel) rfl ?_
      obtain ⟨s6, w⟩ := w
      obtain ⟨s7, w⟩ := w
      refine X_aaldT (show decode cX3_trainsAreSound 22 = .ok (.aaload, 1) by decide +kernel) (isA_eq s6) s7 ?_
      refine X_astore (ls' := [(0, .ref _), (1, .long _), (3, .int _), (4, .int _), (5, .ref _)]) (show decode cX3_trainsAreSound 23 = .ok (.astore 5, 2) by decide +kernel) (by decide) rfl ?_
      refine X_aload_n (j := 0) (show decode cX3_trainsAreSound 25 = .ok (.aload_n 0, 1) by decide +kernel) rfl rfl ?_
      refine X_getR fl_X3_9 (show decode cX3_trainsAreSound 26 = .ok (.getfield 9, 3) by decide +kernel) s1 ?_
      refine X_aload (j := 4) (show decode cX3_trainsAreSound 29 = .ok (.aload 5, 2) by decide +kernel) rfl ?_
      obtain ⟨s8, w⟩ := w
      refine X_getI fl_X3_80 (show decode cX3_trainsAreSound 31 = .ok (.getfield 80, 3) by decide +kernel) s8 ?_
      obtain ⟨s24, w⟩ := w
      refine X_vI (rc' := 0) (rs' := 0) (as := [.int _]) mv_X3_85 (show decode cX3_trainsAreSound 34 = .ok (.invokevirtual 85, 3) by decide +kernel) (by decide) (Nat.le_of_ble_eq_true rfl) (Nat.le_of_ble_eq_true rfl) rfl rfl (Nat.le_of_ble_eq_true rfl) (rcvD s24 (by decide) rfl) (kX4_has w) (fun E h hk => hk.elim) (fun r10 h9 w => ?_)
      refine X_if_eq (tgt := 72) (show decode cX3_trainsAreSound 37 = .ok (.ifCond .eq 35, 3) by decide +kernel) (by decide) ⟨fun c11 => ?_, fun c11 => ?_⟩
      · have w := w.1 c11
        exact kX3_trainsAreSound_J72 ih _ _ _ _ _ _ w
      · have w := w.2 c11
        refine X_aload_n (j := 0) (show decode cX3_trainsAreSound 40 = .ok (.aload_n 0, 1) by decide +kernel) rfl rfl ?_
        obtain ⟨s16, w⟩ := w
        refine X_getR fl_X3_9 (show decode cX3_trainsAreSound 41 = .ok (.getfield 9, 3) by decide +kernel) s16 ?_
        refine X_aload (j := 4) (show decode cX3_trainsAreSound 44 = .ok (.aload 5, 2) by decide +kernel) rfl ?_
        obtain ⟨s17, w⟩ := w
        refine X_getI fl_X3_88 (show decode cX3_trainsAreSound 46 = .ok (.getfield 88, 3) by decide +kernel) s17 ?_
        obtain ⟨s23, w⟩ := w
        refine X_vI (rc' := 0) (rs' := 0) (as := [.int _]) mv_X3_85 (show decode cX3_trainsAreSound 49 = .ok (.invokevirtual 85, 3) by decide +kernel) (by decide) (Nat.le_of_ble_eq_true rfl) (Nat.le_of_ble_eq_true rfl) rfl rfl (Nat.le_of_ble_eq_true rfl) (rcvD s23 (by decide) rfl) (kX4_has w) (fun E h hk => hk.elim) (fun r19 h18 w => ?_)
        refine X_if_eq (tgt := 72) (show decode cX3_trainsAreSound 52 = .ok (.ifCond .eq 20, 3) by decide +kernel) (by decide) ⟨fun c20 => ?_, fun c20 => ?_⟩
        · have w := w.1 c20
          exact kX3_trainsAreSound_J72 ih _ _ _ _ _ _ w
        · have w := w.2 c20
          refine X_aload (j := 4) (show decode cX3_trainsAreSound 55 = .ok (.aload 5, 2) by decide +kernel) rfl ?_
          obtain ⟨s21, w⟩ := w
          refine X_getI fl_X3_80 (show decode cX3_trainsAreSound 57 = .ok (.getfield 80, 3) by decide +kernel) s21 ?_
          refine X_aload (j := 4) (show decode cX3_trainsAreSound 60 = .ok (.aload 5, 2) by decide +kernel) rfl ?_
          refine X_getI fl_X3_88 (show decode cX3_trainsAreSound 62 = .ok (.getfield 88, 3) by decide +kernel) s21 ?_
          refine X_icmp_eq (tgt := 72) (show decode cX3_trainsAreSound 65 = .ok (.if_icmp .eq 7, 3) by decide +kernel) (by decide) ⟨fun c22 => ?_, fun c22 => ?_⟩
          · have w := w.1 c22
            exact kX3_trainsAreSound_J72 ih _ _ _ _ _ _ w
          · have w := w.2 c22
            refine X_iconst (v := (nI 1)) (show decode cX3_trainsAreSound 68 = .ok (.iconst 1, 1) by decide +kernel) (by decide) ?_
            refine X_goto (tgt := 73) (show decode cX3_trainsAreSound 69 = .ok (.goto 4, 3) by decide +kernel) (by decide) ?_
            exact kX3_trainsAreSound_J73 ih _ _ _ _ _ _ _ w
set_option maxRecDepth 100000 in
set_option maxHeartbeats 4000000 in
theorem kX3_trainsAreSound {a0 : Nat} {h : AH} {K : Int32 → AH → Prop} (w : wX3_trainsAreSound a0 h K) : Cn mX3_trainsAreSound (cwd mX3_trainsAreSound) 2 0 0 [.ref a0] h (KI K) T0 := by
  refine Cn_of (by decide +kernel) rfl (Nat.le_of_ble_eq_true rfl) ?_
  show X mX3_trainsAreSound 2 (KI K) T0 0 0 0 [(0, .ref a0)] [] h
  unfold wX3_trainsAreSound at w
  refine X_lconst (v := 0) (show decode cX3_trainsAreSound 0 = .ok (.lconst 0, 1) by decide +kernel) (by decide) ?_
  refine X_lstore_n (ls' := [(0, .ref _), (1, .long _)]) (show decode cX3_trainsAreSound 1 = .ok (.lstore_n 1, 1) by decide +kernel) rfl (by decide) rfl ?_
  refine X_iconst (v := (-1)) (show decode cX3_trainsAreSound 2 = .ok (.iconst (-1), 1) by decide +kernel) (by decide) ?_
  refine X_istore_n (ls' := [(0, .ref _), (1, .long _), (3, .int _)]) (show decode cX3_trainsAreSound 3 = .ok (.istore_n 3, 1) by decide +kernel) rfl (by decide) rfl ?_
  refine X_iconst (v := (nI 0)) (show decode cX3_trainsAreSound 4 = .ok (.iconst 0, 1) by decide +kernel) (by decide) ?_
  refine X_istore (ls' := [(0, .ref _), (1, .long _), (3, .int _), (4, .int _)]) (show decode cX3_trainsAreSound 5 = .ok (.istore 4, 2) by decide +kernel) (by decide) rfl ?_
  obtain ⟨n25, w⟩ := w
  exact kX3_trainsAreSound_L7  n25 _ _ _ _ _ w
set_option maxRecDepth 100000 in
set_option maxHeartbeats 4000000 in
theorem kX3_blocksAreHeldOnce_L4 {K : Int32 → AH → Prop}    : ∀ (n : Nat) (x0 : Nat) (x1 : Int32) (x2 : Int32) (h : AH), wX3_blocksAreHeldOnce_L4 K   n x0 x1 x2 h → X mX3_blocksAreHeldOnce 2 (KI K) T0 0 0 4 [(0, .ref x0), (1, .int x1), (2, .int x2)] [] h := by
  intro n
  induction n with
  | zero => intro _ _ _ _ w; exact w.elim
  | succ n ih =>
    intro x0 x1 x2 h w
    rw [wX3_blocksAreHeldOnce_L4] at w
    refine X_iload_n (j := 2) (show decode cX3_blocksAreHeldOnce 4 = .ok (.iload_n 2, 1) by decide +kernel) rfl rfl ?_
    refine X_aload_n (j := 0) (show decode cX3_blocksAreHeldOnce 5 = .ok (.aload_n 0, 1) by decide +kernel) rfl rfl ?_
    obtain ⟨s1, w⟩ := w
    refine X_getI fl_X3_73 (show decode cX3_blocksAreHeldOnce 6 = .ok (.getfield 73, 3) by decide +kernel) s1 ?_
    refine X_icmp_ge (tgt := 76) (show decode cX3_blocksAreHeldOnce 9 = .ok (.if_icmp .ge 67, 3) by decide +kernel) (by decide) ⟨fun c2 => ?_, fun c2 => ?_⟩
    · have w := w.1 c2
      refine X_iconst (v := (nI 1)) (show decode cX3_blocksAreHeldOnce 76 = .ok (.iconst 1, 1) by decide +kernel) (by decide) ?_
      exact X_iret ⟨(show decode cX3_blocksAreHeldOnce 77 = .ok (.ireturn, 1) by decide +kernel), .boolean, rfl, (by decide)⟩ ⟨_, rfl, w⟩
    · have w := w.2 c2
      refine X_aload_n (j := 0) (show decode cX3_blocksAreHeldOnce 12 = .ok (.aload_n 0, 1) by decide +kernel) rfl rfl ?_
      refine X_getR fl_X3_76 (show decode cX3_blocksAreHeldOnce 13 = .ok (.getfield 76, 3) by decide +kernel) s1 ?_
      refine X_iload_n (j := 2) (show decode cX3_blocksAreHeldOnce 16 = .ok (.iload_n 2, 1) by decide +kernel) rfl rfl ?_
      obtain ⟨s3, w⟩ := w
      obtain ⟨s4, w⟩ := w
      refine X_aaldT (show decode cX3_blocksAreHeldOnce 17 = .ok (.aaload, 1) by decide +kernel) (isA_eq s3) s4 ?_
      refine X_astore_n (ls' := [(0, .ref _), (1, .int _), (2, .int _), (3, .ref _)]) (show decode cX3_blocksAreHeldOnce 18 = .ok (.astore_n 3, 1) by decide +kernel) rfl (by decide) rfl ?_
      refine X_aload_n (j := 3) (show decode cX3_blocksAreHeldOnce 19 = .ok (.aload_n 3, 1) by decide +kernel) rfl rfl ?_
      obtain ⟨s5, w⟩ := w
      refine X_getI fl_X3_107 (show decode cX3_blocksAreHeldOnce 20 = .ok (.getfield 107, 3) by decide +kernel) s5 ?_
      refine X_aload_n (j := 3) (show decode cX3_blocksAreHeldOnce 23 = .ok (.aload_n 3, 1) by decide +kernel) rfl rfl ?_
      refine X_getI fl_X3_80 (show decode cX3_blocksAreHeldOnce 24 = .ok (.getfield 80, 3) by decide +kernel) s5 ?_
      refine X_nI (rc' := 0) (rs' := 0) (as := [.int _, .int _]) msn_X3_61 (show decode cX3_blocksAreHeldOnce 27 = .ok (.invokestatic 61, 3) by decide +kernel) (by decide) (Nat.le_of_ble_eq_true rfl) (Nat.le_of_ble_eq_true rfl) rfl rfl (Nat.le_of_ble_eq_true rfl) (kX9_contains w) (fun r7 h6 w => ?_)
      refine X_istore (ls' := [(0, .ref _), (1, .int _), (2, .int _), (3, .ref _), (4, .int _)]) (show decode cX3_blocksAreHeldOnce 30 = .ok (.istore 4, 2) by decide +kernel) (by decide) rfl ?_
      refine X_iload_n (j := 1) (show decode cX3_blocksAreHeldOnce 32 = .ok (.iload_n 1, 1) by decide +kernel) rfl rfl ?_
      refine X_aload_n (j := 3) (show decode cX3_blocksAreHeldOnce 33 = .ok (.aload_n 3, 1) by decide +kernel) rfl rfl ?_
      obtain ⟨s18, w⟩ := w
      refine X_vI (rc' := 0) (rs' := 0) (as := []) mv_X3_110 (show decode cX3_blocksAreHeldOnce 34 = .ok (.invokevirtual 110, 3) by decide +kernel) (by decide) (Nat.le_of_ble_eq_true rfl) (Nat.le_of_ble_eq_true rfl) rfl rfl (Nat.le_of_ble_eq_true rfl) (rcvD s18 (by decide) rfl) (kX8_held w) (fun E h hk => hk.elim) (fun r9 h8 w => ?_)
      refine X_iand (show decode cX3_blocksAreHeldOnce 37 = .ok (.iand, 1) by decide +kernel) ?_
      refine X_if_ne (tgt := 61) (show decode cX3_blocksAreHeldOnce 38 = .ok (.ifCond .ne 23, 3) by decide +kernel) (by decide) ⟨fun c10 => ?_, fun c10 => ?_⟩
      · have w := w.1 c10
        refine X_iconst (v := (nI 0)) (show decode cX3_blocksAreHeldOnce 61 = .ok (.iconst 0, 1) by decide +kernel) (by decide) ?_
        exact X_iret ⟨(show decode cX3_blocksAreHeldOnce 62 = .ok (.ireturn, 1) by decide +kernel), .boolean, rfl, (by decide)⟩ ⟨_, rfl, w⟩
      · have w := w.2 c10
        refine X_aload_n (j := 0) (show decode cX3_blocksAreHeldOnce 41 = .ok (.aload_n 0, 1) by decide +kernel) rfl rfl ?_
        obtain ⟨s11, w⟩ := w
        refine X_getR fl_X3_9 (show decode cX3_blocksAreHeldOnce 42 = .ok (.getfield 9, 3) by decide +kernel) s11 ?_
        obtain ⟨s12, w⟩ := w
        refine X_getI fl_X3_70 (show decode cX3_blocksAreHeldOnce 45 = .ok (.getfield 70, 3) by decide +kernel) s12 ?_
        refine X_aload_n (j := 3) (show decode cX3_blocksAreHeldOnce 48 = .ok (.aload_n 3, 1) by decide +kernel) rfl rfl ?_
        obtain ⟨s13, w⟩ := w
        refine X_getI fl_X3_107 (show decode cX3_blocksAreHeldOnce 49 = .ok (.getfield 107, 3) by decide +kernel) s13 ?_
        refine X_iand (show decode cX3_blocksAreHeldOnce 52 = .ok (.iand, 1) by decide +kernel) ?_
        refine X_if_ne (tgt := 61) (show decode cX3_blocksAreHeldOnce 53 = .ok (.ifCond .ne 8, 3) by decide +kernel) (by decide) ⟨fun c14 => ?_, fun c14 => ?_⟩
        · have w := w.1 c14
          refine X_iconst (v := (nI 0)) (show decode cX3_blocksAreHeldOnce 61 = .ok (.iconst 0, 1) by decide +kernel) (by decide) ?_
          exact X_iret ⟨(show decode cX3_blocksAreHeldOnce 62 = .ok (.ireturn, 1) by decide +kernel), .boolean, rfl, (by decide)⟩ ⟨_, rfl, w⟩
        · have w := w.2 c14
          refine X_iload (j := 4) (show decode cX3_blocksAreHeldOnce 56 = .ok (.iload 4, 2) by decide +kernel) rfl ?_
          refine X_if_eq (tgt := 63) (show decode cX3_blocksAreHeldOnce 58 = .ok (.ifCond .eq 5, 3) by decide +kernel) (by decide) ⟨fun c15 => ?_, fun c15 => ?_⟩
          · have w := w.1 c15
            refine X_iload_n (j := 1) (show decode cX3_blocksAreHeldOnce 63 = .ok (.iload_n 1, 1) by decide +kernel) rfl rfl ?_
            refine X_aload_n (j := 3) (show decode cX3_blocksAreHeldOnce 64 = .ok (.aload_n 3, 1) by decide +kernel) rfl rfl ?_
            refine X_vI (rc' := 0) (rs' := 0) (as := []) mv_X3_110 (show decode cX3_blocksAreHeldOnce 65 = .ok (.invokevirtual 110, 3) by decide +kernel) (by decide) (Nat.le_of_ble_eq_true rfl) (Nat.le_of_ble_eq_true rfl) rfl rfl (Nat.le_of_ble_eq_true rfl) (rcvD s13 (by decide) rfl) (kX8_held w) (fun E h hk => hk.elim) (fun r17 h16 w => ?_)
            refine X_ior (show decode cX3_blocksAreHeldOnce 68 = .ok (.ior, 1) by decide +kernel) ?_
            refine X_istore_n (ls' := [(0, .ref _), (1, .int _), (2, .int _), (3, .ref _), (4, .int _)]) (show decode cX3_blocksAreHeldOnce 69 = .ok (.istore_n 1, 1) by decide +kernel) rfl (by decide) rfl ?_
            refine X_iinc (j := 2) (v := _ + (nI 1)) (ls' := [(0, .ref _), (1, .int _), (2, .int _), (3, .ref _), (4, .int _)]) (show decode cX3_blocksAreHeldOnce 70 = .ok (.iinc 2 1, 3) by decide +kernel) rfl rfl (Nat.le_of_ble_eq_true rfl) rfl ?_
            refine X_goto (tgt := 4) (show decode cX3_blocksAreHeldOnce 73 = .ok (.goto (-69), 3) by decide +kernel) (by decide) ?_
            refine X_pick (ls' := [(0, .ref _), (1, .int _), (2, .int _)]) [0, 1, 2] rfl ?_
            exact ih _ _ _ _ w
          · have w := w.2 c15
            refine X_iconst (v := (nI 0)) (show decode cX3_blocksAreHeldOnce 61 = .ok (.iconst 0, 1) by decide +kernel) (by decide) ?_
            exact X_iret ⟨(show decode cX3_blocksAreHeldOnce 62 = .ok (.ireturn, 1) by decide +kernel), .boolean, rfl, (by decide)⟩ ⟨_, rfl, w⟩
set_option maxRecDepth 100000 in
set_option maxHeartbeats 4000000 in
theorem kX3_blocksAreHeldOnce {a0 : Nat} {h : AH} {K : Int32 → AH → Prop} (w : wX3_blocksAreHeldOnce a0 h K) : Cn mX3_blocksAreHeldOnce (cwd mX3_blocksAreHeldOnce) 2 0 0 [.ref a0] h (KI K) T0 := by
  refine Cn_of (by decide +kernel) rfl (Nat.le_of_ble_eq_true rfl) ?_
  show X mX3_blocksAreHeldOnce 2 (KI K) T0 0 0 0 [(0, .ref a0)] [] h
  unfold wX3_blocksAreHeldOnce at w
  refine X_iconst (v := (nI 0)) (show decode cX3_blocksAreHeldOnce 0 = .ok (.iconst 0, 1) by decide +kernel) (by decide) ?_
  refine X_istore_n (ls' := [(0, .ref _), (1, .int _)]) (show decode cX3_blocksAreHeldOnce 1 = .ok (.istore_n 1, 1) by decide +kernel) rfl (by decide) rfl ?_
  refine X_iconst (v := (nI 0)) (show decode cX3_blocksAreHeldOnce 2 = .ok (.iconst 0, 1) by decide +kernel) (by decide) ?_
  refine X_istore_n (ls' := [(0, .ref _), (1, .int _), (2, .int _)]) (show decode cX3_blocksAreHeldOnce 3 = .ok (.istore_n 2, 1) by decide +kernel) rfl (by decide) rfl ?_
  obtain ⟨n19, w⟩ := w
  exact kX3_blocksAreHeldOnce_L4  n19 _ _ _ _ w
set_option maxRecDepth 100000 in
set_option maxHeartbeats 4000000 in
theorem kX3_blocksAhead_L10 {K : Int32 → AH → Prop}    : ∀ (n : Nat) (x0 : Nat) (x1 : Nat) (x2 : Int32) (x3 : Int32) (x4 : Int32) (h : AH), wX3_blocksAhead_L10 K   n x0 x1 x2 x3 x4 h → X mX3_blocksAhead 3 (KI K) T0 0 0 10 [(0, .ref x0), (1, .ref x1), (2, .int x2), (3, .int x3), (4, .int x4)] [] h := by
  intro n
  induction n with
  | zero => intro _ _ _ _ _ _ w; exact w.elim
  | succ n ih =>
    intro x0 x1 x2 x3 x4 h w
    rw [wX3_blocksAhead_L10] at w
    refine X_iload (j := 4) (show decode cX3_blocksAhead 10 = .ok (.iload 4, 2) by decide +kernel) rfl ?_
    refine X_bipush (v := (nI 12)) (show decode cX3_blocksAhead 12 = .ok (.bipush 12, 2) by decide +kernel) (by decide) ?_
    refine X_icmp_ge (tgt := 51) (show decode cX3_blocksAhead 14 = .ok (.if_icmp .ge 37, 3) by decide +kernel) (by decide) ⟨fun c2 => ?_, fun c2 => ?_⟩
    · have w := w.1 c2
      refine X_iload_n (j := 2) (show decode cX3_blocksAhead 51 = .ok (.iload_n 2, 1) by decide +kernel) rfl rfl ?_
      exact X_iret ⟨(show decode cX3_blocksAhead 52 = .ok (.ireturn, 1) by decide +kernel), .int, rfl, rfl⟩ ⟨_, rfl, w⟩
    · have w := w.2 c2
      refine X_aload_n (j := 0) (show decode cX3_blocksAhead 17 = .ok (.aload_n 0, 1) by decide +kernel) rfl rfl ?_
      refine X_iload_n (j := 3) (show decode cX3_blocksAhead 18 = .ok (.iload_n 3, 1) by decide +kernel) rfl rfl ?_
      obtain ⟨s11, w⟩ := w
      refine X_vI (rc' := 0) (rs' := 0) (as := [.int _]) mv_X3_85 (show decode cX3_blocksAhead 19 = .ok (.invokevirtual 85, 3) by decide +kernel) (by decide) (Nat.le_of_ble_eq_true rfl) (Nat.le_of_ble_eq_true rfl) rfl rfl (Nat.le_of_ble_eq_true rfl) (rcvD s11 (by decide) rfl) (kX4_has w) (fun E h hk => hk.elim) (fun r4 h3 w => ?_)
      refine X_if_eq (tgt := 51) (show decode cX3_blocksAhead 22 = .ok (.ifCond .eq 29, 3) by decide +kernel) (by decide) ⟨fun c5 => ?_, fun c5 => ?_⟩
      · have w := w.1 c5
        refine X_iload_n (j := 2) (show decode cX3_blocksAhead 51 = .ok (.iload_n 2, 1) by decide +kernel) rfl rfl ?_
        exact X_iret ⟨(show decode cX3_blocksAhead 52 = .ok (.ireturn, 1) by decide +kernel), .int, rfl, rfl⟩ ⟨_, rfl, w⟩
      · have w := w.2 c5
        refine X_iload_n (j := 3) (show decode cX3_blocksAhead 25 = .ok (.iload_n 3, 1) by decide +kernel) rfl rfl ?_
        refine X_aload_n (j := 1) (show decode cX3_blocksAhead 26 = .ok (.aload_n 1, 1) by decide +kernel) rfl rfl ?_
        obtain ⟨s6, w⟩ := w
        refine X_getI fl_X3_88 (show decode cX3_blocksAhead 27 = .ok (.getfield 88, 3) by decide +kernel) s6 ?_
        refine X_icmp_eq (tgt := 51) (show decode cX3_blocksAhead 30 = .ok (.if_icmp .eq 21, 3) by decide +kernel) (by decide) ⟨fun c7 => ?_, fun c7 => ?_⟩
        · have w := w.1 c7
          refine X_iload_n (j := 2) (show decode cX3_blocksAhead 51 = .ok (.iload_n 2, 1) by decide +kernel) rfl rfl ?_
          exact X_iret ⟨(show decode cX3_blocksAhead 52 = .ok (.ireturn, 1) by decide +kernel), .int, rfl, rfl⟩ ⟨_, rfl, w⟩
        · have w := w.2 c7
          refine X_aload_n (j := 0) (show decode cX3_blocksAhead 33 = .ok (.aload_n 0, 1) by decide +kernel) rfl rfl ?_
          refine X_iload_n (j := 3) (show decode cX3_blocksAhead 34 = .ok (.iload_n 3, 1) by decide +kernel) rfl rfl ?_
          obtain ⟨s10, w⟩ := w
          refine X_vI (rc' := 0) (rs' := 0) (as := [.int _]) mv_X3_120 (show decode cX3_blocksAhead 35 = .ok (.invokevirtual 120, 3) by decide +kernel) (by decide) (Nat.le_of_ble_eq_true rfl) (Nat.le_of_ble_eq_true rfl) rfl rfl (Nat.le_of_ble_eq_true rfl) (rcvD s10 (by decide) rfl) (kX4_exitOf w) (fun E h hk => hk.elim) (fun r9 h8 w => ?_)
          refine X_istore_n (ls' := [(0, .ref _), (1, .ref _), (2, .int _), (3, .int _), (4, .int _)]) (show decode cX3_blocksAhead 38 = .ok (.istore_n 3, 1) by decide +kernel) rfl (by decide) rfl ?_
          refine X_iload_n (j := 2) (show decode cX3_blocksAhead 39 = .ok (.iload_n 2, 1) by decide +kernel) rfl rfl ?_
          refine X_iconst (v := (nI 1)) (show decode cX3_blocksAhead 40 = .ok (.iconst 1, 1) by decide +kernel) (by decide) ?_
          refine X_iload_n (j := 3) (show decode cX3_blocksAhead 41 = .ok (.iload_n 3, 1) by decide +kernel) rfl rfl ?_
          refine X_ishl (show decode cX3_blocksAhead 42 = .ok (.ishl, 1) by decide +kernel) ?_
          refine X_ior (show decode cX3_blocksAhead 43 = .ok (.ior, 1) by decide +kernel) ?_
          refine X_istore_n (ls' := [(0, .ref _), (1, .ref _), (2, .int _), (3, .int _), (4, .int _)]) (show decode cX3_blocksAhead 44 = .ok (.istore_n 2, 1) by decide +kernel) rfl (by decide) rfl ?_
          refine X_iinc (j := 4) (v := _ + (nI 1)) (ls' := [(0, .ref _), (1, .ref _), (2, .int _), (3, .int _), (4, .int _)]) (show decode cX3_blocksAhead 45 = .ok (.iinc 4 1, 3) by decide +kernel) rfl rfl (Nat.le_of_ble_eq_true rfl) rfl ?_
          refine X_goto (tgt := 10) (show decode cX3_blocksAhead 48 = .ok (.goto (-38), 3) by decide +kernel) (by decide) ?_
          exact ih _ _ _ _ _ _ w
set_option maxRecDepth 100000 in
set_option maxHeartbeats 4000000 in
theorem kX3_blocksAhead {a0 : Nat} {a1 : Nat} {h : AH} {K : Int32 → AH → Prop} (w : wX3_blocksAhead a0 a1 h K) : Cn mX3_blocksAhead (cwd mX3_blocksAhead) 3 0 0 [.ref a0, .ref a1] h (KI K) T0 := by
  refine Cn_of (by decide +kernel) rfl (Nat.le_of_ble_eq_true rfl) ?_
  show X mX3_blocksAhead 3 (KI K) T0 0 0 0 [(0, .ref a0), (1, .ref a1)] [] h
  unfold wX3_blocksAhead at w
  refine X_iconst (v := (nI 0)) (show decode cX3_blocksAhead 0 = .ok (.iconst 0, 1) by decide +kernel) (by decide) ?_
  refine X_istore_n (ls' := [(0, .ref _), (1, .ref _), (2, .int _)]) (show decode cX3_blocksAhead 1 = .ok (.istore_n 2, 1) by decide +kernel) rfl (by decide) rfl ?_
  refine X_aload_n (j := 1) (show decode cX3_blocksAhead 2 = .ok (.aload_n 1, 1) by decide +kernel) rfl rfl ?_
  obtain ⟨s1, w⟩ := w
  refine X_getI fl_X3_80 (show decode cX3_blocksAhead 3 = .ok (.getfield 80, 3) by decide +kernel) s1 ?_
  refine X_istore_n (ls' := [(0, .ref _), (1, .ref _), (2, .int _), (3, .int _)]) (show decode cX3_blocksAhead 6 = .ok (.istore_n 3, 1) by decide +kernel) rfl (by decide) rfl ?_
  refine X_iconst (v := (nI 0)) (show decode cX3_blocksAhead 7 = .ok (.iconst 0, 1) by decide +kernel) (by decide) ?_
  refine X_istore (ls' := [(0, .ref _), (1, .ref _), (2, .int _), (3, .int _), (4, .int _)]) (show decode cX3_blocksAhead 8 = .ok (.istore 4, 2) by decide +kernel) (by decide) rfl ?_
  obtain ⟨n12, w⟩ := w
  exact kX3_blocksAhead_L10  n12 _ _ _ _ _ _ w
set_option maxRecDepth 100000 in
set_option maxHeartbeats 4000000 in
theorem kX3_routesAreSound_J67 {K : Int32 → AH → Prop} {c2 : Nat → Int32 → AH → Prop} (hc2 : ∀ x0 x1 h, c2 x0 x1 h → X mX3_routesAreSound 4 (KI K) T0 0 0 2 [(0, .ref x0), (1, .int x1)] [] h) (x0 : Nat) (x1 : Int32) (x2 : Nat) (x3 : Int32) (x4 : Int32) (y0 : Int32) (h : AH) (w : wX3_routesAreSound_J67 K c2 x0 x1 x2 x3 x4 y0 h) : X mX3_routesAreSound 4 (KI K) T0 0 0 67 [(0, .ref x0), (1, .int x1), (2, .ref x2), (3, .int x3), (4, .int x4)] [.int y0] h := by
  unfold wX3_routesAreSound_J67 at w
  refine X_istore (ls' := [(0, .ref _), (1, .int _), (2, .ref _), (3, .int _), (4, .int _), (5, .int _)]) (show decode cX3_routesAreSound 67 = .ok (.istore 5, 2) by decide +kernel) (by decide) rfl ?_
  refine X_aload_n (j := 2) (show decode cX3_routesAreSound 69 = .ok (.aload_n 2, 1) by decide +kernel) rfl rfl ?_
  obtain ⟨s23, w⟩ := w
  refine X_vI (rc' := 0) (rs' := 0) (as := []) mv_X3_127 (show decode cX3_routesAreSound 70 = .ok (.invokevirtual 127, 3) by decide +kernel) (by decide) (Nat.le_of_ble_eq_true rfl) (Nat.le_of_ble_eq_true rfl) rfl rfl (Nat.le_of_ble_eq_true rfl) (rcvD s23 (by decide) rfl) (kX8_isRouted w) (fun E h hk => hk.elim) (fun r18 h17 w => ?_)
  refine X_if_eq (tgt := 94) (show decode cX3_routesAreSound 73 = .ok (.ifCond .eq 21, 3) by decide +kernel) (by decide) ⟨fun c19 => ?_, fun c19 => ?_⟩
  · have w := w.1 c19
    refine X_iinc (j := 1) (v := _ + (nI 1)) (ls' := [(0, .ref _), (1, .int _), (2, .ref _), (3, .int _), (4, .int _), (5, .int _)]) (show decode cX3_routesAreSound 94 = .ok (.iinc 1 1, 3) by decide +kernel) rfl rfl (Nat.le_of_ble_eq_true rfl) rfl ?_
    refine X_goto (tgt := 2) (show decode cX3_routesAreSound 97 = .ok (.goto (-95), 3) by decide +kernel) (by decide) ?_
    refine X_pick (ls' := [(0, .ref _), (1, .int _)]) [0, 1] rfl ?_
    exact hc2 _ _ _ w
  · have w := w.2 c19
    refine X_iload (j := 5) (show decode cX3_routesAreSound 76 = .ok (.iload 5, 2) by decide +kernel) rfl ?_
    refine X_if_eq (tgt := 92) (show decode cX3_routesAreSound 78 = .ok (.ifCond .eq 14, 3) by decide +kernel) (by decide) ⟨fun c20 => ?_, fun c20 => ?_⟩
    · have w := w.1 c20
      refine X_iconst (v := (nI 0)) (show decode cX3_routesAreSound 92 = .ok (.iconst 0, 1) by decide +kernel) (by decide) ?_
      exact X_iret ⟨(show decode cX3_routesAreSound 93 = .ok (.ireturn, 1) by decide +kernel), .boolean, rfl, (by decide)⟩ ⟨_, rfl, w⟩
    · have w := w.2 c20
      refine X_iload_n (j := 3) (show decode cX3_routesAreSound 81 = .ok (.iload_n 3, 1) by decide +kernel) rfl rfl ?_
      refine X_iconst (v := (nI 1)) (show decode cX3_routesAreSound 82 = .ok (.iconst 1, 1) by decide +kernel) (by decide) ?_
      refine X_icmp_lt (tgt := 92) (show decode cX3_routesAreSound 83 = .ok (.if_icmp .lt 9, 3) by decide +kernel) (by decide) ⟨fun c21 => ?_, fun c21 => ?_⟩
      · have w := w.1 c21
        refine X_iconst (v := (nI 0)) (show decode cX3_routesAreSound 92 = .ok (.iconst 0, 1) by decide +kernel) (by decide) ?_
        exact X_iret ⟨(show decode cX3_routesAreSound 93 = .ok (.ireturn, 1) by decide +kernel), .boolean, rfl, (by decide)⟩ ⟨_, rfl, w⟩
      · have w := w.2 c21
        refine X_iload_n (j := 3) (show decode cX3_routesAreSound 86 = .ok (.iload_n 3, 1) by decide +kernel) rfl rfl ?_
        refine X_iload (j := 4) (show decode cX3_routesAreSound 87 = .ok (.iload 4, 2) by decide +kernel) rfl ?_
        refine X_icmp_le (tgt := 94) (show decode cX3_routesAreSound 89 = .ok (.if_icmp .le 5, 3) by decide +kernel) (by decide) ⟨fun c22 => ?_, fun c22 => ?_⟩
        · have w := w.1 c22
          refine X_iinc (j := 1) (v := _ + (nI 1)) (ls' := [(0, .ref _), (1, .int _), (2, .ref _), (3, .int _), (4, .int _), (5, .int _)]) (show decode cX3_routesAreSound 94 = .ok (.iinc 1 1, 3) by decide +kernel) rfl rfl (Nat.le_of_ble_eq_true rfl) rfl ?_
          refine X_goto (tgt := 2) (show decode cX3_routesAreSound 97 = .ok (.goto (-95), 3) by decide +kernel) (by decide) ?_
          refine X_pick (ls' := [(0, .ref _), (1, .int _)]) [0, 1] rfl ?_
          exact hc2 _ _ _ w
        · have w := w.2 c22
          refine X_iconst (v := (nI 0)) (show decode cX3_routesAreSound 92 = .ok (.iconst 0, 1) by decide +kernel) (by decide) ?_
          exact X_iret ⟨(show decode cX3_routesAreSound 93 = .ok (.ireturn, 1) by decide +kernel), .boolean, rfl, (by decide)⟩ ⟨_, rfl, w⟩
set_option maxRecDepth 100000 in
set_option maxHeartbeats 4000000 in
theorem kX3_routesAreSound_L2 {K : Int32 → AH → Prop}    : ∀ (n : Nat) (x0 : Nat) (x1 : Int32) (h : AH), wX3_routesAreSound_L2 K   n x0 x1 h → X mX3_routesAreSound 4 (KI K) T0 0 0 2 [(0, .ref x0), (1, .int x1)] [] h := by
  intro n
  induction n with
  | zero => intro _ _ _ w; exact w.elim
  | succ n ih =>
    intro x0 x1 h w
    rw [wX3_routesAreSound_L2] at w
    refine X_iload_n (j := 1) (show decode cX3_routesAreSound 2 = .ok (.iload_n 1, 1) by decide +kernel) rfl rfl ?_
    refine X_aload_n (j := 0) (show decode cX3_routesAreSound 3 = .ok (.aload_n 0, 1) by decide +kernel) rfl rfl ?_
    obtain ⟨s1, w⟩ := w
    refine X_getI fl_X3_73 (show decode cX3_routesAreSound 4 = .ok (.getfield 73, 3) by decide +kernel) s1 ?_
    refine X_icmp_ge (tgt := 100) (show decode cX3_routesAreSound 7 = .ok (.if_icmp .ge 93, 3) by decide +kernel) (by decide) ⟨fun c2 => ?_, fun c2 => ?_⟩
    · have w := w.1 c2
      refine X_iconst (v := (nI 1)) (show decode cX3_routesAreSound 100 = .ok (.iconst 1, 1) by decide +kernel) (by decide) ?_
      exact X_iret ⟨(show decode cX3_routesAreSound 101 = .ok (.ireturn, 1) by decide +kernel), .boolean, rfl, (by decide)⟩ ⟨_, rfl, w⟩
    · have w := w.2 c2
      refine X_aload_n (j := 0) (show decode cX3_routesAreSound 10 = .ok (.aload_n 0, 1) by decide +kernel) rfl rfl ?_
      refine X_getR fl_X3_76 (show decode cX3_routesAreSound 11 = .ok (.getfield 76, 3) by decide +kernel) s1 ?_
      refine X_iload_n (j := 1) (show decode cX3_routesAreSound 14 = .ok (.iload_n 1, 1) by decide +kernel) rfl rfl ?_
      obtain ⟨s3, w⟩ := w
      obtain ⟨s4, w⟩ := w
      refine X_aaldT (show decode cX3_routesAreSound 15 = .ok (.aaload, 1) by decide +kernel) (isA_eq s3) s4 ?_
      refine X_astore_n (ls' := [(0, .ref _), (1, .int _), (2, .ref _)]) (show decode cX3_routesAreSound 16 = .ok (.astore_n 2, 1) by decide +kernel) rfl (by decide) rfl ?_
      refine X_aload_n (j := 2) (show decode cX3_routesAreSound 17 = .ok (.aload_n 2, 1) by decide +kernel) rfl rfl ?_
      obtain ⟨s5, w⟩ := w
      refine X_getI fl_X3_114 (show decode cX3_routesAreSound 18 = .ok (.getfield 114, 3) by decide +kernel) s5 ?_
      refine X_aload_n (j := 0) (show decode cX3_routesAreSound 21 = .ok (.aload_n 0, 1) by decide +kernel) rfl rfl ?_
      refine X_getI fl_X3_117 (show decode cX3_routesAreSound 22 = .ok (.getfield 117, 3) by decide +kernel) s1 ?_
      refine X_isub (show decode cX3_routesAreSound 25 = .ok (.isub, 1) by decide +kernel) ?_
      refine X_topi (fun v6 e7 => ?_)
      have w := w v6 e7
      refine X_istore_n (ls' := [(0, .ref _), (1, .int _), (2, .ref _), (3, .int _)]) (show decode cX3_routesAreSound 26 = .ok (.istore_n 3, 1) by decide +kernel) rfl (by decide) rfl ?_
      refine X_aload_n (j := 0) (show decode cX3_routesAreSound 27 = .ok (.aload_n 0, 1) by decide +kernel) rfl rfl ?_
      refine X_getR fl_X3_9 (show decode cX3_routesAreSound 28 = .ok (.getfield 9, 3) by decide +kernel) s1 ?_
      refine X_aload_n (j := 0) (show decode cX3_routesAreSound 31 = .ok (.aload_n 0, 1) by decide +kernel) rfl rfl ?_
      refine X_getR fl_X3_9 (show decode cX3_routesAreSound 32 = .ok (.getfield 9, 3) by decide +kernel) s1 ?_
      refine X_aload_n (j := 2) (show decode cX3_routesAreSound 35 = .ok (.aload_n 2, 1) by decide +kernel) rfl rfl ?_
      refine X_getI fl_X3_80 (show decode cX3_routesAreSound 36 = .ok (.getfield 80, 3) by decide +kernel) s5 ?_
      obtain ⟨s25, w⟩ := w
      refine X_vI (rc' := 0) (rs' := 0) (as := [.int _]) mv_X3_120 (show decode cX3_routesAreSound 39 = .ok (.invokevirtual 120, 3) by decide +kernel) (by decide) (Nat.le_of_ble_eq_true rfl) (Nat.le_of_ble_eq_true rfl) rfl rfl (Nat.le_of_ble_eq_true rfl) (rcvD s25 (by decide) rfl) (kX4_exitOf w) (fun E h hk => hk.elim) (fun r9 h8 w => ?_)
      obtain ⟨s24, w⟩ := w
      refine X_vI (rc' := 0) (rs' := 0) (as := [.int _]) mv_X3_44 (show decode cX3_routesAreSound 42 = .ok (.invokevirtual 44, 3) by decide +kernel) (by decide) (Nat.le_of_ble_eq_true rfl) (Nat.le_of_ble_eq_true rfl) rfl rfl (Nat.le_of_ble_eq_true rfl) (rcvD s24 (by decide) rfl) (kX4_lengthOf w) (fun E h hk => hk.elim) (fun r11 h10 w => ?_)
      refine X_istore (ls' := [(0, .ref _), (1, .int _), (2, .ref _), (3, .int _), (4, .int _)]) (show decode cX3_routesAreSound 45 = .ok (.istore 4, 2) by decide +kernel) (by decide) rfl ?_
      refine X_aload_n (j := 0) (show decode cX3_routesAreSound 47 = .ok (.aload_n 0, 1) by decide +kernel) rfl rfl ?_
      obtain ⟨s12, w⟩ := w
      refine X_getR fl_X3_9 (show decode cX3_routesAreSound 48 = .ok (.getfield 9, 3) by decide +kernel) s12 ?_
      refine X_aload_n (j := 2) (show decode cX3_routesAreSound 51 = .ok (.aload_n 2, 1) by decide +kernel) rfl rfl ?_
      refine X_sI (rc' := 0) (rs' := 0) (as := [.ref _, .ref _]) ms_X3_123 (show decode cX3_routesAreSound 52 = .ok (.invokestatic 123, 3) by decide +kernel) (by decide) (Nat.le_of_ble_eq_true rfl) (Nat.le_of_ble_eq_true rfl) rfl rfl (Nat.le_of_ble_eq_true rfl) (kX3_blocksAhead w) (fun E h hk => hk.elim) (fun r14 h13 w => ?_)
      refine X_aload_n (j := 2) (show decode cX3_routesAreSound 55 = .ok (.aload_n 2, 1) by decide +kernel) rfl rfl ?_
      obtain ⟨s15, w⟩ := w
      refine X_getI fl_X3_107 (show decode cX3_routesAreSound 56 = .ok (.getfield 107, 3) by decide +kernel) s15 ?_
      refine X_icmp_ne (tgt := 66) (show decode cX3_routesAreSound 59 = .ok (.if_icmp .ne 7, 3) by decide +kernel) (by decide) ⟨fun c16 => ?_, fun c16 => ?_⟩
      · have w := w.1 c16
        refine X_iconst (v := (nI 0)) (show decode cX3_routesAreSound 66 = .ok (.iconst 0, 1) by decide +kernel) (by decide) ?_
        exact kX3_routesAreSound_J67 ih _ _ _ _ _ _ _ w
      · have w := w.2 c16
        refine X_iconst (v := (nI 1)) (show decode cX3_routesAreSound 62 = .ok (.iconst 1, 1) by decide +kernel) (by decide) ?_
        refine X_goto (tgt := 67) (show decode cX3_routesAreSound 63 = .ok (.goto 4, 3) by decide +kernel) (by decide) ?_
        exact kX3_routesAreSound_J67 ih _ _ _ _ _ _ _ w
set_option maxRecDepth 100000 in
set_option maxHeartbeats 4000000 in
theorem kX3_routesAreSound {a0 : Nat} {h : AH} {K : Int32 → AH → Prop} (w : wX3_routesAreSound a0 h K) : Cn mX3_routesAreSound (cwd mX3_routesAreSound) 4 0 0 [.ref a0] h (KI K) T0 := by
  refine Cn_of (by decide +kernel) rfl (Nat.le_of_ble_eq_true rfl) ?_
  show X mX3_routesAreSound 4 (KI K) T0 0 0 0 [(0, .ref a0)] [] h
  unfold wX3_routesAreSound at w
  refine X_iconst (v := (nI 0)) (show decode cX3_routesAreSound 0 = .ok (.iconst 0, 1) by decide +kernel) (by decide) ?_
  refine X_istore_n (ls' := [(0, .ref _), (1, .int _)]) (show decode cX3_routesAreSound 1 = .ok (.istore_n 1, 1) by decide +kernel) rfl (by decide) rfl ?_
  obtain ⟨n26, w⟩ := w
  exact kX3_routesAreSound_L2  n26 _ _ _ w
set_option maxRecDepth 100000 in
set_option maxHeartbeats 4000000 in
theorem kX3_queueIsSound_L4 {K : Int32 → AH → Prop} {c38 : Nat → Int32 → AH → Prop} (hc38 : ∀ x0 x1 h, c38 x0 x1 h → X mX3_queueIsSound 2 (KI K) T0 0 0 38 [(0, .ref x0), (1, .int x1)] [] h)  : ∀ (n : Nat) (x0 : Nat) (x1 : Int32) (x2 : Int32) (h : AH), wX3_queueIsSound_L4 K c38  n x0 x1 x2 h → X mX3_queueIsSound 2 (KI K) T0 0 0 4 [(0, .ref x0), (1, .int x1), (2, .int x2)] [] h := by
  intro n
  induction n with
  | zero => intro _ _ _ _ w; exact w.elim
  | succ n ih =>
    intro x0 x1 x2 h w
    rw [wX3_queueIsSound_L4] at w
    refine X_iload_n (j := 2) (show decode cX3_queueIsSound 4 = .ok (.iload_n 2, 1) by decide +kernel) rfl rfl ?_
    refine X_aload_n (j := 0) (show decode cX3_queueIsSound 5 = .ok (.aload_n 0, 1) by decide +kernel) rfl rfl ?_
    obtain ⟨s1, w⟩ := w
    refine X_getI fl_X3_73 (show decode cX3_queueIsSound 6 = .ok (.getfield 73, 3) by decide +kernel) s1 ?_
    refine X_icmp_ge (tgt := 38) (show decode cX3_queueIsSound 9 = .ok (.if_icmp .ge 29, 3) by decide +kernel) (by decide) ⟨fun c2 => ?_, fun c2 => ?_⟩
    · have w := w.1 c2
      refine X_pick (ls' := [(0, .ref _), (1, .int _)]) [0, 1] rfl ?_
      exact hc38 _ _ _ w
    · have w := w.2 c2
      refine X_iload_n (j := 1) (show decode cX3_queueIsSound 12 = .ok (.iload_n 1, 1) by decide +kernel) rfl rfl ?_
      refine X_aload_n (j := 0) (show decode cX3_queueIsSound 13 = .ok (.aload_n 0, 1) by decide +kernel) rfl rfl ?_
      refine X_getR fl_X3_76 (show decode cX3_queueIsSound 14 = .ok (.getfield 76, 3) by decide +kernel) s1 ?_
      refine X_iload_n (j := 2) (show decode cX3_queueIsSound 17 = .ok (.iload_n 2, 1) by decide +kernel) rfl rfl ?_
      obtain ⟨s3, w⟩ := w
      obtain ⟨s4, w⟩ := w
      refine X_aaldT (show decode cX3_queueIsSound 18 = .ok (.aaload, 1) by decide +kernel) (isA_eq s3) s4 ?_
      obtain ⟨s8, w⟩ := w
      refine X_vI (rc' := 0) (rs' := 0) (as := []) mv_X3_127 (show decode cX3_queueIsSound 19 = .ok (.invokevirtual 127, 3) by decide +kernel) (by decide) (Nat.le_of_ble_eq_true rfl) (Nat.le_of_ble_eq_true rfl) rfl rfl (Nat.le_of_ble_eq_true rfl) (rcvD s8 (by decide) rfl) (kX8_isRouted w) (fun E h hk => hk.elim) (fun r6 h5 w => ?_)
      refine X_if_eq (tgt := 29) (show decode cX3_queueIsSound 22 = .ok (.ifCond .eq 7, 3) by decide +kernel) (by decide) ⟨fun c7 => ?_, fun c7 => ?_⟩
      · have w := w.1 c7
        refine X_iconst (v := (nI 0)) (show decode cX3_queueIsSound 29 = .ok (.iconst 0, 1) by decide +kernel) (by decide) ?_
        refine X_iadd (show decode cX3_queueIsSound 30 = .ok (.iadd, 1) by decide +kernel) ?_
        refine X_istore_n (ls' := [(0, .ref _), (1, .int _), (2, .int _)]) (show decode cX3_queueIsSound 31 = .ok (.istore_n 1, 1) by decide +kernel) rfl (by decide) rfl ?_
        refine X_iinc (j := 2) (v := _ + (nI 1)) (ls' := [(0, .ref _), (1, .int _), (2, .int _)]) (show decode cX3_queueIsSound 32 = .ok (.iinc 2 1, 3) by decide +kernel) rfl rfl (Nat.le_of_ble_eq_true rfl) rfl ?_
        refine X_goto (tgt := 4) (show decode cX3_queueIsSound 35 = .ok (.goto (-31), 3) by decide +kernel) (by decide) ?_
        exact ih _ _ _ _ w
      · have w := w.2 c7
        refine X_iconst (v := (nI 1)) (show decode cX3_queueIsSound 25 = .ok (.iconst 1, 1) by decide +kernel) (by decide) ?_
        refine X_goto (tgt := 30) (show decode cX3_queueIsSound 26 = .ok (.goto 4, 3) by decide +kernel) (by decide) ?_
        refine X_iadd (show decode cX3_queueIsSound 30 = .ok (.iadd, 1) by decide +kernel) ?_
        refine X_istore_n (ls' := [(0, .ref _), (1, .int _), (2, .int _)]) (show decode cX3_queueIsSound 31 = .ok (.istore_n 1, 1) by decide +kernel) rfl (by decide) rfl ?_
        refine X_iinc (j := 2) (v := _ + (nI 1)) (ls' := [(0, .ref _), (1, .int _), (2, .int _)]) (show decode cX3_queueIsSound 32 = .ok (.iinc 2 1, 3) by decide +kernel) rfl rfl (Nat.le_of_ble_eq_true rfl) rfl ?_
        refine X_goto (tgt := 4) (show decode cX3_queueIsSound 35 = .ok (.goto (-31), 3) by decide +kernel) (by decide) ?_
        exact ih _ _ _ _ w
set_option maxRecDepth 100000 in
set_option maxHeartbeats 4000000 in
theorem kX3_queueIsSound_L74 {K : Int32 → AH → Prop} {c102 : Nat → Int32 → Int32 → AH → Prop} (hc102 : ∀ x0 x1 x2 h, c102 x0 x1 x2 h → X mX3_queueIsSound 2 (KI K) T0 0 0 102 [(0, .ref x0), (1, .int x1), (2, .int x2)] [] h)  : ∀ (n : Nat) (x0 : Nat) (x1 : Int32) (x2 : Int32) (x4 : Int32) (h : AH), wX3_queueIsSound_L74 K c102  n x0 x1 x2 x4 h → X mX3_queueIsSound 2 (KI K) T0 0 0 74 [(0, .ref x0), (1, .int x1), (2, .int x2), (4, .int x4)] [] h := by
  intro n
  induction n with
  | zero => intro _ _ _ _ _ w; exact w.elim
  | succ n ih =>
    intro x0 x1 x2 x4 h w
    rw [wX3_queueIsSound_L74] at w
    refine X_iload (j := 3) (show decode cX3_queueIsSound 74 = .ok (.iload 4, 2) by decide +kernel) rfl ?_
    refine X_iload_n (j := 2) (show decode cX3_queueIsSound 76 = .ok (.iload_n 2, 1) by decide +kernel) rfl rfl ?_
    refine X_icmp_ge (tgt := 102) (show decode cX3_queueIsSound 77 = .ok (.if_icmp .ge 25, 3) by decide +kernel) (by decide) ⟨fun c23 => ?_, fun c23 => ?_⟩
    · have w := w.1 c23
      refine X_pick (ls' := [(0, .ref _), (1, .int _), (2, .int _)]) [0, 1, 2] rfl ?_
      exact hc102 _ _ _ _ w
    · have w := w.2 c23
      refine X_aload_n (j := 0) (show decode cX3_queueIsSound 80 = .ok (.aload_n 0, 1) by decide +kernel) rfl rfl ?_
      refine X_iload (j := 3) (show decode cX3_queueIsSound 81 = .ok (.iload 4, 2) by decide +kernel) rfl ?_
      obtain ⟨s30, w⟩ := w
      refine X_vI (rc' := 0) (rs' := 0) (as := [.int _]) mv_X3_134 (show decode cX3_queueIsSound 83 = .ok (.invokevirtual 134, 3) by decide +kernel) (by decide) (Nat.le_of_ble_eq_true rfl) (Nat.le_of_ble_eq_true rfl) rfl rfl (Nat.le_of_ble_eq_true rfl) (rcvD s30 (by decide) rfl) (kX7_inQueue w) (fun E h hk => hk.elim) (fun r25 h24 w => ?_)
      refine X_aload_n (j := 0) (show decode cX3_queueIsSound 86 = .ok (.aload_n 0, 1) by decide +kernel) rfl rfl ?_
      refine X_iload_n (j := 2) (show decode cX3_queueIsSound 87 = .ok (.iload_n 2, 1) by decide +kernel) rfl rfl ?_
      obtain ⟨s29, w⟩ := w
      refine X_vI (rc' := 0) (rs' := 0) (as := [.int _]) mv_X3_134 (show decode cX3_queueIsSound 88 = .ok (.invokevirtual 134, 3) by decide +kernel) (by decide) (Nat.le_of_ble_eq_true rfl) (Nat.le_of_ble_eq_true rfl) rfl rfl (Nat.le_of_ble_eq_true rfl) (rcvD s29 (by decide) rfl) (kX7_inQueue w) (fun E h hk => hk.elim) (fun r27 h26 w => ?_)
      refine X_icmp_ne (tgt := 96) (show decode cX3_queueIsSound 91 = .ok (.if_icmp .ne 5, 3) by decide +kernel) (by decide) ⟨fun c28 => ?_, fun c28 => ?_⟩
      · have w := w.1 c28
        refine X_iinc (j := 3) (v := _ + (nI 1)) (ls' := [(0, .ref _), (1, .int _), (2, .int _), (4, .int _)]) (show decode cX3_queueIsSound 96 = .ok (.iinc 4 1, 3) by decide +kernel) rfl rfl (Nat.le_of_ble_eq_true rfl) rfl ?_
        refine X_goto (tgt := 74) (show decode cX3_queueIsSound 99 = .ok (.goto (-25), 3) by decide +kernel) (by decide) ?_
        exact ih _ _ _ _ _ w
      · have w := w.2 c28
        refine X_iconst (v := (nI 0)) (show decode cX3_queueIsSound 94 = .ok (.iconst 0, 1) by decide +kernel) (by decide) ?_
        exact X_iret ⟨(show decode cX3_queueIsSound 95 = .ok (.ireturn, 1) by decide +kernel), .boolean, rfl, (by decide)⟩ ⟨_, rfl, w⟩
set_option maxRecDepth 100000 in
set_option maxHeartbeats 4000000 in
theorem kX3_queueIsSound_L40 {K : Int32 → AH → Prop}    : ∀ (n : Nat) (x0 : Nat) (x1 : Int32) (x2 : Int32) (h : AH), wX3_queueIsSound_L40 K   n x0 x1 x2 h → X mX3_queueIsSound 2 (KI K) T0 0 0 40 [(0, .ref x0), (1, .int x1), (2, .int x2)] [] h := by
  intro n
  induction n with
  | zero => intro _ _ _ _ w; exact w.elim
  | succ n ih =>
    intro x0 x1 x2 h w
    rw [wX3_queueIsSound_L40] at w
    refine X_iload_n (j := 2) (show decode cX3_queueIsSound 40 = .ok (.iload_n 2, 1) by decide +kernel) rfl rfl ?_
    refine X_aload_n (j := 0) (show decode cX3_queueIsSound 41 = .ok (.aload_n 0, 1) by decide +kernel) rfl rfl ?_
    obtain ⟨s12, w⟩ := w
    refine X_getI fl_X3_131 (show decode cX3_queueIsSound 42 = .ok (.getfield 131, 3) by decide +kernel) s12 ?_
    refine X_icmp_ge (tgt := 108) (show decode cX3_queueIsSound 45 = .ok (.if_icmp .ge 63, 3) by decide +kernel) (by decide) ⟨fun c13 => ?_, fun c13 => ?_⟩
    · have w := w.1 c13
      refine X_iload_n (j := 1) (show decode cX3_queueIsSound 108 = .ok (.iload_n 1, 1) by decide +kernel) rfl rfl ?_
      refine X_aload_n (j := 0) (show decode cX3_queueIsSound 109 = .ok (.aload_n 0, 1) by decide +kernel) rfl rfl ?_
      refine X_getI fl_X3_131 (show decode cX3_queueIsSound 110 = .ok (.getfield 131, 3) by decide +kernel) s12 ?_
      refine X_iadd (show decode cX3_queueIsSound 113 = .ok (.iadd, 1) by decide +kernel) ?_
      refine X_aload_n (j := 0) (show decode cX3_queueIsSound 114 = .ok (.aload_n 0, 1) by decide +kernel) rfl rfl ?_
      refine X_getI fl_X3_73 (show decode cX3_queueIsSound 115 = .ok (.getfield 73, 3) by decide +kernel) s12 ?_
      refine X_icmp_ne (tgt := 125) (show decode cX3_queueIsSound 118 = .ok (.if_icmp .ne 7, 3) by decide +kernel) (by decide) ⟨fun c14 => ?_, fun c14 => ?_⟩
      · have w := w.1 c14
        refine X_iconst (v := (nI 0)) (show decode cX3_queueIsSound 125 = .ok (.iconst 0, 1) by decide +kernel) (by decide) ?_
        exact X_iret ⟨(show decode cX3_queueIsSound 126 = .ok (.ireturn, 1) by decide +kernel), .boolean, rfl, (by decide)⟩ ⟨_, rfl, w⟩
      · have w := w.2 c14
        refine X_iconst (v := (nI 1)) (show decode cX3_queueIsSound 121 = .ok (.iconst 1, 1) by decide +kernel) (by decide) ?_
        refine X_goto (tgt := 126) (show decode cX3_queueIsSound 122 = .ok (.goto 4, 3) by decide +kernel) (by decide) ?_
        exact X_iret ⟨(show decode cX3_queueIsSound 126 = .ok (.ireturn, 1) by decide +kernel), .boolean, rfl, (by decide)⟩ ⟨_, rfl, w⟩
    · have w := w.2 c13
      refine X_aload_n (j := 0) (show decode cX3_queueIsSound 48 = .ok (.aload_n 0, 1) by decide +kernel) rfl rfl ?_
      refine X_aload_n (j := 0) (show decode cX3_queueIsSound 49 = .ok (.aload_n 0, 1) by decide +kernel) rfl rfl ?_
      refine X_iload_n (j := 2) (show decode cX3_queueIsSound 50 = .ok (.iload_n 2, 1) by decide +kernel) rfl rfl ?_
      refine X_vI (rc' := 0) (rs' := 0) (as := [.int _]) mv_X3_134 (show decode cX3_queueIsSound 51 = .ok (.invokevirtual 134, 3) by decide +kernel) (by decide) (Nat.le_of_ble_eq_true rfl) (Nat.le_of_ble_eq_true rfl) rfl rfl (Nat.le_of_ble_eq_true rfl) (rcvD s12 (by decide) rfl) (kX7_inQueue w) (fun E h hk => hk.elim) (fun r16 h15 w => ?_)
      obtain ⟨s37, w⟩ := w
      refine X_vR (rc' := 0) (rs' := 0) (as := [.int _]) mv_X3_137 (show decode cX3_queueIsSound 54 = .ok (.invokevirtual 137, 3) by decide +kernel) (by decide) (Nat.le_of_ble_eq_true rfl) (Nat.le_of_ble_eq_true rfl) rfl rfl (Nat.le_of_ble_eq_true rfl) (rcvD s37 (by decide) rfl) (kX7_find w) (fun E h hk => hk.elim) (fun r18 h17 w => ?_)
      refine X_astore_n (ls' := [(0, .ref _), (1, .int _), (2, .int _), (3, .ref _)]) (show decode cX3_queueIsSound 57 = .ok (.astore_n 3, 1) by decide +kernel) rfl (by decide) rfl ?_
      refine X_aload_n (j := 3) (show decode cX3_queueIsSound 58 = .ok (.aload_n 3, 1) by decide +kernel) rfl rfl ?_
      refine X_ifnull (tgt := 69) (show decode cX3_queueIsSound 59 = .ok (.ifnull 10, 3) by decide +kernel) (by decide) ⟨fun c19 => ?_, fun c19 => ?_⟩
      · have w := w.1 c19
        refine X_iconst (v := (nI 0)) (show decode cX3_queueIsSound 69 = .ok (.iconst 0, 1) by decide +kernel) (by decide) ?_
        exact X_iret ⟨(show decode cX3_queueIsSound 70 = .ok (.ireturn, 1) by decide +kernel), .boolean, rfl, (by decide)⟩ ⟨_, rfl, w⟩
      · have w := w.2 c19
        refine X_aload_n (j := 3) (show decode cX3_queueIsSound 62 = .ok (.aload_n 3, 1) by decide +kernel) rfl rfl ?_
        obtain ⟨s36, w⟩ := w
        refine X_vI (rc' := 0) (rs' := 0) (as := []) mv_X3_127 (show decode cX3_queueIsSound 63 = .ok (.invokevirtual 127, 3) by decide +kernel) (by decide) (Nat.le_of_ble_eq_true rfl) (Nat.le_of_ble_eq_true rfl) rfl rfl (Nat.le_of_ble_eq_true rfl) (rcvD s36 (by decide) rfl) (kX8_isRouted w) (fun E h hk => hk.elim) (fun r21 h20 w => ?_)
        refine X_if_eq (tgt := 71) (show decode cX3_queueIsSound 66 = .ok (.ifCond .eq 5, 3) by decide +kernel) (by decide) ⟨fun c22 => ?_, fun c22 => ?_⟩
        · have w := w.1 c22
          refine X_iconst (v := (nI 0)) (show decode cX3_queueIsSound 71 = .ok (.iconst 0, 1) by decide +kernel) (by decide) ?_
          refine X_istore (ls' := [(0, .ref _), (1, .int _), (2, .int _), (3, .ref _), (4, .int _)]) (show decode cX3_queueIsSound 72 = .ok (.istore 4, 2) by decide +kernel) (by decide) rfl ?_
          refine X_pick (ls' := [(0, .ref _), (1, .int _), (2, .int _), (4, .int _)]) [0, 1, 2, 4] rfl ?_
          obtain ⟨n35, w⟩ := w
          refine kX3_queueIsSound_L74 ?_ n35 _ _ _ _ _ w
          · intro x0_31 x1_32 x2_33 h34 w
            refine X_iinc (j := 2) (v := _ + (nI 1)) (ls' := [(0, .ref _), (1, .int _), (2, .int _)]) (show decode cX3_queueIsSound 102 = .ok (.iinc 2 1, 3) by decide +kernel) rfl rfl (Nat.le_of_ble_eq_true rfl) rfl ?_
            refine X_goto (tgt := 40) (show decode cX3_queueIsSound 105 = .ok (.goto (-65), 3) by decide +kernel) (by decide) ?_
            exact ih _ _ _ _ w
        · have w := w.2 c22
          refine X_iconst (v := (nI 0)) (show decode cX3_queueIsSound 69 = .ok (.iconst 0, 1) by decide +kernel) (by decide) ?_
          exact X_iret ⟨(show decode cX3_queueIsSound 70 = .ok (.ireturn, 1) by decide +kernel), .boolean, rfl, (by decide)⟩ ⟨_, rfl, w⟩
set_option maxRecDepth 100000 in
set_option maxHeartbeats 4000000 in
theorem kX3_queueIsSound {a0 : Nat} {h : AH} {K : Int32 → AH → Prop} (w : wX3_queueIsSound a0 h K) : Cn mX3_queueIsSound (cwd mX3_queueIsSound) 2 0 0 [.ref a0] h (KI K) T0 := by
  refine Cn_of (by decide +kernel) rfl (Nat.le_of_ble_eq_true rfl) ?_
  show X mX3_queueIsSound 2 (KI K) T0 0 0 0 [(0, .ref a0)] [] h
  unfold wX3_queueIsSound at w
  refine X_iconst (v := (nI 0)) (show decode cX3_queueIsSound 0 = .ok (.iconst 0, 1) by decide +kernel) (by decide) ?_
  refine X_istore_n (ls' := [(0, .ref _), (1, .int _)]) (show decode cX3_queueIsSound 1 = .ok (.istore_n 1, 1) by decide +kernel) rfl (by decide) rfl ?_
  refine X_iconst (v := (nI 0)) (show decode cX3_queueIsSound 2 = .ok (.iconst 0, 1) by decide +kernel) (by decide) ?_
  refine X_istore_n (ls' := [(0, .ref _), (1, .int _), (2, .int _)]) (show decode cX3_queueIsSound 3 = .ok (.istore_n 2, 1) by decide +kernel) rfl (by decide) rfl ?_
  obtain ⟨n39, w⟩ := w
  refine kX3_queueIsSound_L4 ?_ n39 _ _ _ _ w
  · intro x0_9 x1_10 h11 w
    refine X_iconst (v := (nI 0)) (show decode cX3_queueIsSound 38 = .ok (.iconst 0, 1) by decide +kernel) (by decide) ?_
    refine X_istore_n (ls' := [(0, .ref _), (1, .int _), (2, .int _)]) (show decode cX3_queueIsSound 39 = .ok (.istore_n 2, 1) by decide +kernel) rfl (by decide) rfl ?_
    obtain ⟨n38, w⟩ := w
    exact kX3_queueIsSound_L40  n38 _ _ _ _ w
set_option maxRecDepth 100000 in
set_option maxHeartbeats 4000000 in
theorem kX3_hold {a0 : Nat} {h : AH} {K : Int32 → AH → Prop} (w : wX3_hold a0 h K) : Cn mX3_hold (cwd mX3_hold) 5 0 0 [.ref a0] h (KI K) T0 := by
  refine Cn_of (by decide +kernel) rfl (Nat.le_of_ble_eq_true rfl) ?_
  show X mX3_hold 5 (KI K) T0 0 0 0 [(0, .ref a0)] [] h
  unfold wX3_hold at w
  refine X_aload_n (j := 0) (show decode cX3_hold 0 = .ok (.aload_n 0, 1) by decide +kernel) rfl rfl ?_
  obtain ⟨s1, w⟩ := w
  refine X_getR fl_X3_9 (show decode cX3_hold 1 = .ok (.getfield 9, 3) by decide +kernel) s1 ?_
  refine X_sI (rc' := 0) (rs' := 0) (as := [.ref _]) ms_X3_15 (show decode cX3_hold 4 = .ok (.invokestatic 15, 3) by decide +kernel) (by decide) (Nat.le_of_ble_eq_true rfl) (Nat.le_of_ble_eq_true rfl) rfl rfl (Nat.le_of_ble_eq_true rfl) (kX3_lineIsSound w) (fun E h hk => hk.elim) (fun r3 h2 w => ?_)
  refine X_if_eq (tgt := 42) (show decode cX3_hold 7 = .ok (.ifCond .eq 35, 3) by decide +kernel) (by decide) ⟨fun c4 => ?_, fun c4 => ?_⟩
  · have w := w.1 c4
    refine X_iconst (v := (nI 0)) (show decode cX3_hold 42 = .ok (.iconst 0, 1) by decide +kernel) (by decide) ?_
    exact X_iret ⟨(show decode cX3_hold 43 = .ok (.ireturn, 1) by decide +kernel), .boolean, rfl, (by decide)⟩ ⟨_, rfl, w⟩
  · have w := w.2 c4
    refine X_aload_n (j := 0) (show decode cX3_hold 10 = .ok (.aload_n 0, 1) by decide +kernel) rfl rfl ?_
    refine X_sI (rc' := 0) (rs' := 0) (as := [.ref _]) ms_X3_21 (show decode cX3_hold 11 = .ok (.invokestatic 21, 3) by decide +kernel) (by decide) (Nat.le_of_ble_eq_true rfl) (Nat.le_of_ble_eq_true rfl) rfl rfl (Nat.le_of_ble_eq_true rfl) (kX3_trainsAreSound w) (fun E h hk => hk.elim) (fun r6 h5 w => ?_)
    refine X_if_eq (tgt := 42) (show decode cX3_hold 14 = .ok (.ifCond .eq 28, 3) by decide +kernel) (by decide) ⟨fun c7 => ?_, fun c7 => ?_⟩
    · have w := w.1 c7
      refine X_iconst (v := (nI 0)) (show decode cX3_hold 42 = .ok (.iconst 0, 1) by decide +kernel) (by decide) ?_
      exact X_iret ⟨(show decode cX3_hold 43 = .ok (.ireturn, 1) by decide +kernel), .boolean, rfl, (by decide)⟩ ⟨_, rfl, w⟩
    · have w := w.2 c7
      refine X_aload_n (j := 0) (show decode cX3_hold 17 = .ok (.aload_n 0, 1) by decide +kernel) rfl rfl ?_
      refine X_sI (rc' := 0) (rs' := 0) (as := [.ref _]) ms_X3_25 (show decode cX3_hold 18 = .ok (.invokestatic 25, 3) by decide +kernel) (by decide) (Nat.le_of_ble_eq_true rfl) (Nat.le_of_ble_eq_true rfl) rfl rfl (Nat.le_of_ble_eq_true rfl) (kX3_blocksAreHeldOnce w) (fun E h hk => hk.elim) (fun r9 h8 w => ?_)
      refine X_if_eq (tgt := 42) (show decode cX3_hold 21 = .ok (.ifCond .eq 21, 3) by decide +kernel) (by decide) ⟨fun c10 => ?_, fun c10 => ?_⟩
      · have w := w.1 c10
        refine X_iconst (v := (nI 0)) (show decode cX3_hold 42 = .ok (.iconst 0, 1) by decide +kernel) (by decide) ?_
        exact X_iret ⟨(show decode cX3_hold 43 = .ok (.ireturn, 1) by decide +kernel), .boolean, rfl, (by decide)⟩ ⟨_, rfl, w⟩
      · have w := w.2 c10
        refine X_aload_n (j := 0) (show decode cX3_hold 24 = .ok (.aload_n 0, 1) by decide +kernel) rfl rfl ?_
        refine X_sI (rc' := 0) (rs' := 0) (as := [.ref _]) ms_X3_28 (show decode cX3_hold 25 = .ok (.invokestatic 28, 3) by decide +kernel) (by decide) (Nat.le_of_ble_eq_true rfl) (Nat.le_of_ble_eq_true rfl) rfl rfl (Nat.le_of_ble_eq_true rfl) (kX3_routesAreSound w) (fun E h hk => hk.elim) (fun r12 h11 w => ?_)
        refine X_if_eq (tgt := 42) (show decode cX3_hold 28 = .ok (.ifCond .eq 14, 3) by decide +kernel) (by decide) ⟨fun c13 => ?_, fun c13 => ?_⟩
        · have w := w.1 c13
          refine X_iconst (v := (nI 0)) (show decode cX3_hold 42 = .ok (.iconst 0, 1) by decide +kernel) (by decide) ?_
          exact X_iret ⟨(show decode cX3_hold 43 = .ok (.ireturn, 1) by decide +kernel), .boolean, rfl, (by decide)⟩ ⟨_, rfl, w⟩
        · have w := w.2 c13
          refine X_aload_n (j := 0) (show decode cX3_hold 31 = .ok (.aload_n 0, 1) by decide +kernel) rfl rfl ?_
          refine X_sI (rc' := 0) (rs' := 0) (as := [.ref _]) ms_X3_31 (show decode cX3_hold 32 = .ok (.invokestatic 31, 3) by decide +kernel) (by decide) (Nat.le_of_ble_eq_true rfl) (Nat.le_of_ble_eq_true rfl) rfl rfl (Nat.le_of_ble_eq_true rfl) (kX3_queueIsSound w) (fun E h hk => hk.elim) (fun r15 h14 w => ?_)
          refine X_if_eq (tgt := 42) (show decode cX3_hold 35 = .ok (.ifCond .eq 7, 3) by decide +kernel) (by decide) ⟨fun c16 => ?_, fun c16 => ?_⟩
          · have w := w.1 c16
            refine X_iconst (v := (nI 0)) (show decode cX3_hold 42 = .ok (.iconst 0, 1) by decide +kernel) (by decide) ?_
            exact X_iret ⟨(show decode cX3_hold 43 = .ok (.ireturn, 1) by decide +kernel), .boolean, rfl, (by decide)⟩ ⟨_, rfl, w⟩
          · have w := w.2 c16
            refine X_iconst (v := (nI 1)) (show decode cX3_hold 38 = .ok (.iconst 1, 1) by decide +kernel) (by decide) ?_
            refine X_goto (tgt := 43) (show decode cX3_hold 39 = .ok (.goto 4, 3) by decide +kernel) (by decide) ?_
            exact X_iret ⟨(show decode cX3_hold 43 = .ok (.ireturn, 1) by decide +kernel), .boolean, rfl, (by decide)⟩ ⟨_, rfl, w⟩
set_option maxRecDepth 100000 in
set_option maxHeartbeats 4000000 in
theorem kX9_isConsistent {a0 : Nat} {h : AH} {K : Int32 → AH → Prop} (w : wX9_isConsistent a0 h K) : Cn mX9_isConsistent (cwd mX9_isConsistent) 6 0 0 [.ref a0] h (KI K) T0 := by
  refine Cn_of (by decide +kernel) rfl (Nat.le_of_ble_eq_true rfl) ?_
  show X mX9_isConsistent 6 (KI K) T0 0 0 0 [(0, .ref a0)] [] h
  unfold wX9_isConsistent at w
  refine X_aload_n (j := 0) (show decode cX9_isConsistent 0 = .ok (.aload_n 0, 1) by decide +kernel) rfl rfl ?_
  obtain ⟨s1, w⟩ := w
  refine X_getR fl_X9_12 (show decode cX9_isConsistent 1 = .ok (.getfield 12, 3) by decide +kernel) s1 ?_
  refine X_sI (rc' := 0) (rs' := 0) (as := [.ref _]) ms_X9_290 (show decode cX9_isConsistent 4 = .ok (.invokestatic 290, 3) by decide +kernel) (by decide) (Nat.le_of_ble_eq_true rfl) (Nat.le_of_ble_eq_true rfl) rfl rfl (Nat.le_of_ble_eq_true rfl) (kX3_hold w) (fun E h hk => hk.elim) (fun r3 h2 w => ?_)
  obtain ⟨s4, w⟩ := w
  exact X_iret ⟨(show decode cX9_isConsistent 7 = .ok (.ireturn, 1) by decide +kernel), .boolean, rfl, s4⟩ ⟨_, rfl, w⟩
set_option maxRecDepth 100000 in
set_option maxHeartbeats 4000000 in
theorem kJ8_newLength_cabcc_J21 {K : Int32 → AH → Prop}   (x0 : Int32) (x1 : Int32) (h : AH) (w : wJ8_newLength_cabcc_J21 K  x0 x1 h) : X mJ8_newLength_cabcc 2 (KI K) T0 0 0 21 [(0, .int x0), (1, .int x1)] [] h := by
  unfold wJ8_newLength_cabcc_J21 at w
  exact w.elim
set_option maxRecDepth 100000 in
set_option maxHeartbeats 4000000 in
theorem kJ8_newLength_cabcc {a0 : Int32} {a1 : Int32} {a2 : Int32} {h : AH} {K : Int32 → AH → Prop} (w : wJ8_newLength_cabcc a0 a1 a2 h K) : Cn mJ8_newLength_cabcc (cwd mJ8_newLength_cabcc) 2 0 0 [.int a0, .int a1, .int a2] h (KI K) T0 := by
  refine Cn_of (by decide +kernel) rfl (Nat.le_of_ble_eq_true rfl) ?_
  show X mJ8_newLength_cabcc 2 (KI K) T0 0 0 0 [(0, .int a0), (1, .int a1), (2, .int a2)] [] h
  unfold wJ8_newLength_cabcc at w
  refine X_iload_n (j := 0) (show decode cJ8_newLength_cabcc 0 = .ok (.iload_n 0, 1) by decide +kernel) rfl rfl ?_
  refine X_iload_n (j := 1) (show decode cJ8_newLength_cabcc 1 = .ok (.iload_n 1, 1) by decide +kernel) rfl rfl ?_
  refine X_iload_n (j := 2) (show decode cJ8_newLength_cabcc 2 = .ok (.iload_n 2, 1) by decide +kernel) rfl rfl ?_
  refine X_mmax (show decode cJ8_newLength_cabcc 3 = .ok (.invokestatic 194, 3) by decide +kernel) gl_J8_194 gst_max gin_Math gco_max (by decide) (Nat.le_of_ble_eq_true rfl) ?_
  refine X_iadd (show decode cJ8_newLength_cabcc 6 = .ok (.iadd, 1) by decide +kernel) ?_
  refine X_istore_n (ls' := [(0, .int _), (1, .int _), (2, .int _), (3, .int _)]) (show decode cJ8_newLength_cabcc 7 = .ok (.istore_n 3, 1) by decide +kernel) rfl (by decide) rfl ?_
  refine X_iconst (v := (nI 0)) (show decode cJ8_newLength_cabcc 8 = .ok (.iconst 0, 1) by decide +kernel) (by decide) ?_
  refine X_iload_n (j := 3) (show decode cJ8_newLength_cabcc 9 = .ok (.iload_n 3, 1) by decide +kernel) rfl rfl ?_
  refine X_icmp_ge (tgt := 21) (show decode cJ8_newLength_cabcc 10 = .ok (.if_icmp .ge 11, 3) by decide +kernel) (by decide) ⟨fun c1 => ?_, fun c1 => ?_⟩
  · have w := w.1 c1
    refine X_pick (ls' := [(0, .int _), (1, .int _)]) [0, 1] rfl ?_
    exact kJ8_newLength_cabcc_J21  _ _ _ w
  · have w := w.2 c1
    refine X_iload_n (j := 3) (show decode cJ8_newLength_cabcc 13 = .ok (.iload_n 3, 1) by decide +kernel) rfl rfl ?_
    refine X_ldc (v := (nI 2147483639)) (show decode cJ8_newLength_cabcc 14 = .ok (.ldc 200, 2) by decide +kernel) gc_J8_200 ?_
    refine X_icmp_gt (tgt := 21) (show decode cJ8_newLength_cabcc 16 = .ok (.if_icmp .gt 5, 3) by decide +kernel) (by decide) ⟨fun c2 => ?_, fun c2 => ?_⟩
    · have w := w.1 c2
      refine X_pick (ls' := [(0, .int _), (1, .int _)]) [0, 1] rfl ?_
      exact kJ8_newLength_cabcc_J21  _ _ _ w
    · have w := w.2 c2
      refine X_iload_n (j := 3) (show decode cJ8_newLength_cabcc 19 = .ok (.iload_n 3, 1) by decide +kernel) rfl rfl ?_
      exact X_iret ⟨(show decode cJ8_newLength_cabcc 20 = .ok (.ireturn, 1) by decide +kernel), .int, rfl, rfl⟩ ⟨_, rfl, w⟩
set_option maxRecDepth 100000 in
set_option maxHeartbeats 4000000 in
theorem kJ5_newCapacity_0f7a4 {a0 : Nat} {a1 : Int32} {h : AH} {K : Int32 → AH → Prop} (w : wJ5_newCapacity_0f7a4 a0 a1 h K) : Cn mJ5_newCapacity_0f7a4 (cwd mJ5_newCapacity_0f7a4) 3 0 0 [.ref a0, .int a1] h (KI K) T0 := by
  refine Cn_of (by decide +kernel) rfl (Nat.le_of_ble_eq_true rfl) ?_
  show X mJ5_newCapacity_0f7a4 3 (KI K) T0 0 0 0 [(0, .ref a0), (1, .int a1)] [] h
  unfold wJ5_newCapacity_0f7a4 at w
  refine X_aload_n (j := 0) (show decode cJ5_newCapacity_0f7a4 0 = .ok (.aload_n 0, 1) by decide +kernel) rfl rfl ?_
  obtain ⟨s1, w⟩ := w
  refine X_getR fl_J5_15 (show decode cJ5_newCapacity_0f7a4 1 = .ok (.getfield 15, 3) by decide +kernel) s1 ?_
  obtain ⟨s2, w⟩ := w
  refine X_alen (v := nI (ln _ _)) (show decode cJ5_newCapacity_0f7a4 4 = .ok (.arraylength, 1) by decide +kernel) (by decide) (isA_eq s2) rfl ?_
  refine X_istore_n (ls' := [(0, .ref _), (1, .int _), (2, .int _)]) (show decode cJ5_newCapacity_0f7a4 5 = .ok (.istore_n 2, 1) by decide +kernel) rfl (by decide) rfl ?_
  refine X_iload_n (j := 1) (show decode cJ5_newCapacity_0f7a4 6 = .ok (.iload_n 1, 1) by decide +kernel) rfl rfl ?_
  refine X_aload_n (j := 0) (show decode cJ5_newCapacity_0f7a4 7 = .ok (.aload_n 0, 1) by decide +kernel) rfl rfl ?_
  refine X_getI fl_J5_22 (show decode cJ5_newCapacity_0f7a4 8 = .ok (.getfield 22, 3) by decide +kernel) s1 ?_
  refine X_ishl (show decode cJ5_newCapacity_0f7a4 11 = .ok (.ishl, 1) by decide +kernel) ?_
  refine X_istore_n (ls' := [(0, .ref _), (1, .int _), (2, .int _), (3, .int _)]) (show decode cJ5_newCapacity_0f7a4 12 = .ok (.istore_n 3, 1) by decide +kernel) rfl (by decide) rfl ?_
  refine X_iload_n (j := 3) (show decode cJ5_newCapacity_0f7a4 13 = .ok (.iload_n 3, 1) by decide +kernel) rfl rfl ?_
  refine X_iload_n (j := 2) (show decode cJ5_newCapacity_0f7a4 14 = .ok (.iload_n 2, 1) by decide +kernel) rfl rfl ?_
  refine X_isub (show decode cJ5_newCapacity_0f7a4 15 = .ok (.isub, 1) by decide +kernel) ?_
  refine X_topi (fun v3 e4 => ?_)
  have w := w v3 e4
  refine X_istore (ls' := [(0, .ref _), (1, .int _), (2, .int _), (3, .int _), (4, .int _)]) (show decode cJ5_newCapacity_0f7a4 16 = .ok (.istore 4, 2) by decide +kernel) (by decide) rfl ?_
  refine X_iload_n (j := 2) (show decode cJ5_newCapacity_0f7a4 18 = .ok (.iload_n 2, 1) by decide +kernel) rfl rfl ?_
  refine X_iload (j := 4) (show decode cJ5_newCapacity_0f7a4 19 = .ok (.iload 4, 2) by decide +kernel) rfl ?_
  refine X_iload_n (j := 2) (show decode cJ5_newCapacity_0f7a4 21 = .ok (.iload_n 2, 1) by decide +kernel) rfl rfl ?_
  refine X_iconst (v := (nI 2)) (show decode cJ5_newCapacity_0f7a4 22 = .ok (.iconst 2, 1) by decide +kernel) (by decide) ?_
  refine X_aload_n (j := 0) (show decode cJ5_newCapacity_0f7a4 23 = .ok (.aload_n 0, 1) by decide +kernel) rfl rfl ?_
  refine X_getI fl_J5_22 (show decode cJ5_newCapacity_0f7a4 24 = .ok (.getfield 22, 3) by decide +kernel) s1 ?_
  refine X_ishl (show decode cJ5_newCapacity_0f7a4 27 = .ok (.ishl, 1) by decide +kernel) ?_
  refine X_iadd (show decode cJ5_newCapacity_0f7a4 28 = .ok (.iadd, 1) by decide +kernel) ?_
  refine X_sI (rc' := 0) (rs' := 0) (as := [.int _, .int _, .int _]) ms_J5_114 (show decode cJ5_newCapacity_0f7a4 29 = .ok (.invokestatic 114, 3) by decide +kernel) (by decide) (Nat.le_of_ble_eq_true rfl) (Nat.le_of_ble_eq_true rfl) rfl rfl (Nat.le_of_ble_eq_true rfl) (kJ8_newLength_cabcc w) (fun E h hk => hk.elim) (fun r6 h5 w => ?_)
  refine X_istore (ls' := [(0, .ref _), (1, .int _), (2, .int _), (3, .int _), (4, .int _), (5, .int _)]) (show decode cJ5_newCapacity_0f7a4 32 = .ok (.istore 5, 2) by decide +kernel) (by decide) rfl ?_
  refine X_iload (j := 5) (show decode cJ5_newCapacity_0f7a4 34 = .ok (.iload 5, 2) by decide +kernel) rfl ?_
  refine X_ldc (v := (nI 2147483647)) (show decode cJ5_newCapacity_0f7a4 36 = .ok (.ldc 39, 2) by decide +kernel) gc_J5_39 ?_
  refine X_icmp_ne (tgt := 51) (show decode cJ5_newCapacity_0f7a4 38 = .ok (.if_icmp .ne 13, 3) by decide +kernel) (by decide) ⟨fun c7 => ?_, fun c7 => ?_⟩
  · have w := w.1 c7
    refine X_iload (j := 5) (show decode cJ5_newCapacity_0f7a4 51 = .ok (.iload 5, 2) by decide +kernel) rfl ?_
    refine X_aload_n (j := 0) (show decode cJ5_newCapacity_0f7a4 53 = .ok (.aload_n 0, 1) by decide +kernel) rfl rfl ?_
    obtain ⟨s8, w⟩ := w
    refine X_getI fl_J5_22 (show decode cJ5_newCapacity_0f7a4 54 = .ok (.getfield 22, 3) by decide +kernel) s8 ?_
    refine X_ishr (show decode cJ5_newCapacity_0f7a4 57 = .ok (.ishr, 1) by decide +kernel) ?_
    exact X_iret ⟨(show decode cJ5_newCapacity_0f7a4 58 = .ok (.ireturn, 1) by decide +kernel), .int, rfl, rfl⟩ ⟨_, rfl, w⟩
  · have w := w.2 c7
    exact w.elim
set_option maxRecDepth 100000 in
set_option maxHeartbeats 4000000 in
theorem kJ7_copyOf_9075b {a0 : Nat} {a1 : Int32} {h : AH} {K : Nat → AH → Prop} (w : wJ7_copyOf_9075b a0 a1 h K) : Cn mJ7_copyOf_9075b (cwd mJ7_copyOf_9075b) 2 1 256 [.ref a0, .int a1] h (KR K) T0 := by
  refine Cn_of (by decide +kernel) rfl (Nat.le_of_ble_eq_true rfl) ?_
  show X mJ7_copyOf_9075b 2 (KR K) T0 1 256 0 [(0, .ref a0), (1, .int a1)] [] h
  unfold wJ7_copyOf_9075b at w
  refine X_iload_n (j := 1) (show decode cJ7_copyOf_9075b 0 = .ok (.iload_n 1, 1) by decide +kernel) rfl rfl ?_
  refine X_aload_n (j := 0) (show decode cJ7_copyOf_9075b 1 = .ok (.aload_n 0, 1) by decide +kernel) rfl rfl ?_
  obtain ⟨s1, w⟩ := w
  refine X_alen (v := nI (ln _ _)) (show decode cJ7_copyOf_9075b 2 = .ok (.arraylength, 1) by decide +kernel) (by decide) (isA_eq s1) rfl ?_
  refine X_icmp_ne (tgt := 14) (show decode cJ7_copyOf_9075b 3 = .ok (.if_icmp .ne 11, 3) by decide +kernel) (by decide) ⟨fun c2 => ?_, fun c2 => ?_⟩
  · have w := w.1 c2
    refine X_iload_n (j := 1) (show decode cJ7_copyOf_9075b 14 = .ok (.iload_n 1, 1) by decide +kernel) rfl rfl ?_
    obtain ⟨s3, w⟩ := w
    obtain ⟨s4, w⟩ := w
    refine X_newa (N := a1.toNatClampNeg) (rc' := 0) (rs' := 0) na_3 (by decide) (show decode cJ7_copyOf_9075b 15 = .ok (.newarray .byte, 2) by decide +kernel) s3 rfl (by have := s4; simp only [ty_, componentBytes]; omega) (Nat.le_of_ble_eq_true rfl) (by omega) ?_
    have w := w _ rfl
    refine X_astore_n (ls' := [(0, .ref _), (1, .int _), (2, .ref _)]) (show decode cJ7_copyOf_9075b 17 = .ok (.astore_n 2, 1) by decide +kernel) rfl (by decide) rfl ?_
    refine X_aload_n (j := 0) (show decode cJ7_copyOf_9075b 18 = .ok (.aload_n 0, 1) by decide +kernel) rfl rfl ?_
    refine X_iconst (v := (nI 0)) (show decode cJ7_copyOf_9075b 19 = .ok (.iconst 0, 1) by decide +kernel) (by decide) ?_
    refine X_aload_n (j := 2) (show decode cJ7_copyOf_9075b 20 = .ok (.aload_n 2, 1) by decide +kernel) rfl rfl ?_
    refine X_iconst (v := (nI 0)) (show decode cJ7_copyOf_9075b 21 = .ok (.iconst 0, 1) by decide +kernel) (by decide) ?_
    refine X_aload_n (j := 0) (show decode cJ7_copyOf_9075b 22 = .ok (.aload_n 0, 1) by decide +kernel) rfl rfl ?_
    obtain ⟨s6, w⟩ := w
    refine X_alen (v := nI (ln _ _)) (show decode cJ7_copyOf_9075b 23 = .ok (.arraylength, 1) by decide +kernel) (by decide) (isA_eq s6) rfl ?_
    refine X_iload_n (j := 1) (show decode cJ7_copyOf_9075b 24 = .ok (.iload_n 1, 1) by decide +kernel) rfl rfl ?_
    refine X_mmin (show decode cJ7_copyOf_9075b 25 = .ok (.invokestatic 304, 3) by decide +kernel) gl_J7_304 gst_min gin_Math gco_min (by decide) (Nat.le_of_ble_eq_true rfl) ?_
    obtain ⟨s7, w⟩ := w
    obtain ⟨s8, w⟩ := w
    obtain ⟨s9, w⟩ := w
    obtain ⟨s10, w⟩ := w
    obtain ⟨s11, w⟩ := w
    obtain ⟨s12, w⟩ := w
    obtain ⟨s13, w⟩ := w
    refine X_copy (t := 3) (show decode cJ7_copyOf_9075b 28 = .ok (.invokestatic 150, 3) by decide +kernel) gl_J7_150 gna_copy gst_copy gin_Sys (by decide) (Nat.le_of_ble_eq_true rfl) (by decide) (isA_eq s6) (isA_eq s7) s8 s9 (by decide) (by decide) s10 s11 s12 s13 ?_
    have w := w _ rfl
    refine X_aload_n (j := 2) (show decode cJ7_copyOf_9075b 31 = .ok (.aload_n 2, 1) by decide +kernel) rfl rfl ?_
    exact X_aret ⟨(show decode cJ7_copyOf_9075b 32 = .ok (.areturn, 1) by decide +kernel), Or.inr ⟨_, rfl⟩⟩ ⟨_, rfl, w⟩
  · have w := w.2 c2
    exact w.elim
set_option maxRecDepth 100000 in
set_option maxHeartbeats 4000000 in
theorem kJ5_ensureCapacityInternal_d00df {a0 : Nat} {a1 : Int32} {h : AH} {K : AH → Prop} (w : wJ5_ensureCapacityInternal_d00df a0 a1 h K) : Cn mJ5_ensureCapacityInternal_d00df (cwd mJ5_ensureCapacityInternal_d00df) 4 1 256 [.ref a0, .int a1] h (KV K) T0 := by
  refine Cn_of (by decide +kernel) rfl (Nat.le_of_ble_eq_true rfl) ?_
  show X mJ5_ensureCapacityInternal_d00df 4 (KV K) T0 1 256 0 [(0, .ref a0), (1, .int a1)] [] h
  unfold wJ5_ensureCapacityInternal_d00df at w
  refine X_aload_n (j := 0) (show decode cJ5_ensureCapacityInternal_d00df 0 = .ok (.aload_n 0, 1) by decide +kernel) rfl rfl ?_
  obtain ⟨s1, w⟩ := w
  refine X_getR fl_J5_15 (show decode cJ5_ensureCapacityInternal_d00df 1 = .ok (.getfield 15, 3) by decide +kernel) s1 ?_
  obtain ⟨s2, w⟩ := w
  refine X_alen (v := nI (ln _ _)) (show decode cJ5_ensureCapacityInternal_d00df 4 = .ok (.arraylength, 1) by decide +kernel) (by decide) (isA_eq s2) rfl ?_
  refine X_aload_n (j := 0) (show decode cJ5_ensureCapacityInternal_d00df 5 = .ok (.aload_n 0, 1) by decide +kernel) rfl rfl ?_
  refine X_getI fl_J5_22 (show decode cJ5_ensureCapacityInternal_d00df 6 = .ok (.getfield 22, 3) by decide +kernel) s1 ?_
  refine X_ishr (show decode cJ5_ensureCapacityInternal_d00df 9 = .ok (.ishr, 1) by decide +kernel) ?_
  refine X_topi (fun v3 e4 => ?_)
  have w := w v3 e4
  refine X_istore_n (ls' := [(0, .ref _), (1, .int _), (2, .int _)]) (show decode cJ5_ensureCapacityInternal_d00df 10 = .ok (.istore_n 2, 1) by decide +kernel) rfl (by decide) rfl ?_
  refine X_iload_n (j := 1) (show decode cJ5_ensureCapacityInternal_d00df 11 = .ok (.iload_n 1, 1) by decide +kernel) rfl rfl ?_
  refine X_iload_n (j := 2) (show decode cJ5_ensureCapacityInternal_d00df 12 = .ok (.iload_n 2, 1) by decide +kernel) rfl rfl ?_
  refine X_isub (show decode cJ5_ensureCapacityInternal_d00df 13 = .ok (.isub, 1) by decide +kernel) ?_
  refine X_if_le (tgt := 38) (show decode cJ5_ensureCapacityInternal_d00df 14 = .ok (.ifCond .le 24, 3) by decide +kernel) (by decide) ⟨fun c5 => ?_, fun c5 => ?_⟩
  · have w := w.1 c5
    exact X_vret ⟨(show decode cJ5_ensureCapacityInternal_d00df 38 = .ok (.return_, 1) by decide +kernel), rfl⟩ ⟨rfl, w⟩
  · have w := w.2 c5
    refine X_aload_n (j := 0) (show decode cJ5_ensureCapacityInternal_d00df 17 = .ok (.aload_n 0, 1) by decide +kernel) rfl rfl ?_
    refine X_aload_n (j := 0) (show decode cJ5_ensureCapacityInternal_d00df 18 = .ok (.aload_n 0, 1) by decide +kernel) rfl rfl ?_
    refine X_getR fl_J5_15 (show decode cJ5_ensureCapacityInternal_d00df 19 = .ok (.getfield 15, 3) by decide +kernel) s1 ?_
    refine X_aload_n (j := 0) (show decode cJ5_ensureCapacityInternal_d00df 22 = .ok (.aload_n 0, 1) by decide +kernel) rfl rfl ?_
    refine X_iload_n (j := 1) (show decode cJ5_ensureCapacityInternal_d00df 23 = .ok (.iload_n 1, 1) by decide +kernel) rfl rfl ?_
    refine X_vI (rc' := 1) (rs' := 256) (as := [.int _]) mv_J5_104_J4 (show decode cJ5_ensureCapacityInternal_d00df 24 = .ok (.invokevirtual 104, 3) by decide +kernel) (by decide) (Nat.le_of_ble_eq_true rfl) (Nat.le_of_ble_eq_true rfl) rfl rfl (Nat.le_of_ble_eq_true rfl) (rcvD s1 (by decide) rfl) (kJ5_newCapacity_0f7a4 w) (fun E h hk => hk.elim) (fun r7 h6 w => ?_)
    refine X_aload_n (j := 0) (show decode cJ5_ensureCapacityInternal_d00df 27 = .ok (.aload_n 0, 1) by decide +kernel) rfl rfl ?_
    obtain ⟨s8, w⟩ := w
    refine X_getI fl_J5_22 (show decode cJ5_ensureCapacityInternal_d00df 28 = .ok (.getfield 22, 3) by decide +kernel) s8 ?_
    refine X_ishl (show decode cJ5_ensureCapacityInternal_d00df 31 = .ok (.ishl, 1) by decide +kernel) ?_
    refine X_sR (rc' := 0) (rs' := 0) (as := [.ref _, .int _]) ms_J5_108 (show decode cJ5_ensureCapacityInternal_d00df 32 = .ok (.invokestatic 108, 3) by decide +kernel) (by decide) (Nat.le_of_ble_eq_true rfl) (Nat.le_of_ble_eq_true rfl) rfl rfl (Nat.le_of_ble_eq_true rfl) (kJ7_copyOf_9075b w) (fun E h hk => hk.elim) (fun r10 h9 w => ?_)
    obtain ⟨s11, w⟩ := w
    refine X_putR fp_J5_15 (show decode cJ5_ensureCapacityInternal_d00df 35 = .ok (.putfield 15, 3) by decide +kernel) (fun z => nomatch z) (by first | exact Or.inl ⟨_, rfl⟩ | exact Or.inr ⟨_, rfl⟩) s11 ?_
    have w := w _ rfl
    exact X_vret ⟨(show decode cJ5_ensureCapacityInternal_d00df 38 = .ok (.return_, 1) by decide +kernel), rfl⟩ ⟨rfl, w⟩
set_option maxRecDepth 100000 in
set_option maxHeartbeats 4000000 in
theorem kJ5_isLatin1_aae02 {a0 : Nat} {h : AH} {K : Int32 → AH → Prop} (w : wJ5_isLatin1_aae02 a0 h K) : Cn mJ5_isLatin1_aae02 (cwd mJ5_isLatin1_aae02) 1 0 0 [.ref a0] h (KI K) T0 := by
  refine Cn_of (by decide +kernel) rfl (Nat.le_of_ble_eq_true rfl) ?_
  show X mJ5_isLatin1_aae02 1 (KI K) T0 0 0 0 [(0, .ref a0)] [] h
  unfold wJ5_isLatin1_aae02 at w
  refine X_getstI (j := 3) rfl gz_J5_18 (show decode cJ5_isLatin1_aae02 0 = .ok (.getstatic 18, 3) by decide +kernel) ?_
  refine X_if_eq (tgt := 17) (show decode cJ5_isLatin1_aae02 3 = .ok (.ifCond .eq 14, 3) by decide +kernel) (by decide) ⟨fun c1 => ?_, fun c1 => ?_⟩
  · have w := w.1 c1
    refine X_iconst (v := (nI 0)) (show decode cJ5_isLatin1_aae02 17 = .ok (.iconst 0, 1) by decide +kernel) (by decide) ?_
    exact X_iret ⟨(show decode cJ5_isLatin1_aae02 18 = .ok (.ireturn, 1) by decide +kernel), .boolean, rfl, (by decide)⟩ ⟨_, rfl, w⟩
  · have w := w.2 c1
    refine X_aload_n (j := 0) (show decode cJ5_isLatin1_aae02 6 = .ok (.aload_n 0, 1) by decide +kernel) rfl rfl ?_
    obtain ⟨s2, w⟩ := w
    refine X_getI fl_J5_22 (show decode cJ5_isLatin1_aae02 7 = .ok (.getfield 22, 3) by decide +kernel) s2 ?_
    refine X_if_ne (tgt := 17) (show decode cJ5_isLatin1_aae02 10 = .ok (.ifCond .ne 7, 3) by decide +kernel) (by decide) ⟨fun c3 => ?_, fun c3 => ?_⟩
    · have w := w.1 c3
      refine X_iconst (v := (nI 0)) (show decode cJ5_isLatin1_aae02 17 = .ok (.iconst 0, 1) by decide +kernel) (by decide) ?_
      exact X_iret ⟨(show decode cJ5_isLatin1_aae02 18 = .ok (.ireturn, 1) by decide +kernel), .boolean, rfl, (by decide)⟩ ⟨_, rfl, w⟩
    · have w := w.2 c3
      refine X_iconst (v := (nI 1)) (show decode cJ5_isLatin1_aae02 13 = .ok (.iconst 1, 1) by decide +kernel) (by decide) ?_
      refine X_goto (tgt := 18) (show decode cJ5_isLatin1_aae02 14 = .ok (.goto 4, 3) by decide +kernel) (by decide) ?_
      exact X_iret ⟨(show decode cJ5_isLatin1_aae02 18 = .ok (.ireturn, 1) by decide +kernel), .boolean, rfl, (by decide)⟩ ⟨_, rfl, w⟩
set_option maxRecDepth 100000 in
set_option maxHeartbeats 4000000 in
theorem kJ5_setLength_d00df_J76 {K : AH → Prop}   (x0 : Nat) (x1 : Int32) (h : AH) (w : wJ5_setLength_d00df_J76 K  x0 x1 h) : X mJ5_setLength_d00df 8 (KV K) T0 0 0 76 [(0, .ref x0), (1, .int x1)] [] h := by
  unfold wJ5_setLength_d00df_J76 at w
  refine X_aload_n (j := 0) (show decode cJ5_setLength_d00df 76 = .ok (.aload_n 0, 1) by decide +kernel) rfl rfl ?_
  refine X_iload_n (j := 1) (show decode cJ5_setLength_d00df 77 = .ok (.iload_n 1, 1) by decide +kernel) rfl rfl ?_
  obtain ⟨s7, w⟩ := w
  refine X_putI fp_J5_79 (show decode cJ5_setLength_d00df 78 = .ok (.putfield 79, 3) by decide +kernel) (fun z => nomatch z) s7 rfl rfl ?_
  have w := w _ rfl
  exact X_vret ⟨(show decode cJ5_setLength_d00df 81 = .ok (.return_, 1) by decide +kernel), rfl⟩ ⟨rfl, w⟩
set_option maxRecDepth 100000 in
set_option maxHeartbeats 4000000 in
theorem kJ5_setLength_d00df {a0 : Nat} {a1 : Int32} {h : AH} {K : AH → Prop} (w : wJ5_setLength_d00df a0 a1 h K) : Cn mJ5_setLength_d00df (cwd mJ5_setLength_d00df) 8 1 256 [.ref a0, .int a1] h (KV K) T0 := by
  refine Cn_of (by decide +kernel) rfl (Nat.le_of_ble_eq_true rfl) ?_
  show X mJ5_setLength_d00df 8 (KV K) T0 1 256 0 [(0, .ref a0), (1, .int a1)] [] h
  unfold wJ5_setLength_d00df at w
  refine X_iload_n (j := 1) (show decode cJ5_setLength_d00df 0 = .ok (.iload_n 1, 1) by decide +kernel) rfl rfl ?_
  refine X_if_ge (tgt := 13) (show decode cJ5_setLength_d00df 1 = .ok (.ifCond .ge 12, 3) by decide +kernel) (by decide) ⟨fun c1 => ?_, fun c1 => ?_⟩
  · have w := w.1 c1
    refine X_aload_n (j := 0) (show decode cJ5_setLength_d00df 13 = .ok (.aload_n 0, 1) by decide +kernel) rfl rfl ?_
    refine X_iload_n (j := 1) (show decode cJ5_setLength_d00df 14 = .ok (.iload_n 1, 1) by decide +kernel) rfl rfl ?_
    obtain ⟨s15, w⟩ := w
    refine X_vV (rc' := 0) (rs' := 0) (as := [.int _]) mv_J5_100_J4 (show decode cJ5_setLength_d00df 15 = .ok (.invokevirtual 100, 3) by decide +kernel) (by decide) (Nat.le_of_ble_eq_true rfl) (Nat.le_of_ble_eq_true rfl) rfl rfl (Nat.le_of_ble_eq_true rfl) (rcvD s15 (by decide) rfl) (kJ5_ensureCapacityInternal_d00df w) (fun E h hk => hk.elim) (fun h2 w => ?_)
    refine X_aload_n (j := 0) (show decode cJ5_setLength_d00df 18 = .ok (.aload_n 0, 1) by decide +kernel) rfl rfl ?_
    obtain ⟨s4, w⟩ := w
    refine X_getI fl_J5_79 (show decode cJ5_setLength_d00df 19 = .ok (.getfield 79, 3) by decide +kernel) s4 ?_
    refine X_iload_n (j := 1) (show decode cJ5_setLength_d00df 22 = .ok (.iload_n 1, 1) by decide +kernel) rfl rfl ?_
    refine X_icmp_ge (tgt := 63) (show decode cJ5_setLength_d00df 23 = .ok (.if_icmp .ge 40, 3) by decide +kernel) (by decide) ⟨fun c5 => ?_, fun c5 => ?_⟩
    · have w := w.1 c5
      refine X_aload_n (j := 0) (show decode cJ5_setLength_d00df 63 = .ok (.aload_n 0, 1) by decide +kernel) rfl rfl ?_
      refine X_getI fl_J5_79 (show decode cJ5_setLength_d00df 64 = .ok (.getfield 79, 3) by decide +kernel) s4 ?_
      refine X_iload_n (j := 1) (show decode cJ5_setLength_d00df 67 = .ok (.iload_n 1, 1) by decide +kernel) rfl rfl ?_
      refine X_icmp_le (tgt := 76) (show decode cJ5_setLength_d00df 68 = .ok (.if_icmp .le 8, 3) by decide +kernel) (by decide) ⟨fun c6 => ?_, fun c6 => ?_⟩
      · have w := w.1 c6
        exact kJ5_setLength_d00df_J76  _ _ _ w
      · have w := w.2 c6
        refine X_aload_n (j := 0) (show decode cJ5_setLength_d00df 71 = .ok (.aload_n 0, 1) by decide +kernel) rfl rfl ?_
        refine X_iconst (v := (nI 1)) (show decode cJ5_setLength_d00df 72 = .ok (.iconst 1, 1) by decide +kernel) (by decide) ?_
        refine X_putI fp_J5_73 (show decode cJ5_setLength_d00df 73 = .ok (.putfield 73, 3) by decide +kernel) (fun z => nomatch z) s4 (by decide) (by decide) ?_
        have w := w _ rfl
        exact kJ5_setLength_d00df_J76  _ _ _ w
    · have w := w.2 c5
      refine X_aload_n (j := 0) (show decode cJ5_setLength_d00df 26 = .ok (.aload_n 0, 1) by decide +kernel) rfl rfl ?_
      refine X_vI (rc' := 0) (rs' := 0) (as := []) mv_J5_83_J4 (show decode cJ5_setLength_d00df 27 = .ok (.invokevirtual 83, 3) by decide +kernel) (by decide) (Nat.le_of_ble_eq_true rfl) (Nat.le_of_ble_eq_true rfl) rfl rfl (Nat.le_of_ble_eq_true rfl) (rcvD s4 (by decide) rfl) (kJ5_isLatin1_aae02 w) (fun E h hk => hk.elim) (fun r11 h10 w => ?_)
      refine X_if_eq (tgt := 48) (show decode cJ5_setLength_d00df 30 = .ok (.ifCond .eq 18, 3) by decide +kernel) (by decide) ⟨fun c12 => ?_, fun c12 => ?_⟩
      · have w := w.1 c12
        exact w.elim
      · have w := w.2 c12
        exact w.elim
  · have w := w.2 c1
    exact w.elim
set_option maxRecDepth 100000 in
set_option maxHeartbeats 4000000 in
theorem kJ4_setLength_d00df {a0 : Nat} {a1 : Int32} {h : AH} {K : AH → Prop} (w : wJ4_setLength_d00df a0 a1 h K) : Cn mJ4_setLength_d00df (cwd mJ4_setLength_d00df) 9 1 256 [.ref a0, .int a1] h (KV K) T0 := by
  refine Cn_of (by decide +kernel) rfl (Nat.le_of_ble_eq_true rfl) ?_
  show X mJ4_setLength_d00df 9 (KV K) T0 1 256 0 [(0, .ref a0), (1, .int a1)] [] h
  unfold wJ4_setLength_d00df at w
  refine X_aload_n (j := 0) (show decode cJ4_setLength_d00df 0 = .ok (.aload_n 0, 1) by decide +kernel) rfl rfl ?_
  refine X_iload_n (j := 1) (show decode cJ4_setLength_d00df 1 = .ok (.iload_n 1, 1) by decide +kernel) rfl rfl ?_
  obtain ⟨s3, w⟩ := w
  refine X_callP (rc' := 0) (rs' := 0) (as := [.int _]) mp_J4_333 (show decode cJ4_setLength_d00df 2 = .ok (.invokespecial 333, 3) by decide +kernel) (by decide) (Nat.le_of_ble_eq_true rfl) (Nat.le_of_ble_eq_true rfl) rfl rfl (Nat.le_of_ble_eq_true rfl) s3 (kJ5_setLength_d00df w) (fun v9 h1 w => ?_)
  obtain ⟨rfl, w⟩ := w
  exact X_vret ⟨(show decode cJ4_setLength_d00df 5 = .ok (.return_, 1) by decide +kernel), rfl⟩ ⟨rfl, w⟩
set_option maxRecDepth 100000 in
set_option maxHeartbeats 4000000 in
theorem kJ6_stringSize_0f7a4_L16 {K : Int32 → AH → Prop}    : ∀ (n : Nat) (x0 : Int32) (x1 : Int32) (x2 : Int32) (x3 : Int32) (h : AH), wJ6_stringSize_0f7a4_L16 K   n x0 x1 x2 x3 h → X mJ6_stringSize_0f7a4 1 (KI K) T0 0 0 16 [(0, .int x0), (1, .int x1), (2, .int x2), (3, .int x3)] [] h := by
  intro n
  induction n with
  | zero => intro _ _ _ _ _ w; exact w.elim
  | succ n ih =>
    intro x0 x1 x2 x3 h w
    rw [wJ6_stringSize_0f7a4_L16] at w
    refine X_iload_n (j := 3) (show decode cJ6_stringSize_0f7a4 16 = .ok (.iload_n 3, 1) by decide +kernel) rfl rfl ?_
    refine X_bipush (v := (nI 10)) (show decode cJ6_stringSize_0f7a4 17 = .ok (.bipush 10, 2) by decide +kernel) (by decide) ?_
    refine X_icmp_ge (tgt := 42) (show decode cJ6_stringSize_0f7a4 19 = .ok (.if_icmp .ge 23, 3) by decide +kernel) (by decide) ⟨fun c2 => ?_, fun c2 => ?_⟩
    · have w := w.1 c2
      refine X_bipush (v := (nI 10)) (show decode cJ6_stringSize_0f7a4 42 = .ok (.bipush 10, 2) by decide +kernel) (by decide) ?_
      refine X_iload_n (j := 1) (show decode cJ6_stringSize_0f7a4 44 = .ok (.iload_n 1, 1) by decide +kernel) rfl rfl ?_
      refine X_iadd (show decode cJ6_stringSize_0f7a4 45 = .ok (.iadd, 1) by decide +kernel) ?_
      exact X_iret ⟨(show decode cJ6_stringSize_0f7a4 46 = .ok (.ireturn, 1) by decide +kernel), .int, rfl, rfl⟩ ⟨_, rfl, w⟩
    · have w := w.2 c2
      refine X_iload_n (j := 0) (show decode cJ6_stringSize_0f7a4 22 = .ok (.iload_n 0, 1) by decide +kernel) rfl rfl ?_
      refine X_iload_n (j := 2) (show decode cJ6_stringSize_0f7a4 23 = .ok (.iload_n 2, 1) by decide +kernel) rfl rfl ?_
      refine X_icmp_le (tgt := 31) (show decode cJ6_stringSize_0f7a4 24 = .ok (.if_icmp .le 7, 3) by decide +kernel) (by decide) ⟨fun c3 => ?_, fun c3 => ?_⟩
      · have w := w.1 c3
        refine X_bipush (v := (nI 10)) (show decode cJ6_stringSize_0f7a4 31 = .ok (.bipush 10, 2) by decide +kernel) (by decide) ?_
        refine X_iload_n (j := 2) (show decode cJ6_stringSize_0f7a4 33 = .ok (.iload_n 2, 1) by decide +kernel) rfl rfl ?_
        refine X_imul (show decode cJ6_stringSize_0f7a4 34 = .ok (.imul, 1) by decide +kernel) ?_
        refine X_istore_n (ls' := [(0, .int _), (1, .int _), (2, .int _), (3, .int _)]) (show decode cJ6_stringSize_0f7a4 35 = .ok (.istore_n 2, 1) by decide +kernel) rfl (by decide) rfl ?_
        refine X_iinc (j := 3) (v := _ + (nI 1)) (ls' := [(0, .int _), (1, .int _), (2, .int _), (3, .int _)]) (show decode cJ6_stringSize_0f7a4 36 = .ok (.iinc 3 1, 3) by decide +kernel) rfl rfl (Nat.le_of_ble_eq_true rfl) rfl ?_
        refine X_goto (tgt := 16) (show decode cJ6_stringSize_0f7a4 39 = .ok (.goto (-23), 3) by decide +kernel) (by decide) ?_
        exact ih _ _ _ _ _ w
      · have w := w.2 c3
        refine X_iload_n (j := 3) (show decode cJ6_stringSize_0f7a4 27 = .ok (.iload_n 3, 1) by decide +kernel) rfl rfl ?_
        refine X_iload_n (j := 1) (show decode cJ6_stringSize_0f7a4 28 = .ok (.iload_n 1, 1) by decide +kernel) rfl rfl ?_
        refine X_iadd (show decode cJ6_stringSize_0f7a4 29 = .ok (.iadd, 1) by decide +kernel) ?_
        exact X_iret ⟨(show decode cJ6_stringSize_0f7a4 30 = .ok (.ireturn, 1) by decide +kernel), .int, rfl, rfl⟩ ⟨_, rfl, w⟩
set_option maxRecDepth 100000 in
set_option maxHeartbeats 4000000 in
theorem kJ6_stringSize_0f7a4 {a0 : Int32} {h : AH} {K : Int32 → AH → Prop} (w : wJ6_stringSize_0f7a4 a0 h K) : Cn mJ6_stringSize_0f7a4 (cwd mJ6_stringSize_0f7a4) 1 0 0 [.int a0] h (KI K) T0 := by
  refine Cn_of (by decide +kernel) rfl (Nat.le_of_ble_eq_true rfl) ?_
  show X mJ6_stringSize_0f7a4 1 (KI K) T0 0 0 0 [(0, .int a0)] [] h
  unfold wJ6_stringSize_0f7a4 at w
  refine X_iconst (v := (nI 1)) (show decode cJ6_stringSize_0f7a4 0 = .ok (.iconst 1, 1) by decide +kernel) (by decide) ?_
  refine X_istore_n (ls' := [(0, .int _), (1, .int _)]) (show decode cJ6_stringSize_0f7a4 1 = .ok (.istore_n 1, 1) by decide +kernel) rfl (by decide) rfl ?_
  refine X_iload_n (j := 0) (show decode cJ6_stringSize_0f7a4 2 = .ok (.iload_n 0, 1) by decide +kernel) rfl rfl ?_
  refine X_if_lt (tgt := 11) (show decode cJ6_stringSize_0f7a4 3 = .ok (.ifCond .lt 8, 3) by decide +kernel) (by decide) ⟨fun c1 => ?_, fun c1 => ?_⟩
  · have w := w.1 c1
    refine X_bipush (v := (-10)) (show decode cJ6_stringSize_0f7a4 11 = .ok (.bipush (-10), 2) by decide +kernel) (by decide) ?_
    refine X_istore_n (ls' := [(0, .int _), (1, .int _), (2, .int _)]) (show decode cJ6_stringSize_0f7a4 13 = .ok (.istore_n 2, 1) by decide +kernel) rfl (by decide) rfl ?_
    refine X_iconst (v := (nI 1)) (show decode cJ6_stringSize_0f7a4 14 = .ok (.iconst 1, 1) by decide +kernel) (by decide) ?_
    refine X_istore_n (ls' := [(0, .int _), (1, .int _), (2, .int _), (3, .int _)]) (show decode cJ6_stringSize_0f7a4 15 = .ok (.istore_n 3, 1) by decide +kernel) rfl (by decide) rfl ?_
    obtain ⟨n4, w⟩ := w
    exact kJ6_stringSize_0f7a4_L16  n4 _ _ _ _ _ w
  · have w := w.2 c1
    refine X_iconst (v := (nI 0)) (show decode cJ6_stringSize_0f7a4 6 = .ok (.iconst 0, 1) by decide +kernel) (by decide) ?_
    refine X_istore_n (ls' := [(0, .int _), (1, .int _)]) (show decode cJ6_stringSize_0f7a4 7 = .ok (.istore_n 1, 1) by decide +kernel) rfl (by decide) rfl ?_
    refine X_iload_n (j := 0) (show decode cJ6_stringSize_0f7a4 8 = .ok (.iload_n 0, 1) by decide +kernel) rfl rfl ?_
    refine X_ineg (show decode cJ6_stringSize_0f7a4 9 = .ok (.ineg, 1) by decide +kernel) ?_
    refine X_istore_n (ls' := [(0, .int _), (1, .int _)]) (show decode cJ6_stringSize_0f7a4 10 = .ok (.istore_n 0, 1) by decide +kernel) rfl (by decide) rfl ?_
    refine X_bipush (v := (-10)) (show decode cJ6_stringSize_0f7a4 11 = .ok (.bipush (-10), 2) by decide +kernel) (by decide) ?_
    refine X_istore_n (ls' := [(0, .int _), (1, .int _), (2, .int _)]) (show decode cJ6_stringSize_0f7a4 13 = .ok (.istore_n 2, 1) by decide +kernel) rfl (by decide) rfl ?_
    refine X_iconst (v := (nI 1)) (show decode cJ6_stringSize_0f7a4 14 = .ok (.iconst 1, 1) by decide +kernel) (by decide) ?_
    refine X_istore_n (ls' := [(0, .int _), (1, .int _), (2, .int _), (3, .int _)]) (show decode cJ6_stringSize_0f7a4 15 = .ok (.istore_n 3, 1) by decide +kernel) rfl (by decide) rfl ?_
    obtain ⟨n5, w⟩ := w
    exact kJ6_stringSize_0f7a4_L16  n5 _ _ _ _ _ w
set_option maxRecDepth 100000 in
set_option maxHeartbeats 4000000 in
theorem kJ6_getChars_ba4f3_L22 {K : Int32 → AH → Prop} {c72 : Int32 → Nat → Int32 → Int32 → AH → Prop} (hc72 : ∀ x0 x2 x5 x6 h, c72 x0 x2 x5 x6 h → X mJ6_getChars_ba4f3 1 (KI K) T0 0 0 72 [(0, .int x0), (2, .ref x2), (5, .int x5), (6, .int x6)] [] h)  : ∀ (n : Nat) (x0 : Int32) (x2 : Nat) (x5 : Int32) (x6 : Int32) (h : AH), wJ6_getChars_ba4f3_L22 K c72  n x0 x2 x5 x6 h → X mJ6_getChars_ba4f3 1 (KI K) T0 0 0 22 [(0, .int x0), (2, .ref x2), (5, .int x5), (6, .int x6)] [] h := by
  intro n
  induction n with
  | zero => intro _ _ _ _ _ w; exact w.elim
  | succ n ih =>
    intro x0 x2 x5 x6 h w
    rw [wJ6_getChars_ba4f3_L22] at w
    refine X_iload_n (j := 0) (show decode cJ6_getChars_ba4f3 22 = .ok (.iload_n 0, 1) by decide +kernel) rfl rfl ?_
    refine X_bipush (v := (-100)) (show decode cJ6_getChars_ba4f3 23 = .ok (.bipush (-100), 2) by decide +kernel) (by decide) ?_
    refine X_icmp_gt (tgt := 72) (show decode cJ6_getChars_ba4f3 25 = .ok (.if_icmp .gt 47, 3) by decide +kernel) (by decide) ⟨fun c3 => ?_, fun c3 => ?_⟩
    · have w := w.1 c3
      exact hc72 _ _ _ _ _ w
    · have w := w.2 c3
      refine X_iload_n (j := 0) (show decode cJ6_getChars_ba4f3 28 = .ok (.iload_n 0, 1) by decide +kernel) rfl rfl ?_
      refine X_bipush (v := (nI 100)) (show decode cJ6_getChars_ba4f3 29 = .ok (.bipush 100, 2) by decide +kernel) (by decide) ?_
      refine X_idiv (show decode cJ6_getChars_ba4f3 31 = .ok (.idiv, 1) by decide +kernel) (by decide) ?_
      refine X_istore_n (ls' := [(0, .int _), (2, .ref _), (3, .int _), (5, .int _), (6, .int _)]) (show decode cJ6_getChars_ba4f3 32 = .ok (.istore_n 3, 1) by decide +kernel) rfl (by decide) rfl ?_
      refine X_iload_n (j := 2) (show decode cJ6_getChars_ba4f3 33 = .ok (.iload_n 3, 1) by decide +kernel) rfl rfl ?_
      refine X_bipush (v := (nI 100)) (show decode cJ6_getChars_ba4f3 34 = .ok (.bipush 100, 2) by decide +kernel) (by decide) ?_
      refine X_imul (show decode cJ6_getChars_ba4f3 36 = .ok (.imul, 1) by decide +kernel) ?_
      refine X_iload_n (j := 0) (show decode cJ6_getChars_ba4f3 37 = .ok (.iload_n 0, 1) by decide +kernel) rfl rfl ?_
      refine X_isub (show decode cJ6_getChars_ba4f3 38 = .ok (.isub, 1) by decide +kernel) ?_
      refine X_istore (ls' := [(0, .int _), (2, .ref _), (3, .int _), (4, .int _), (5, .int _), (6, .int _)]) (show decode cJ6_getChars_ba4f3 39 = .ok (.istore 4, 2) by decide +kernel) (by decide) rfl ?_
      refine X_iload_n (j := 2) (show decode cJ6_getChars_ba4f3 41 = .ok (.iload_n 3, 1) by decide +kernel) rfl rfl ?_
      refine X_istore_n (ls' := [(0, .int _), (2, .ref _), (3, .int _), (4, .int _), (5, .int _), (6, .int _)]) (show decode cJ6_getChars_ba4f3 42 = .ok (.istore_n 0, 1) by decide +kernel) rfl (by decide) rfl ?_
      refine X_aload_n (j := 1) (show decode cJ6_getChars_ba4f3 43 = .ok (.aload_n 2, 1) by decide +kernel) rfl rfl ?_
      refine X_iinc (j := 4) (v := _ + (-1)) (ls' := [(0, .int _), (2, .ref _), (3, .int _), (4, .int _), (5, .int _), (6, .int _)]) (show decode cJ6_getChars_ba4f3 44 = .ok (.iinc 5 (-1), 3) by decide +kernel) rfl rfl (Nat.le_of_ble_eq_true rfl) rfl ?_
      refine X_iload (j := 4) (show decode cJ6_getChars_ba4f3 47 = .ok (.iload 5, 2) by decide +kernel) rfl ?_
      refine X_getstR (j := 5) rfl (by decide) gz_J6_83 (show decode cJ6_getChars_ba4f3 49 = .ok (.getstatic 83, 3) by decide +kernel) ?_
      refine X_iload (j := 3) (show decode cJ6_getChars_ba4f3 52 = .ok (.iload 4, 2) by decide +kernel) rfl ?_
      obtain ⟨s4, w⟩ := w
      obtain ⟨s5, w⟩ := w
      refine X_bald (show decode cJ6_getChars_ba4f3 54 = .ok (.baload, 1) by decide +kernel) (isA_eq s4) s5 ?_
      obtain ⟨s6, w⟩ := w
      obtain ⟨s7, w⟩ := w
      obtain ⟨s8, w⟩ := w
      refine X_bast (show decode cJ6_getChars_ba4f3 55 = .ok (.bastore, 1) by decide +kernel) (isA_eq s6) s7 s8 ?_
      have w := w _ rfl
      refine X_aload_n (j := 1) (show decode cJ6_getChars_ba4f3 56 = .ok (.aload_n 2, 1) by decide +kernel) rfl rfl ?_
      refine X_iinc (j := 4) (v := _ + (-1)) (ls' := [(0, .int _), (2, .ref _), (3, .int _), (4, .int _), (5, .int _), (6, .int _)]) (show decode cJ6_getChars_ba4f3 57 = .ok (.iinc 5 (-1), 3) by decide +kernel) rfl rfl (Nat.le_of_ble_eq_true rfl) rfl ?_
      refine X_iload (j := 4) (show decode cJ6_getChars_ba4f3 60 = .ok (.iload 5, 2) by decide +kernel) rfl ?_
      refine X_getstR (j := 4) rfl (by decide) gz_J6_87 (show decode cJ6_getChars_ba4f3 62 = .ok (.getstatic 87, 3) by decide +kernel) ?_
      refine X_iload (j := 3) (show decode cJ6_getChars_ba4f3 65 = .ok (.iload 4, 2) by decide +kernel) rfl ?_
      obtain ⟨s10, w⟩ := w
      obtain ⟨s11, w⟩ := w
      refine X_bald (show decode cJ6_getChars_ba4f3 67 = .ok (.baload, 1) by decide +kernel) (isA_eq s10) s11 ?_
      obtain ⟨s12, w⟩ := w
      refine X_bast (show decode cJ6_getChars_ba4f3 68 = .ok (.bastore, 1) by decide +kernel) (isA_eq s6) s7 s12 ?_
      have w := w _ rfl
      refine X_goto (tgt := 22) (show decode cJ6_getChars_ba4f3 69 = .ok (.goto (-47), 3) by decide +kernel) (by decide) ?_
      refine X_pick (ls' := [(0, .int _), (2, .ref _), (5, .int _), (6, .int _)]) [0, 1, 4, 5] rfl ?_
      exact ih _ _ _ _ _ w
set_option maxRecDepth 100000 in
set_option maxHeartbeats 4000000 in
theorem kJ6_getChars_ba4f3_J104 {K : Int32 → AH → Prop}   (x2 : Nat) (x5 : Int32) (x6 : Int32) (h : AH) (w : wJ6_getChars_ba4f3_J104 K  x2 x5 x6 h) : X mJ6_getChars_ba4f3 1 (KI K) T0 0 0 104 [(2, .ref x2), (5, .int x5), (6, .int x6)] [] h := by
  unfold wJ6_getChars_ba4f3_J104 at w
  refine X_iload (j := 2) (show decode cJ6_getChars_ba4f3 104 = .ok (.iload 6, 2) by decide +kernel) rfl ?_
  refine X_if_eq (tgt := 118) (show decode cJ6_getChars_ba4f3 106 = .ok (.ifCond .eq 12, 3) by decide +kernel) (by decide) ⟨fun c26 => ?_, fun c26 => ?_⟩
  · have w := w.1 c26
    refine X_iload (j := 1) (show decode cJ6_getChars_ba4f3 118 = .ok (.iload 5, 2) by decide +kernel) rfl ?_
    exact X_iret ⟨(show decode cJ6_getChars_ba4f3 120 = .ok (.ireturn, 1) by decide +kernel), .int, rfl, rfl⟩ ⟨_, rfl, w⟩
  · have w := w.2 c26
    refine X_aload_n (j := 0) (show decode cJ6_getChars_ba4f3 109 = .ok (.aload_n 2, 1) by decide +kernel) rfl rfl ?_
    refine X_iinc (j := 1) (v := _ + (-1)) (ls' := [(2, .ref _), (5, .int _), (6, .int _)]) (show decode cJ6_getChars_ba4f3 110 = .ok (.iinc 5 (-1), 3) by decide +kernel) rfl rfl (Nat.le_of_ble_eq_true rfl) rfl ?_
    refine X_iload (j := 1) (show decode cJ6_getChars_ba4f3 113 = .ok (.iload 5, 2) by decide +kernel) rfl ?_
    refine X_bipush (v := (nI 45)) (show decode cJ6_getChars_ba4f3 115 = .ok (.bipush 45, 2) by decide +kernel) (by decide) ?_
    obtain ⟨s27, w⟩ := w
    obtain ⟨s28, w⟩ := w
    obtain ⟨s29, w⟩ := w
    refine X_bast (show decode cJ6_getChars_ba4f3 117 = .ok (.bastore, 1) by decide +kernel) (isA_eq s27) s28 s29 ?_
    have w := w _ rfl
    refine X_iload (j := 1) (show decode cJ6_getChars_ba4f3 118 = .ok (.iload 5, 2) by decide +kernel) rfl ?_
    exact X_iret ⟨(show decode cJ6_getChars_ba4f3 120 = .ok (.ireturn, 1) by decide +kernel), .int, rfl, rfl⟩ ⟨_, rfl, w⟩
set_option maxRecDepth 100000 in
set_option maxHeartbeats 4000000 in
theorem kJ6_getChars_ba4f3_J12 {K : Int32 → AH → Prop}   (x0 : Int32) (x2 : Nat) (x5 : Int32) (y0 : Int32) (h : AH) (w : wJ6_getChars_ba4f3_J12 K  x0 x2 x5 y0 h) : X mJ6_getChars_ba4f3 1 (KI K) T0 0 0 12 [(0, .int x0), (2, .ref x2), (5, .int x5)] [.int y0] h := by
  unfold wJ6_getChars_ba4f3_J12 at w
  refine X_istore (ls' := [(0, .int _), (2, .ref _), (5, .int _), (6, .int _)]) (show decode cJ6_getChars_ba4f3 12 = .ok (.istore 6, 2) by decide +kernel) (by decide) rfl ?_
  refine X_iload (j := 3) (show decode cJ6_getChars_ba4f3 14 = .ok (.iload 6, 2) by decide +kernel) rfl ?_
  refine X_if_ne (tgt := 22) (show decode cJ6_getChars_ba4f3 16 = .ok (.ifCond .ne 6, 3) by decide +kernel) (by decide) ⟨fun c2 => ?_, fun c2 => ?_⟩
  · have w := w.1 c2
    obtain ⟨n35, w⟩ := w
    refine kJ6_getChars_ba4f3_L22 ?_ n35 _ _ _ _ _ w
    · intro x0_14 x2_15 x5_16 x6_17 h18 w
      refine X_aload_n (j := 1) (show decode cJ6_getChars_ba4f3 72 = .ok (.aload_n 2, 1) by decide +kernel) rfl rfl ?_
      refine X_iinc (j := 2) (v := _ + (-1)) (ls' := [(0, .int _), (2, .ref _), (5, .int _), (6, .int _)]) (show decode cJ6_getChars_ba4f3 73 = .ok (.iinc 5 (-1), 3) by decide +kernel) rfl rfl (Nat.le_of_ble_eq_true rfl) rfl ?_
      refine X_iload (j := 2) (show decode cJ6_getChars_ba4f3 76 = .ok (.iload 5, 2) by decide +kernel) rfl ?_
      refine X_getstR (j := 5) rfl (by decide) gz_J6_83 (show decode cJ6_getChars_ba4f3 78 = .ok (.getstatic 83, 3) by decide +kernel) ?_
      refine X_iload_n (j := 0) (show decode cJ6_getChars_ba4f3 81 = .ok (.iload_n 0, 1) by decide +kernel) rfl rfl ?_
      refine X_ineg (show decode cJ6_getChars_ba4f3 82 = .ok (.ineg, 1) by decide +kernel) ?_
      obtain ⟨s19, w⟩ := w
      obtain ⟨s20, w⟩ := w
      refine X_bald (show decode cJ6_getChars_ba4f3 83 = .ok (.baload, 1) by decide +kernel) (isA_eq s19) s20 ?_
      obtain ⟨s21, w⟩ := w
      obtain ⟨s22, w⟩ := w
      obtain ⟨s23, w⟩ := w
      refine X_bast (show decode cJ6_getChars_ba4f3 84 = .ok (.bastore, 1) by decide +kernel) (isA_eq s21) s22 s23 ?_
      have w := w _ rfl
      refine X_iload_n (j := 0) (show decode cJ6_getChars_ba4f3 85 = .ok (.iload_n 0, 1) by decide +kernel) rfl rfl ?_
      refine X_bipush (v := (-9)) (show decode cJ6_getChars_ba4f3 86 = .ok (.bipush (-9), 2) by decide +kernel) (by decide) ?_
      refine X_icmp_ge (tgt := 104) (show decode cJ6_getChars_ba4f3 88 = .ok (.if_icmp .ge 16, 3) by decide +kernel) (by decide) ⟨fun c25 => ?_, fun c25 => ?_⟩
      · have w := w.1 c25
        refine X_pick (ls' := [(2, .ref _), (5, .int _), (6, .int _)]) [1, 2, 3] rfl ?_
        exact kJ6_getChars_ba4f3_J104  _ _ _ _ w
      · have w := w.2 c25
        refine X_aload_n (j := 1) (show decode cJ6_getChars_ba4f3 91 = .ok (.aload_n 2, 1) by decide +kernel) rfl rfl ?_
        refine X_iinc (j := 2) (v := _ + (-1)) (ls' := [(0, .int _), (2, .ref _), (5, .int _), (6, .int _)]) (show decode cJ6_getChars_ba4f3 92 = .ok (.iinc 5 (-1), 3) by decide +kernel) rfl rfl (Nat.le_of_ble_eq_true rfl) rfl ?_
        refine X_iload (j := 2) (show decode cJ6_getChars_ba4f3 95 = .ok (.iload 5, 2) by decide +kernel) rfl ?_
        refine X_getstR (j := 4) rfl (by decide) gz_J6_87 (show decode cJ6_getChars_ba4f3 97 = .ok (.getstatic 87, 3) by decide +kernel) ?_
        refine X_iload_n (j := 0) (show decode cJ6_getChars_ba4f3 100 = .ok (.iload_n 0, 1) by decide +kernel) rfl rfl ?_
        refine X_ineg (show decode cJ6_getChars_ba4f3 101 = .ok (.ineg, 1) by decide +kernel) ?_
        obtain ⟨s31, w⟩ := w
        obtain ⟨s32, w⟩ := w
        refine X_bald (show decode cJ6_getChars_ba4f3 102 = .ok (.baload, 1) by decide +kernel) (isA_eq s31) s32 ?_
        obtain ⟨s33, w⟩ := w
        refine X_bast (show decode cJ6_getChars_ba4f3 103 = .ok (.bastore, 1) by decide +kernel) (isA_eq s21) s22 s33 ?_
        have w := w _ rfl
        refine X_pick (ls' := [(2, .ref _), (5, .int _), (6, .int _)]) [1, 2, 3] rfl ?_
        exact kJ6_getChars_ba4f3_J104  _ _ _ _ w
  · have w := w.2 c2
    refine X_iload_n (j := 0) (show decode cJ6_getChars_ba4f3 19 = .ok (.iload_n 0, 1) by decide +kernel) rfl rfl ?_
    refine X_ineg (show decode cJ6_getChars_ba4f3 20 = .ok (.ineg, 1) by decide +kernel) ?_
    refine X_istore_n (ls' := [(0, .int _), (2, .ref _), (5, .int _), (6, .int _)]) (show decode cJ6_getChars_ba4f3 21 = .ok (.istore_n 0, 1) by decide +kernel) rfl (by decide) rfl ?_
    obtain ⟨n52, w⟩ := w
    refine kJ6_getChars_ba4f3_L22 ?_ n52 _ _ _ _ _ w
    · intro x0_36 x2_37 x5_38 x6_39 h40 w
      refine X_aload_n (j := 1) (show decode cJ6_getChars_ba4f3 72 = .ok (.aload_n 2, 1) by decide +kernel) rfl rfl ?_
      refine X_iinc (j := 2) (v := _ + (-1)) (ls' := [(0, .int _), (2, .ref _), (5, .int _), (6, .int _)]) (show decode cJ6_getChars_ba4f3 73 = .ok (.iinc 5 (-1), 3) by decide +kernel) rfl rfl (Nat.le_of_ble_eq_true rfl) rfl ?_
      refine X_iload (j := 2) (show decode cJ6_getChars_ba4f3 76 = .ok (.iload 5, 2) by decide +kernel) rfl ?_
      refine X_getstR (j := 5) rfl (by decide) gz_J6_83 (show decode cJ6_getChars_ba4f3 78 = .ok (.getstatic 83, 3) by decide +kernel) ?_
      refine X_iload_n (j := 0) (show decode cJ6_getChars_ba4f3 81 = .ok (.iload_n 0, 1) by decide +kernel) rfl rfl ?_
      refine X_ineg (show decode cJ6_getChars_ba4f3 82 = .ok (.ineg, 1) by decide +kernel) ?_
      obtain ⟨s41, w⟩ := w
      obtain ⟨s42, w⟩ := w
      refine X_bald (show decode cJ6_getChars_ba4f3 83 = .ok (.baload, 1) by decide +kernel) (isA_eq s41) s42 ?_
      obtain ⟨s43, w⟩ := w
      obtain ⟨s44, w⟩ := w
      obtain ⟨s45, w⟩ := w
      refine X_bast (show decode cJ6_getChars_ba4f3 84 = .ok (.bastore, 1) by decide +kernel) (isA_eq s43) s44 s45 ?_
      have w := w _ rfl
      refine X_iload_n (j := 0) (show decode cJ6_getChars_ba4f3 85 = .ok (.iload_n 0, 1) by decide +kernel) rfl rfl ?_
      refine X_bipush (v := (-9)) (show decode cJ6_getChars_ba4f3 86 = .ok (.bipush (-9), 2) by decide +kernel) (by decide) ?_
      refine X_icmp_ge (tgt := 104) (show decode cJ6_getChars_ba4f3 88 = .ok (.if_icmp .ge 16, 3) by decide +kernel) (by decide) ⟨fun c47 => ?_, fun c47 => ?_⟩
      · have w := w.1 c47
        refine X_pick (ls' := [(2, .ref _), (5, .int _), (6, .int _)]) [1, 2, 3] rfl ?_
        exact kJ6_getChars_ba4f3_J104  _ _ _ _ w
      · have w := w.2 c47
        refine X_aload_n (j := 1) (show decode cJ6_getChars_ba4f3 91 = .ok (.aload_n 2, 1) by decide +kernel) rfl rfl ?_
        refine X_iinc (j := 2) (v := _ + (-1)) (ls' := [(0, .int _), (2, .ref _), (5, .int _), (6, .int _)]) (show decode cJ6_getChars_ba4f3 92 = .ok (.iinc 5 (-1), 3) by decide +kernel) rfl rfl (Nat.le_of_ble_eq_true rfl) rfl ?_
        refine X_iload (j := 2) (show decode cJ6_getChars_ba4f3 95 = .ok (.iload 5, 2) by decide +kernel) rfl ?_
        refine X_getstR (j := 4) rfl (by decide) gz_J6_87 (show decode cJ6_getChars_ba4f3 97 = .ok (.getstatic 87, 3) by decide +kernel) ?_
        refine X_iload_n (j := 0) (show decode cJ6_getChars_ba4f3 100 = .ok (.iload_n 0, 1) by decide +kernel) rfl rfl ?_
        refine X_ineg (show decode cJ6_getChars_ba4f3 101 = .ok (.ineg, 1) by decide +kernel) ?_
        obtain ⟨s48, w⟩ := w
        obtain ⟨s49, w⟩ := w
        refine X_bald (show decode cJ6_getChars_ba4f3 102 = .ok (.baload, 1) by decide +kernel) (isA_eq s48) s49 ?_
        obtain ⟨s50, w⟩ := w
        refine X_bast (show decode cJ6_getChars_ba4f3 103 = .ok (.bastore, 1) by decide +kernel) (isA_eq s43) s44 s50 ?_
        have w := w _ rfl
        refine X_pick (ls' := [(2, .ref _), (5, .int _), (6, .int _)]) [1, 2, 3] rfl ?_
        exact kJ6_getChars_ba4f3_J104  _ _ _ _ w
set_option maxRecDepth 100000 in
set_option maxHeartbeats 4000000 in
theorem kJ6_getChars_ba4f3 {a0 : Int32} {a1 : Int32} {a2 : Nat} {h : AH} {K : Int32 → AH → Prop} (w : wJ6_getChars_ba4f3 a0 a1 a2 h K) : Cn mJ6_getChars_ba4f3 (cwd mJ6_getChars_ba4f3) 1 0 0 [.int a0, .int a1, .ref a2] h (KI K) T0 := by
  refine Cn_of (by decide +kernel) rfl (Nat.le_of_ble_eq_true rfl) ?_
  show X mJ6_getChars_ba4f3 1 (KI K) T0 0 0 0 [(0, .int a0), (1, .int a1), (2, .ref a2)] [] h
  unfold wJ6_getChars_ba4f3 at w
  refine X_iload_n (j := 1) (show decode cJ6_getChars_ba4f3 0 = .ok (.iload_n 1, 1) by decide +kernel) rfl rfl ?_
  refine X_istore (ls' := [(0, .int _), (1, .int _), (2, .ref _), (5, .int _)]) (show decode cJ6_getChars_ba4f3 1 = .ok (.istore 5, 2) by decide +kernel) (by decide) rfl ?_
  refine X_iload_n (j := 0) (show decode cJ6_getChars_ba4f3 3 = .ok (.iload_n 0, 1) by decide +kernel) rfl rfl ?_
  refine X_if_ge (tgt := 11) (show decode cJ6_getChars_ba4f3 4 = .ok (.ifCond .ge 7, 3) by decide +kernel) (by decide) ⟨fun c1 => ?_, fun c1 => ?_⟩
  · have w := w.1 c1
    refine X_iconst (v := (nI 0)) (show decode cJ6_getChars_ba4f3 11 = .ok (.iconst 0, 1) by decide +kernel) (by decide) ?_
    refine X_pick (ls' := [(0, .int _), (2, .ref _), (5, .int _)]) [0, 2, 3] rfl ?_
    exact kJ6_getChars_ba4f3_J12  _ _ _ _ _ w
  · have w := w.2 c1
    refine X_iconst (v := (nI 1)) (show decode cJ6_getChars_ba4f3 7 = .ok (.iconst 1, 1) by decide +kernel) (by decide) ?_
    refine X_goto (tgt := 12) (show decode cJ6_getChars_ba4f3 8 = .ok (.goto 4, 3) by decide +kernel) (by decide) ?_
    refine X_pick (ls' := [(0, .int _), (2, .ref _), (5, .int _)]) [0, 2, 3] rfl ?_
    exact kJ6_getChars_ba4f3_J12  _ _ _ _ _ w
set_option maxRecDepth 100000 in
set_option maxHeartbeats 4000000 in
theorem kJ5_append_c97b9_J48 {K : Nat → AH → Prop}   (x0 : Nat) (x3 : Int32) (h : AH) (w : wJ5_append_c97b9_J48 K  x0 x3 h) : X mJ5_append_c97b9 5 (KR K) T0 0 0 48 [(0, .ref x0), (3, .int x3)] [] h := by
  unfold wJ5_append_c97b9_J48 at w
  refine X_aload_n (j := 0) (show decode cJ5_append_c97b9 48 = .ok (.aload_n 0, 1) by decide +kernel) rfl rfl ?_
  refine X_iload_n (j := 1) (show decode cJ5_append_c97b9 49 = .ok (.iload_n 3, 1) by decide +kernel) rfl rfl ?_
  obtain ⟨s13, w⟩ := w
  refine X_putI fp_J5_79 (show decode cJ5_append_c97b9 50 = .ok (.putfield 79, 3) by decide +kernel) (fun z => nomatch z) s13 rfl rfl ?_
  have w := w _ rfl
  refine X_aload_n (j := 0) (show decode cJ5_append_c97b9 53 = .ok (.aload_n 0, 1) by decide +kernel) rfl rfl ?_
  exact X_aret ⟨(show decode cJ5_append_c97b9 54 = .ok (.areturn, 1) by decide +kernel), Or.inl ⟨_, rfl⟩⟩ ⟨_, rfl, w⟩
set_option maxRecDepth 100000 in
set_option maxHeartbeats 4000000 in
theorem kJ5_append_c97b9 {a0 : Nat} {a1 : Int32} {h : AH} {K : Nat → AH → Prop} (w : wJ5_append_c97b9 a0 a1 h K) : Cn mJ5_append_c97b9 (cwd mJ5_append_c97b9) 5 1 256 [.ref a0, .int a1] h (KR K) T0 := by
  refine Cn_of (by decide +kernel) rfl (Nat.le_of_ble_eq_true rfl) ?_
  show X mJ5_append_c97b9 5 (KR K) T0 1 256 0 [(0, .ref a0), (1, .int a1)] [] h
  unfold wJ5_append_c97b9 at w
  refine X_aload_n (j := 0) (show decode cJ5_append_c97b9 0 = .ok (.aload_n 0, 1) by decide +kernel) rfl rfl ?_
  obtain ⟨s1, w⟩ := w
  refine X_getI fl_J5_79 (show decode cJ5_append_c97b9 1 = .ok (.getfield 79, 3) by decide +kernel) s1 ?_
  refine X_istore_n (ls' := [(0, .ref _), (1, .int _), (2, .int _)]) (show decode cJ5_append_c97b9 4 = .ok (.istore_n 2, 1) by decide +kernel) rfl (by decide) rfl ?_
  refine X_iload_n (j := 2) (show decode cJ5_append_c97b9 5 = .ok (.iload_n 2, 1) by decide +kernel) rfl rfl ?_
  refine X_iload_n (j := 1) (show decode cJ5_append_c97b9 6 = .ok (.iload_n 1, 1) by decide +kernel) rfl rfl ?_
  refine X_sI (rc' := 1) (rs' := 256) (as := [.int _]) ms_J5_245 (show decode cJ5_append_c97b9 7 = .ok (.invokestatic 245, 3) by decide +kernel) (by decide) (Nat.le_of_ble_eq_true rfl) (Nat.le_of_ble_eq_true rfl) rfl rfl (Nat.le_of_ble_eq_true rfl) (kJ6_stringSize_0f7a4 w) (fun E h hk => hk.elim) (fun r3 h2 w => ?_)
  refine X_iadd (show decode cJ5_append_c97b9 10 = .ok (.iadd, 1) by decide +kernel) ?_
  refine X_istore_n (ls' := [(0, .ref _), (1, .int _), (2, .int _), (3, .int _)]) (show decode cJ5_append_c97b9 11 = .ok (.istore_n 3, 1) by decide +kernel) rfl (by decide) rfl ?_
  refine X_aload_n (j := 0) (show decode cJ5_append_c97b9 12 = .ok (.aload_n 0, 1) by decide +kernel) rfl rfl ?_
  refine X_iload_n (j := 3) (show decode cJ5_append_c97b9 13 = .ok (.iload_n 3, 1) by decide +kernel) rfl rfl ?_
  obtain ⟨s16, w⟩ := w
  refine X_vV (rc' := 0) (rs' := 0) (as := [.int _]) mv_J5_100_J4 (show decode cJ5_append_c97b9 14 = .ok (.invokevirtual 100, 3) by decide +kernel) (by decide) (Nat.le_of_ble_eq_true rfl) (Nat.le_of_ble_eq_true rfl) rfl rfl (Nat.le_of_ble_eq_true rfl) (rcvD s16 (by decide) rfl) (kJ5_ensureCapacityInternal_d00df w) (fun E h hk => hk.elim) (fun h4 w => ?_)
  refine X_aload_n (j := 0) (show decode cJ5_append_c97b9 17 = .ok (.aload_n 0, 1) by decide +kernel) rfl rfl ?_
  obtain ⟨s15, w⟩ := w
  refine X_vI (rc' := 0) (rs' := 0) (as := []) mv_J5_83_J4 (show decode cJ5_append_c97b9 18 = .ok (.invokevirtual 83, 3) by decide +kernel) (by decide) (Nat.le_of_ble_eq_true rfl) (Nat.le_of_ble_eq_true rfl) rfl rfl (Nat.le_of_ble_eq_true rfl) (rcvD s15 (by decide) rfl) (kJ5_isLatin1_aae02 w) (fun E h hk => hk.elim) (fun r7 h6 w => ?_)
  refine X_if_eq (tgt := 37) (show decode cJ5_append_c97b9 21 = .ok (.ifCond .eq 16, 3) by decide +kernel) (by decide) ⟨fun c8 => ?_, fun c8 => ?_⟩
  · have w := w.1 c8
    exact w.elim
  · have w := w.2 c8
    refine X_iload_n (j := 1) (show decode cJ5_append_c97b9 24 = .ok (.iload_n 1, 1) by decide +kernel) rfl rfl ?_
    refine X_iload_n (j := 3) (show decode cJ5_append_c97b9 25 = .ok (.iload_n 3, 1) by decide +kernel) rfl rfl ?_
    refine X_aload_n (j := 0) (show decode cJ5_append_c97b9 26 = .ok (.aload_n 0, 1) by decide +kernel) rfl rfl ?_
    obtain ⟨s10, w⟩ := w
    refine X_getR fl_J5_15 (show decode cJ5_append_c97b9 27 = .ok (.getfield 15, 3) by decide +kernel) s10 ?_
    refine X_sI (rc' := 0) (rs' := 0) (as := [.int _, .int _, .ref _]) ms_J5_248 (show decode cJ5_append_c97b9 30 = .ok (.invokestatic 248, 3) by decide +kernel) (by decide) (Nat.le_of_ble_eq_true rfl) (Nat.le_of_ble_eq_true rfl) rfl rfl (Nat.le_of_ble_eq_true rfl) (kJ6_getChars_ba4f3 w) (fun E h hk => hk.elim) (fun r12 h11 w => ?_)
    refine X_pop (show decode cJ5_append_c97b9 33 = .ok (.pop, 1) by decide +kernel) rfl ?_
    refine X_goto (tgt := 48) (show decode cJ5_append_c97b9 34 = .ok (.goto 14, 3) by decide +kernel) (by decide) ?_
    refine X_pick (ls' := [(0, .ref _), (3, .int _)]) [0, 3] rfl ?_
    exact kJ5_append_c97b9_J48  _ _ _ w
set_option maxRecDepth 100000 in
set_option maxHeartbeats 4000000 in
theorem kJ4_append_bf812 {a0 : Nat} {a1 : Int32} {h : AH} {K : Nat → AH → Prop} (w : wJ4_append_bf812 a0 a1 h K) : Cn mJ4_append_bf812 (cwd mJ4_append_bf812) 6 1 256 [.ref a0, .int a1] h (KR K) T0 := by
  refine Cn_of (by decide +kernel) rfl (Nat.le_of_ble_eq_true rfl) ?_
  show X mJ4_append_bf812 6 (KR K) T0 1 256 0 [(0, .ref a0), (1, .int a1)] [] h
  unfold wJ4_append_bf812 at w
  refine X_aload_n (j := 0) (show decode cJ4_append_bf812 0 = .ok (.aload_n 0, 1) by decide +kernel) rfl rfl ?_
  refine X_iload_n (j := 1) (show decode cJ4_append_bf812 1 = .ok (.iload_n 1, 1) by decide +kernel) rfl rfl ?_
  obtain ⟨s3, w⟩ := w
  refine X_callP (rc' := 0) (rs' := 0) (as := [.int _]) mp_J4_53 (show decode cJ4_append_bf812 2 = .ok (.invokespecial 53, 3) by decide +kernel) (by decide) (Nat.le_of_ble_eq_true rfl) (Nat.le_of_ble_eq_true rfl) rfl rfl (Nat.le_of_ble_eq_true rfl) s3 (kJ5_append_c97b9 w) (fun v9 h1 w => ?_)
  obtain ⟨r2, rfl, w⟩ := w
  refine X_pop (show decode cJ4_append_bf812 5 = .ok (.pop, 1) by decide +kernel) rfl ?_
  refine X_aload_n (j := 0) (show decode cJ4_append_bf812 6 = .ok (.aload_n 0, 1) by decide +kernel) rfl rfl ?_
  exact X_aret ⟨(show decode cJ4_append_bf812 7 = .ok (.areturn, 1) by decide +kernel), Or.inl ⟨_, rfl⟩⟩ ⟨_, rfl, w⟩
set_option maxRecDepth 100000 in
set_option maxHeartbeats 4000000 in
theorem kJ1_canEncode_fc78d {a0 : Int32} {h : AH} {K : Int32 → AH → Prop} (w : wJ1_canEncode_fc78d a0 h K) : Cn mJ1_canEncode_fc78d (cwd mJ1_canEncode_fc78d) 1 0 0 [.int a0] h (KI K) T0 := by
  refine Cn_of (by decide +kernel) rfl (Nat.le_of_ble_eq_true rfl) ?_
  show X mJ1_canEncode_fc78d 1 (KI K) T0 0 0 0 [(0, .int a0)] [] h
  unfold wJ1_canEncode_fc78d at w
  refine X_iload_n (j := 0) (show decode cJ1_canEncode_fc78d 0 = .ok (.iload_n 0, 1) by decide +kernel) rfl rfl ?_
  refine X_sipush (v := (nI 255)) (show decode cJ1_canEncode_fc78d 1 = .ok (.sipush 255, 3) by decide +kernel) (by decide) ?_
  refine X_icmp_gt (tgt := 11) (show decode cJ1_canEncode_fc78d 4 = .ok (.if_icmp .gt 7, 3) by decide +kernel) (by decide) ⟨fun c1 => ?_, fun c1 => ?_⟩
  · have w := w.1 c1
    refine X_iconst (v := (nI 0)) (show decode cJ1_canEncode_fc78d 11 = .ok (.iconst 0, 1) by decide +kernel) (by decide) ?_
    exact X_iret ⟨(show decode cJ1_canEncode_fc78d 12 = .ok (.ireturn, 1) by decide +kernel), .boolean, rfl, (by decide)⟩ ⟨_, rfl, w⟩
  · have w := w.2 c1
    refine X_iconst (v := (nI 1)) (show decode cJ1_canEncode_fc78d 7 = .ok (.iconst 1, 1) by decide +kernel) (by decide) ?_
    refine X_goto (tgt := 12) (show decode cJ1_canEncode_fc78d 8 = .ok (.goto 4, 3) by decide +kernel) (by decide) ?_
    exact X_iret ⟨(show decode cJ1_canEncode_fc78d 12 = .ok (.ireturn, 1) by decide +kernel), .boolean, rfl, (by decide)⟩ ⟨_, rfl, w⟩
set_option maxRecDepth 100000 in
set_option maxHeartbeats 4000000 in
theorem kJ5_append_3fe6f_J56 {K : Nat → AH → Prop}   (x0 : Nat) (x1 : Int32) (h : AH) (w : wJ5_append_3fe6f_J56 K  x0 x1 h) : X mJ5_append_3fe6f 5 (KR K) T0 0 0 56 [(0, .ref x0), (1, .int x1)] [] h := by
  unfold wJ5_append_3fe6f_J56 at w
  exact w.elim
set_option maxRecDepth 100000 in
set_option maxHeartbeats 4000000 in
theorem kJ5_append_3fe6f_J45 {K : Nat → AH → Prop}   (x0 : Nat) (x1 : Int32) (h : AH) (w : wJ5_append_3fe6f_J45 K  x0 x1 h) : X mJ5_append_3fe6f 5 (KR K) T0 0 0 45 [(0, .ref x0), (1, .int x1)] [] h := by
  unfold wJ5_append_3fe6f_J45 at w
  refine X_aload_n (j := 0) (show decode cJ5_append_3fe6f 45 = .ok (.aload_n 0, 1) by decide +kernel) rfl rfl ?_
  obtain ⟨s12, w⟩ := w
  refine X_vI (rc' := 0) (rs' := 0) (as := []) mv_J5_83_J4 (show decode cJ5_append_3fe6f 46 = .ok (.invokevirtual 83, 3) by decide +kernel) (by decide) (Nat.le_of_ble_eq_true rfl) (Nat.le_of_ble_eq_true rfl) rfl rfl (Nat.le_of_ble_eq_true rfl) (rcvD s12 (by decide) rfl) (kJ5_isLatin1_aae02 w) (fun E h hk => hk.elim) (fun r8 h7 w => ?_)
  refine X_if_eq (tgt := 56) (show decode cJ5_append_3fe6f 49 = .ok (.ifCond .eq 7, 3) by decide +kernel) (by decide) ⟨fun c9 => ?_, fun c9 => ?_⟩
  · have w := w.1 c9
    exact kJ5_append_3fe6f_J56  _ _ _ w
  · have w := w.2 c9
    exact w.elim
set_option maxRecDepth 100000 in
set_option maxHeartbeats 4000000 in
theorem kJ5_append_3fe6f {a0 : Nat} {a1 : Int32} {h : AH} {K : Nat → AH → Prop} (w : wJ5_append_3fe6f a0 a1 h K) : Cn mJ5_append_3fe6f (cwd mJ5_append_3fe6f) 5 1 256 [.ref a0, .int a1] h (KR K) T0 := by
  refine Cn_of (by decide +kernel) rfl (Nat.le_of_ble_eq_true rfl) ?_
  show X mJ5_append_3fe6f 5 (KR K) T0 1 256 0 [(0, .ref a0), (1, .int a1)] [] h
  unfold wJ5_append_3fe6f at w
  refine X_aload_n (j := 0) (show decode cJ5_append_3fe6f 0 = .ok (.aload_n 0, 1) by decide +kernel) rfl rfl ?_
  refine X_aload_n (j := 0) (show decode cJ5_append_3fe6f 1 = .ok (.aload_n 0, 1) by decide +kernel) rfl rfl ?_
  obtain ⟨s1, w⟩ := w
  refine X_getI fl_J5_79 (show decode cJ5_append_3fe6f 2 = .ok (.getfield 79, 3) by decide +kernel) s1 ?_
  refine X_iconst (v := (nI 1)) (show decode cJ5_append_3fe6f 5 = .ok (.iconst 1, 1) by decide +kernel) (by decide) ?_
  refine X_iadd (show decode cJ5_append_3fe6f 6 = .ok (.iadd, 1) by decide +kernel) ?_
  refine X_vV (rc' := 0) (rs' := 0) (as := [.int _]) mv_J5_100_J4 (show decode cJ5_append_3fe6f 7 = .ok (.invokevirtual 100, 3) by decide +kernel) (by decide) (Nat.le_of_ble_eq_true rfl) (Nat.le_of_ble_eq_true rfl) rfl rfl (Nat.le_of_ble_eq_true rfl) (rcvD s1 (by decide) rfl) (kJ5_ensureCapacityInternal_d00df w) (fun E h hk => hk.elim) (fun h2 w => ?_)
  refine X_aload_n (j := 0) (show decode cJ5_append_3fe6f 10 = .ok (.aload_n 0, 1) by decide +kernel) rfl rfl ?_
  obtain ⟨s22, w⟩ := w
  refine X_vI (rc' := 0) (rs' := 0) (as := []) mv_J5_83_J4 (show decode cJ5_append_3fe6f 11 = .ok (.invokevirtual 83, 3) by decide +kernel) (by decide) (Nat.le_of_ble_eq_true rfl) (Nat.le_of_ble_eq_true rfl) rfl rfl (Nat.le_of_ble_eq_true rfl) (rcvD s22 (by decide) rfl) (kJ5_isLatin1_aae02 w) (fun E h hk => hk.elim) (fun r5 h4 w => ?_)
  refine X_if_eq (tgt := 45) (show decode cJ5_append_3fe6f 14 = .ok (.ifCond .eq 31, 3) by decide +kernel) (by decide) ⟨fun c6 => ?_, fun c6 => ?_⟩
  · have w := w.1 c6
    exact kJ5_append_3fe6f_J45  _ _ _ w
  · have w := w.2 c6
    refine X_iload_n (j := 1) (show decode cJ5_append_3fe6f 17 = .ok (.iload_n 1, 1) by decide +kernel) rfl rfl ?_
    refine X_sI (rc' := 0) (rs' := 0) (as := [.int _]) ms_J5_191 (show decode cJ5_append_3fe6f 18 = .ok (.invokestatic 191, 3) by decide +kernel) (by decide) (Nat.le_of_ble_eq_true rfl) (Nat.le_of_ble_eq_true rfl) rfl rfl (Nat.le_of_ble_eq_true rfl) (kJ1_canEncode_fc78d w) (fun E h hk => hk.elim) (fun r14 h13 w => ?_)
    refine X_if_eq (tgt := 45) (show decode cJ5_append_3fe6f 21 = .ok (.ifCond .eq 24, 3) by decide +kernel) (by decide) ⟨fun c15 => ?_, fun c15 => ?_⟩
    · have w := w.1 c15
      exact kJ5_append_3fe6f_J45  _ _ _ w
    · have w := w.2 c15
      refine X_aload_n (j := 0) (show decode cJ5_append_3fe6f 24 = .ok (.aload_n 0, 1) by decide +kernel) rfl rfl ?_
      obtain ⟨s16, w⟩ := w
      refine X_getR fl_J5_15 (show decode cJ5_append_3fe6f 25 = .ok (.getfield 15, 3) by decide +kernel) s16 ?_
      refine X_aload_n (j := 0) (show decode cJ5_append_3fe6f 28 = .ok (.aload_n 0, 1) by decide +kernel) rfl rfl ?_
      refine X_dup (show decode cJ5_append_3fe6f 29 = .ok (.dup, 1) by decide +kernel) rfl ?_
      refine X_getI fl_J5_79 (show decode cJ5_append_3fe6f 30 = .ok (.getfield 79, 3) by decide +kernel) s16 ?_
      refine X_dup_x1 (show decode cJ5_append_3fe6f 33 = .ok (.dup_x1, 1) by decide +kernel) rfl rfl ?_
      refine X_iconst (v := (nI 1)) (show decode cJ5_append_3fe6f 34 = .ok (.iconst 1, 1) by decide +kernel) (by decide) ?_
      refine X_iadd (show decode cJ5_append_3fe6f 35 = .ok (.iadd, 1) by decide +kernel) ?_
      refine X_putI fp_J5_79 (show decode cJ5_append_3fe6f 36 = .ok (.putfield 79, 3) by decide +kernel) (fun z => nomatch z) s16 rfl rfl ?_
      have w := w _ rfl
      refine X_iload_n (j := 1) (show decode cJ5_append_3fe6f 39 = .ok (.iload_n 1, 1) by decide +kernel) rfl rfl ?_
      refine X_i2b (show decode cJ5_append_3fe6f 40 = .ok (.i2b, 1) by decide +kernel) ?_
      obtain ⟨s18, w⟩ := w
      obtain ⟨s19, w⟩ := w
      obtain ⟨s20, w⟩ := w
      refine X_bast (show decode cJ5_append_3fe6f 41 = .ok (.bastore, 1) by decide +kernel) (isA_eq s18) s19 s20 ?_
      have w := w _ rfl
      refine X_goto (tgt := 75) (show decode cJ5_append_3fe6f 42 = .ok (.goto 33, 3) by decide +kernel) (by decide) ?_
      refine X_aload_n (j := 0) (show decode cJ5_append_3fe6f 75 = .ok (.aload_n 0, 1) by decide +kernel) rfl rfl ?_
      exact X_aret ⟨(show decode cJ5_append_3fe6f 76 = .ok (.areturn, 1) by decide +kernel), Or.inl ⟨_, rfl⟩⟩ ⟨_, rfl, w⟩
