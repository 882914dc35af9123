set_option maxRecDepth 100000 in
set_option maxHeartbeats 4000000 in
theorem kX9_blocks {a0 : Nat} {h : AH} {K : Int32 → AH → Prop} (w : wX9_blocks a0 h K) : Cn mX9_blocks (cwd mX9_blocks) 1 0 0 [.ref a0] h (KI K) T0 := by
  refine Cn_of (by decide +kernel) rfl (Nat.le_of_ble_eq_true rfl) ?_
  show X mX9_blocks 1 (KI K) T0 0 0 0 [(0, .ref a0)] [] h
  unfold wX9_blocks at w
  refine X_aload_n (j := 0) (show decode cX9_blocks 0 = .ok (.aload_n 0, 1) by decide +kernel) rfl rfl ?_
  obtain ⟨s1, w⟩ := w
  refine X_getR fl_X9_12 (show decode cX9_blocks 1 = .ok (.getfield 12, 3) by decide +kernel) s1 ?_
  obtain ⟨s2, w⟩ := w
  refine X_getR fl_X9_72 (show decode cX9_blocks 4 = .ok (.getfield 72, 3) by decide +kernel) s2 ?_
  obtain ⟨s3, w⟩ := w
  refine X_getI fl_X9_114 (show decode cX9_blocks 7 = .ok (.getfield 114, 3) by decide +kernel) s3 ?_
  exact X_iret ⟨(show decode cX9_blocks 10 = .ok (.ireturn, 1) by decide +kernel), .int, rfl, rfl⟩ ⟨_, rfl, w⟩
set_option maxRecDepth 100000 in
set_option maxHeartbeats 4000000 in
theorem kX9_checkBlock {a0 : Nat} {a1 : Int32} {h : AH} {K : AH → Prop} {T : String → AH → Prop} (w : wX9_checkBlock a0 a1 h K T) : Cn mX9_checkBlock (cwd mX9_checkBlock) 8 1 6 [.ref a0, .int a1] h (KV K) T := by
  refine Cn_of (by decide +kernel) rfl (Nat.le_of_ble_eq_true rfl) ?_
  show X mX9_checkBlock 8 (KV K) T 1 6 0 [(0, .ref a0), (1, .int a1)] [] h
  unfold wX9_checkBlock at w
  refine X_aload_n (j := 0) (show decode cX9_checkBlock 0 = .ok (.aload_n 0, 1) by decide +kernel) rfl rfl ?_
  obtain ⟨s1, w⟩ := w
  refine X_getR fl_X9_12 (show decode cX9_checkBlock 1 = .ok (.getfield 12, 3) by decide +kernel) s1 ?_
  obtain ⟨s2, w⟩ := w
  refine X_getR fl_X9_72 (show decode cX9_checkBlock 4 = .ok (.getfield 72, 3) by decide +kernel) s2 ?_
  refine X_iload_n (j := 1) (show decode cX9_checkBlock 7 = .ok (.iload_n 1, 1) by decide +kernel) rfl rfl ?_
  obtain ⟨s6, w⟩ := w
  refine X_vI (rc' := 1) (rs' := 6) (as := [.int _]) mv_X9_387 (show decode cX9_checkBlock 8 = .ok (.invokevirtual 387, 3) by decide +kernel) (by decide) (Nat.le_of_ble_eq_true rfl) (Nat.le_of_ble_eq_true rfl) rfl rfl (Nat.le_of_ble_eq_true rfl) (rcvD s6 (by decide) rfl) (kX4_has w) (fun E h hk => hk.elim) (fun r4 h3 w => ?_)
  refine X_if_ne (tgt := 25) (show decode cX9_checkBlock 11 = .ok (.ifCond .ne 14, 3) by decide +kernel) (by decide) ⟨fun c5 => ?_, fun c5 => ?_⟩
  · have w := w.1 c5
    exact X_vret ⟨(show decode cX9_checkBlock 25 = .ok (.return_, 1) by decide +kernel), rfl⟩ ⟨rfl, w⟩
  · have w := w.2 c5
    exact X_throwSW tw_X9_313_390 (show decode cX9_checkBlock 14 = .ok (.new 313, 3) by decide +kernel) (show decode cX9_checkBlock 17 = .ok (.dup, 1) by decide +kernel) (show decode cX9_checkBlock 18 = .ok (.ldc_w 390, 3) by decide +kernel) (show decode cX9_checkBlock 21 = .ok (.invokespecial 317, 3) by decide +kernel) (show decode cX9_checkBlock 24 = .ok (.athrow, 1) by decide +kernel) (fun x hx => absurd hx List.not_mem_nil) (by decide) (Nat.le_of_ble_eq_true rfl) (Nat.le_of_ble_eq_true rfl) (Nat.le_of_ble_eq_true rfl) w
set_option maxRecDepth 100000 in
set_option maxHeartbeats 4000000 in
theorem kX9_blockLength {a0 : Nat} {a1 : Int32} {h : AH} {K : Int32 → AH → Prop} {T : String → AH → Prop} (w : wX9_blockLength a0 a1 h K T) : Cn mX9_blockLength (cwd mX9_blockLength) 9 1 6 [.ref a0, .int a1] h (KI K) T := by
  refine Cn_of (by decide +kernel) rfl (Nat.le_of_ble_eq_true rfl) ?_
  show X mX9_blockLength 9 (KI K) T 1 6 0 [(0, .ref a0), (1, .int a1)] [] h
  unfold wX9_blockLength at w
  refine X_aload_n (j := 0) (show decode cX9_blockLength 0 = .ok (.aload_n 0, 1) by decide +kernel) rfl rfl ?_
  refine X_iload_n (j := 1) (show decode cX9_blockLength 1 = .ok (.iload_n 1, 1) by decide +kernel) rfl rfl ?_
  obtain ⟨s8, w⟩ := w
  refine X_vV (rc' := 0) (rs' := 0) (as := [.int _]) mv_X9_117 (show decode cX9_blockLength 2 = .ok (.invokevirtual 117, 3) by decide +kernel) (by decide) (Nat.le_of_ble_eq_true rfl) (Nat.le_of_ble_eq_true rfl) rfl rfl (Nat.le_of_ble_eq_true rfl) (rcvD s8 (by decide) rfl) (kX9_checkBlock w) (fun E h hk => XT_out hk (fun x hx => absurd hx List.not_mem_nil)) (fun h1 w => ?_)
  refine X_aload_n (j := 0) (show decode cX9_blockLength 5 = .ok (.aload_n 0, 1) by decide +kernel) rfl rfl ?_
  obtain ⟨s3, w⟩ := w
  refine X_getR fl_X9_12 (show decode cX9_blockLength 6 = .ok (.getfield 12, 3) by decide +kernel) s3 ?_
  obtain ⟨s4, w⟩ := w
  refine X_getR fl_X9_72 (show decode cX9_blockLength 9 = .ok (.getfield 72, 3) by decide +kernel) s4 ?_
  refine X_iload_n (j := 1) (show decode cX9_blockLength 12 = .ok (.iload_n 1, 1) by decide +kernel) rfl rfl ?_
  obtain ⟨s7, w⟩ := w
  refine X_vI (rc' := 0) (rs' := 0) (as := [.int _]) mv_X9_121 (show decode cX9_blockLength 13 = .ok (.invokevirtual 121, 3) by decide +kernel) (by decide) (Nat.le_of_ble_eq_true rfl) (Nat.le_of_ble_eq_true rfl) rfl rfl (Nat.le_of_ble_eq_true rfl) (rcvD s7 (by decide) rfl) (kX4_lengthOf w) (fun E h hk => hk.elim) (fun r6 h5 w => ?_)
  exact X_iret ⟨(show decode cX9_blockLength 16 = .ok (.ireturn, 1) by decide +kernel), .int, rfl, rfl⟩ ⟨_, rfl, w⟩
set_option maxRecDepth 100000 in
set_option maxHeartbeats 4000000 in
theorem kX9_blockState {a0 : Nat} {a1 : Int32} {h : AH} {K : Int32 → AH → Prop} {T : String → AH → Prop} (w : wX9_blockState a0 a1 h K T) : Cn mX9_blockState (cwd mX9_blockState) 9 1 6 [.ref a0, .int a1] h (KI K) T := by
  refine Cn_of (by decide +kernel) rfl (Nat.le_of_ble_eq_true rfl) ?_
  show X mX9_blockState 9 (KI K) T 1 6 0 [(0, .ref a0), (1, .int a1)] [] h
  unfold wX9_blockState at w
  refine X_aload_n (j := 0) (show decode cX9_blockState 0 = .ok (.aload_n 0, 1) by decide +kernel) rfl rfl ?_
  refine X_iload_n (j := 1) (show decode cX9_blockState 1 = .ok (.iload_n 1, 1) by decide +kernel) rfl rfl ?_
  obtain ⟨s8, w⟩ := w
  refine X_vV (rc' := 0) (rs' := 0) (as := [.int _]) mv_X9_117 (show decode cX9_blockState 2 = .ok (.invokevirtual 117, 3) by decide +kernel) (by decide) (Nat.le_of_ble_eq_true rfl) (Nat.le_of_ble_eq_true rfl) rfl rfl (Nat.le_of_ble_eq_true rfl) (rcvD s8 (by decide) rfl) (kX9_checkBlock w) (fun E h hk => XT_out hk (fun x hx => absurd hx List.not_mem_nil)) (fun h1 w => ?_)
  refine X_aload_n (j := 0) (show decode cX9_blockState 5 = .ok (.aload_n 0, 1) by decide +kernel) rfl rfl ?_
  obtain ⟨s3, w⟩ := w
  refine X_getR fl_X9_12 (show decode cX9_blockState 6 = .ok (.getfield 12, 3) by decide +kernel) s3 ?_
  refine X_iload_n (j := 1) (show decode cX9_blockState 9 = .ok (.iload_n 1, 1) by decide +kernel) rfl rfl ?_
  obtain ⟨s7, w⟩ := w
  refine X_vI (rc' := 0) (rs' := 0) (as := [.int _]) mv_X9_124 (show decode cX9_blockState 10 = .ok (.invokevirtual 124, 3) by decide +kernel) (by decide) (Nat.le_of_ble_eq_true rfl) (Nat.le_of_ble_eq_true rfl) rfl rfl (Nat.le_of_ble_eq_true rfl) (rcvD s7 (by decide) rfl) (kX7_stateOf w) (fun E h hk => hk.elim) (fun r5 h4 w => ?_)
  obtain ⟨s6, w⟩ := w
  exact X_iret ⟨(show decode cX9_blockState 13 = .ok (.ireturn, 1) by decide +kernel), .char, rfl, s6⟩ ⟨_, rfl, w⟩
set_option maxRecDepth 100000 in
set_option maxHeartbeats 4000000 in
theorem kX7_holderOf_L2 {K : Int32 → AH → Prop}    : ∀ (n : Nat) (x0 : Nat) (x1 : Int32) (x2 : Int32) (h : AH), wX7_holderOf_L2 K   n x0 x1 x2 h → X mX7_holderOf 2 (KI K) T0 0 0 2 [(0, .ref x0), (1, .int x1), (2, .int x2)] [] h := by
  intro n
  induction n with
  | zero => intro _ _ _ _ w; exact w.elim
  | succ n ih =>
    intro x0 x1 x2 h w
    rw [wX7_holderOf_L2] at w
    refine X_iload_n (j := 2) (show decode cX7_holderOf 2 = .ok (.iload_n 2, 1) by decide +kernel) rfl rfl ?_
    refine X_aload_n (j := 0) (show decode cX7_holderOf 3 = .ok (.aload_n 0, 1) by decide +kernel) rfl rfl ?_
    obtain ⟨s1, w⟩ := w
    refine X_getI fl_X7_28 (show decode cX7_holderOf 4 = .ok (.getfield 28, 3) by decide +kernel) s1 ?_
    refine X_icmp_ge (tgt := 42) (show decode cX7_holderOf 7 = .ok (.if_icmp .ge 35, 3) by decide +kernel) (by decide) ⟨fun c2 => ?_, fun c2 => ?_⟩
    · have w := w.1 c2
      refine X_iconst (v := (-1)) (show decode cX7_holderOf 42 = .ok (.iconst (-1), 1) by decide +kernel) (by decide) ?_
      exact X_iret ⟨(show decode cX7_holderOf 43 = .ok (.ireturn, 1) by decide +kernel), .int, rfl, rfl⟩ ⟨_, rfl, w⟩
    · have w := w.2 c2
      refine X_aload_n (j := 0) (show decode cX7_holderOf 10 = .ok (.aload_n 0, 1) by decide +kernel) rfl rfl ?_
      refine X_getR fl_X7_20 (show decode cX7_holderOf 11 = .ok (.getfield 20, 3) by decide +kernel) s1 ?_
      refine X_iload_n (j := 2) (show decode cX7_holderOf 14 = .ok (.iload_n 2, 1) by decide +kernel) rfl rfl ?_
      obtain ⟨s3, w⟩ := w
      obtain ⟨s4, w⟩ := w
      refine X_aaldT (show decode cX7_holderOf 15 = .ok (.aaload, 1) by decide +kernel) (isA_eq s3) s4 ?_
      obtain ⟨s14, w⟩ := w
      refine X_vI (rc' := 0) (rs' := 0) (as := []) mv_X7_65 (show decode cX7_holderOf 16 = .ok (.invokevirtual 65, 3) by decide +kernel) (by decide) (Nat.le_of_ble_eq_true rfl) (Nat.le_of_ble_eq_true rfl) rfl rfl (Nat.le_of_ble_eq_true rfl) (rcvD s14 (by decide) rfl) (kX8_held w) (fun E h hk => hk.elim) (fun r6 h5 w => ?_)
      refine X_iload_n (j := 1) (show decode cX7_holderOf 19 = .ok (.iload_n 1, 1) by decide +kernel) rfl rfl ?_
      refine X_nI (rc' := 0) (rs' := 0) (as := [.int _, .int _]) msn_X7_69 (show decode cX7_holderOf 20 = .ok (.invokestatic 69, 3) by decide +kernel) (by decide) (Nat.le_of_ble_eq_true rfl) (Nat.le_of_ble_eq_true rfl) rfl rfl (Nat.le_of_ble_eq_true rfl) (kX9_contains w) (fun r8 h7 w => ?_)
      refine X_if_eq (tgt := 36) (show decode cX7_holderOf 23 = .ok (.ifCond .eq 13, 3) by decide +kernel) (by decide) ⟨fun c9 => ?_, fun c9 => ?_⟩
      · have w := w.1 c9
        refine X_iinc (j := 2) (v := _ + (nI 1)) (ls' := [(0, .ref _), (1, .int _), (2, .int _)]) (show decode cX7_holderOf 36 = .ok (.iinc 2 1, 3) by decide +kernel) rfl rfl (Nat.le_of_ble_eq_true rfl) rfl ?_
        refine X_goto (tgt := 2) (show decode cX7_holderOf 39 = .ok (.goto (-37), 3) by decide +kernel) (by decide) ?_
        exact ih _ _ _ _ w
      · have w := w.2 c9
        refine X_aload_n (j := 0) (show decode cX7_holderOf 26 = .ok (.aload_n 0, 1) by decide +kernel) rfl rfl ?_
        obtain ⟨s10, w⟩ := w
        refine X_getR fl_X7_20 (show decode cX7_holderOf 27 = .ok (.getfield 20, 3) by decide +kernel) s10 ?_
        refine X_iload_n (j := 2) (show decode cX7_holderOf 30 = .ok (.iload_n 2, 1) by decide +kernel) rfl rfl ?_
        obtain ⟨s11, w⟩ := w
        obtain ⟨s12, w⟩ := w
        refine X_aaldT (show decode cX7_holderOf 31 = .ok (.aaload, 1) by decide +kernel) (isA_eq s11) s12 ?_
        obtain ⟨s13, w⟩ := w
        refine X_getI fl_X7_62 (show decode cX7_holderOf 32 = .ok (.getfield 62, 3) by decide +kernel) s13 ?_
        exact X_iret ⟨(show decode cX7_holderOf 35 = .ok (.ireturn, 1) by decide +kernel), .int, rfl, rfl⟩ ⟨_, rfl, w⟩
set_option maxRecDepth 100000 in
set_option maxHeartbeats 4000000 in
theorem kX7_holderOf {a0 : Nat} {a1 : Int32} {h : AH} {K : Int32 → AH → Prop} (w : wX7_holderOf a0 a1 h K) : Cn mX7_holderOf (cwd mX7_holderOf) 2 0 0 [.ref a0, .int a1] h (KI K) T0 := by
  refine Cn_of (by decide +kernel) rfl (Nat.le_of_ble_eq_true rfl) ?_
  show X mX7_holderOf 2 (KI K) T0 0 0 0 [(0, .ref a0), (1, .int a1)] [] h
  unfold wX7_holderOf at w
  refine X_iconst (v := (nI 0)) (show decode cX7_holderOf 0 = .ok (.iconst 0, 1) by decide +kernel) (by decide) ?_
  refine X_istore_n (ls' := [(0, .ref _), (1, .int _), (2, .int _)]) (show decode cX7_holderOf 1 = .ok (.istore_n 2, 1) by decide +kernel) rfl (by decide) rfl ?_
  obtain ⟨n15, w⟩ := w
  exact kX7_holderOf_L2  n15 _ _ _ _ w
set_option maxRecDepth 100000 in
set_option maxHeartbeats 4000000 in
theorem kX9_trainAt {a0 : Nat} {a1 : Int32} {h : AH} {K : Int32 → AH → Prop} {T : String → AH → Prop} (w : wX9_trainAt a0 a1 h K T) : Cn mX9_trainAt (cwd mX9_trainAt) 9 2 12 [.ref a0, .int a1] h (KI K) T := by
  refine Cn_of (by decide +kernel) rfl (Nat.le_of_ble_eq_true rfl) ?_
  show X mX9_trainAt 9 (KI K) T 2 12 0 [(0, .ref a0), (1, .int a1)] [] h
  unfold wX9_trainAt at w
  refine X_aload_n (j := 0) (show decode cX9_trainAt 0 = .ok (.aload_n 0, 1) by decide +kernel) rfl rfl ?_
  refine X_iload_n (j := 1) (show decode cX9_trainAt 1 = .ok (.iload_n 1, 1) by decide +kernel) rfl rfl ?_
  obtain ⟨s8, w⟩ := w
  refine X_vV (rc' := 1) (rs' := 6) (as := [.int _]) mv_X9_117 (show decode cX9_trainAt 2 = .ok (.invokevirtual 117, 3) by decide +kernel) (by decide) (Nat.le_of_ble_eq_true rfl) (Nat.le_of_ble_eq_true rfl) rfl rfl (Nat.le_of_ble_eq_true rfl) (rcvD s8 (by decide) rfl) (kX9_checkBlock w) (fun E h hk => XT_out hk (fun x hx => absurd hx List.not_mem_nil)) (fun h1 w => ?_)
  refine X_aload_n (j := 0) (show decode cX9_trainAt 5 = .ok (.aload_n 0, 1) by decide +kernel) rfl rfl ?_
  obtain ⟨s3, w⟩ := w
  refine X_getR fl_X9_12 (show decode cX9_trainAt 6 = .ok (.getfield 12, 3) by decide +kernel) s3 ?_
  refine X_iload_n (j := 1) (show decode cX9_trainAt 9 = .ok (.iload_n 1, 1) by decide +kernel) rfl rfl ?_
  obtain ⟨s7, w⟩ := w
  refine X_vI (rc' := 1) (rs' := 6) (as := [.int _]) mv_X9_128 (show decode cX9_trainAt 10 = .ok (.invokevirtual 128, 3) by decide +kernel) (by decide) (Nat.le_of_ble_eq_true rfl) (Nat.le_of_ble_eq_true rfl) rfl rfl (Nat.le_of_ble_eq_true rfl) (rcvD s7 (by decide) rfl) (kX7_holderOf w) (fun E h hk => hk.elim) (fun r5 h4 w => ?_)
  refine X_istore_n (ls' := [(0, .ref _), (1, .int _), (2, .int _)]) (show decode cX9_trainAt 13 = .ok (.istore_n 2, 1) by decide +kernel) rfl (by decide) rfl ?_
  refine X_iload_n (j := 2) (show decode cX9_trainAt 14 = .ok (.iload_n 2, 1) by decide +kernel) rfl rfl ?_
  refine X_iconst (v := (-1)) (show decode cX9_trainAt 15 = .ok (.iconst (-1), 1) by decide +kernel) (by decide) ?_
  refine X_icmp_ne (tgt := 29) (show decode cX9_trainAt 16 = .ok (.if_icmp .ne 13, 3) by decide +kernel) (by decide) ⟨fun c6 => ?_, fun c6 => ?_⟩
  · have w := w.1 c6
    refine X_iload_n (j := 2) (show decode cX9_trainAt 29 = .ok (.iload_n 2, 1) by decide +kernel) rfl rfl ?_
    exact X_iret ⟨(show decode cX9_trainAt 30 = .ok (.ireturn, 1) by decide +kernel), .int, rfl, rfl⟩ ⟨_, rfl, w⟩
  · have w := w.2 c6
    exact X_throwN (w := 0) tn_X9_131_133 (show decode cX9_trainAt 19 = .ok (.new 131, 3) by decide +kernel) (show decode cX9_trainAt 22 = .ok (.dup, 1) by decide +kernel) (Or.inl ⟨rfl, (show decode cX9_trainAt 23 = .ok (.ldc 133, 2) by decide +kernel)⟩) (show decode cX9_trainAt 25 = .ok (.invokespecial 135, 3) by decide +kernel) (show decode cX9_trainAt 28 = .ok (.athrow, 1) by decide +kernel) (fun x hx => absurd hx List.not_mem_nil) (by decide) (Nat.le_of_ble_eq_true rfl) (Nat.le_of_ble_eq_true rfl) (Nat.le_of_ble_eq_true rfl) w
set_option maxRecDepth 100000 in
set_option maxHeartbeats 4000000 in
theorem kX9_checkPoint {a0 : Nat} {a1 : Int32} {h : AH} {K : AH → Prop} {T : String → AH → Prop} (w : wX9_checkPoint a0 a1 h K T) : Cn mX9_checkPoint (cwd mX9_checkPoint) 8 1 6 [.ref a0, .int a1] h (KV K) T := by
  refine Cn_of (by decide +kernel) rfl (Nat.le_of_ble_eq_true rfl) ?_
  show X mX9_checkPoint 8 (KV K) T 1 6 0 [(0, .ref a0), (1, .int a1)] [] h
  unfold wX9_checkPoint at w
  refine X_aload_n (j := 0) (show decode cX9_checkPoint 0 = .ok (.aload_n 0, 1) by decide +kernel) rfl rfl ?_
  obtain ⟨s1, w⟩ := w
  refine X_getR fl_X9_12 (show decode cX9_checkPoint 1 = .ok (.getfield 12, 3) by decide +kernel) s1 ?_
  obtain ⟨s2, w⟩ := w
  refine X_getR fl_X9_72 (show decode cX9_checkPoint 4 = .ok (.getfield 72, 3) by decide +kernel) s2 ?_
  refine X_iload_n (j := 1) (show decode cX9_checkPoint 7 = .ok (.iload_n 1, 1) by decide +kernel) rfl rfl ?_
  obtain ⟨s6, w⟩ := w
  refine X_vI (rc' := 1) (rs' := 6) (as := [.int _]) mv_X9_392 (show decode cX9_checkPoint 8 = .ok (.invokevirtual 392, 3) by decide +kernel) (by decide) (Nat.le_of_ble_eq_true rfl) (Nat.le_of_ble_eq_true rfl) rfl rfl (Nat.le_of_ble_eq_true rfl) (rcvD s6 (by decide) rfl) (kX4_hasPoint w) (fun E h hk => hk.elim) (fun r4 h3 w => ?_)
  refine X_if_ne (tgt := 25) (show decode cX9_checkPoint 11 = .ok (.ifCond .ne 14, 3) by decide +kernel) (by decide) ⟨fun c5 => ?_, fun c5 => ?_⟩
  · have w := w.1 c5
    exact X_vret ⟨(show decode cX9_checkPoint 25 = .ok (.return_, 1) by decide +kernel), rfl⟩ ⟨rfl, w⟩
  · have w := w.2 c5
    exact X_throwSW tw_X9_313_395 (show decode cX9_checkPoint 14 = .ok (.new 313, 3) by decide +kernel) (show decode cX9_checkPoint 17 = .ok (.dup, 1) by decide +kernel) (show decode cX9_checkPoint 18 = .ok (.ldc_w 395, 3) by decide +kernel) (show decode cX9_checkPoint 21 = .ok (.invokespecial 317, 3) by decide +kernel) (show decode cX9_checkPoint 24 = .ok (.athrow, 1) by decide +kernel) (fun x hx => absurd hx List.not_mem_nil) (by decide) (Nat.le_of_ble_eq_true rfl) (Nat.le_of_ble_eq_true rfl) (Nat.le_of_ble_eq_true rfl) w
set_option maxRecDepth 100000 in
set_option maxHeartbeats 4000000 in
theorem kX9_liesLeft {a0 : Nat} {a1 : Int32} {h : AH} {K : Int32 → AH → Prop} {T : String → AH → Prop} (w : wX9_liesLeft a0 a1 h K T) : Cn mX9_liesLeft (cwd mX9_liesLeft) 9 1 6 [.ref a0, .int a1] h (KI K) T := by
  refine Cn_of (by decide +kernel) rfl (Nat.le_of_ble_eq_true rfl) ?_
  show X mX9_liesLeft 9 (KI K) T 1 6 0 [(0, .ref a0), (1, .int a1)] [] h
  unfold wX9_liesLeft at w
  refine X_aload_n (j := 0) (show decode cX9_liesLeft 0 = .ok (.aload_n 0, 1) by decide +kernel) rfl rfl ?_
  refine X_iload_n (j := 1) (show decode cX9_liesLeft 1 = .ok (.iload_n 1, 1) by decide +kernel) rfl rfl ?_
  obtain ⟨s9, w⟩ := w
  refine X_vV (rc' := 0) (rs' := 0) (as := [.int _]) mv_X9_138 (show decode cX9_liesLeft 2 = .ok (.invokevirtual 138, 3) by decide +kernel) (by decide) (Nat.le_of_ble_eq_true rfl) (Nat.le_of_ble_eq_true rfl) rfl rfl (Nat.le_of_ble_eq_true rfl) (rcvD s9 (by decide) rfl) (kX9_checkPoint w) (fun E h hk => XT_out hk (fun x hx => absurd hx List.not_mem_nil)) (fun h1 w => ?_)
  refine X_aload_n (j := 0) (show decode cX9_liesLeft 5 = .ok (.aload_n 0, 1) by decide +kernel) rfl rfl ?_
  obtain ⟨s3, w⟩ := w
  refine X_getR fl_X9_12 (show decode cX9_liesLeft 6 = .ok (.getfield 12, 3) by decide +kernel) s3 ?_
  obtain ⟨s4, w⟩ := w
  refine X_getR fl_X9_72 (show decode cX9_liesLeft 9 = .ok (.getfield 72, 3) by decide +kernel) s4 ?_
  refine X_iload_n (j := 1) (show decode cX9_liesLeft 12 = .ok (.iload_n 1, 1) by decide +kernel) rfl rfl ?_
  obtain ⟨s8, w⟩ := w
  refine X_vI (rc' := 0) (rs' := 0) (as := [.int _]) mv_X9_141 (show decode cX9_liesLeft 13 = .ok (.invokevirtual 141, 3) by decide +kernel) (by decide) (Nat.le_of_ble_eq_true rfl) (Nat.le_of_ble_eq_true rfl) rfl rfl (Nat.le_of_ble_eq_true rfl) (rcvD s8 (by decide) rfl) (kX4_pointsLeft w) (fun E h hk => hk.elim) (fun r6 h5 w => ?_)
  obtain ⟨s7, w⟩ := w
  exact X_iret ⟨(show decode cX9_liesLeft 16 = .ok (.ireturn, 1) by decide +kernel), .boolean, rfl, s7⟩ ⟨_, rfl, w⟩
set_option maxRecDepth 100000 in
set_option maxHeartbeats 4000000 in
theorem kX9_lockedBy {a0 : Nat} {a1 : Int32} {h : AH} {K : Int32 → AH → Prop} {T : String → AH → Prop} (w : wX9_lockedBy a0 a1 h K T) : Cn mX9_lockedBy (cwd mX9_lockedBy) 9 2 12 [.ref a0, .int a1] h (KI K) T := by
  refine Cn_of (by decide +kernel) rfl (Nat.le_of_ble_eq_true rfl) ?_
  show X mX9_lockedBy 9 (KI K) T 2 12 0 [(0, .ref a0), (1, .int a1)] [] h
  unfold wX9_lockedBy at w
  refine X_aload_n (j := 0) (show decode cX9_lockedBy 0 = .ok (.aload_n 0, 1) by decide +kernel) rfl rfl ?_
  refine X_iload_n (j := 1) (show decode cX9_lockedBy 1 = .ok (.iload_n 1, 1) by decide +kernel) rfl rfl ?_
  obtain ⟨s8, w⟩ := w
  refine X_vV (rc' := 1) (rs' := 6) (as := [.int _]) mv_X9_138 (show decode cX9_lockedBy 2 = .ok (.invokevirtual 138, 3) by decide +kernel) (by decide) (Nat.le_of_ble_eq_true rfl) (Nat.le_of_ble_eq_true rfl) rfl rfl (Nat.le_of_ble_eq_true rfl) (rcvD s8 (by decide) rfl) (kX9_checkPoint w) (fun E h hk => XT_out hk (fun x hx => absurd hx List.not_mem_nil)) (fun h1 w => ?_)
  refine X_aload_n (j := 0) (show decode cX9_lockedBy 5 = .ok (.aload_n 0, 1) by decide +kernel) rfl rfl ?_
  obtain ⟨s3, w⟩ := w
  refine X_getR fl_X9_12 (show decode cX9_lockedBy 6 = .ok (.getfield 12, 3) by decide +kernel) s3 ?_
  refine X_iload_n (j := 1) (show decode cX9_lockedBy 9 = .ok (.iload_n 1, 1) by decide +kernel) rfl rfl ?_
  obtain ⟨s7, w⟩ := w
  refine X_vI (rc' := 1) (rs' := 6) (as := [.int _]) mv_X9_145 (show decode cX9_lockedBy 10 = .ok (.invokevirtual 145, 3) by decide +kernel) (by decide) (Nat.le_of_ble_eq_true rfl) (Nat.le_of_ble_eq_true rfl) rfl rfl (Nat.le_of_ble_eq_true rfl) (rcvD s7 (by decide) rfl) (kX7_lockerOf w) (fun E h hk => hk.elim) (fun r5 h4 w => ?_)
  refine X_istore_n (ls' := [(0, .ref _), (1, .int _), (2, .int _)]) (show decode cX9_lockedBy 13 = .ok (.istore_n 2, 1) by decide +kernel) rfl (by decide) rfl ?_
  refine X_iload_n (j := 2) (show decode cX9_lockedBy 14 = .ok (.iload_n 2, 1) by decide +kernel) rfl rfl ?_
  refine X_iconst (v := (-1)) (show decode cX9_lockedBy 15 = .ok (.iconst (-1), 1) by decide +kernel) (by decide) ?_
  refine X_icmp_ne (tgt := 29) (show decode cX9_lockedBy 16 = .ok (.if_icmp .ne 13, 3) by decide +kernel) (by decide) ⟨fun c6 => ?_, fun c6 => ?_⟩
  · have w := w.1 c6
    refine X_iload_n (j := 2) (show decode cX9_lockedBy 29 = .ok (.iload_n 2, 1) by decide +kernel) rfl rfl ?_
    exact X_iret ⟨(show decode cX9_lockedBy 30 = .ok (.ireturn, 1) by decide +kernel), .int, rfl, rfl⟩ ⟨_, rfl, w⟩
  · have w := w.2 c6
    exact X_throwN (w := 0) tn_X9_131_148 (show decode cX9_lockedBy 19 = .ok (.new 131, 3) by decide +kernel) (show decode cX9_lockedBy 22 = .ok (.dup, 1) by decide +kernel) (Or.inl ⟨rfl, (show decode cX9_lockedBy 23 = .ok (.ldc 148, 2) by decide +kernel)⟩) (show decode cX9_lockedBy 25 = .ok (.invokespecial 135, 3) by decide +kernel) (show decode cX9_lockedBy 28 = .ok (.athrow, 1) by decide +kernel) (fun x hx => absurd hx List.not_mem_nil) (by decide) (Nat.le_of_ble_eq_true rfl) (Nat.le_of_ble_eq_true rfl) (Nat.le_of_ble_eq_true rfl) w
set_option maxRecDepth 100000 in
set_option maxHeartbeats 4000000 in
theorem kX9_checkRoute {a0 : Nat} {a1 : Int32} {a2 : Int32} {h : AH} {K : AH → Prop} {T : String → AH → Prop} (w : wX9_checkRoute a0 a1 a2 h K T) : Cn mX9_checkRoute (cwd mX9_checkRoute) 9 3 18 [.ref a0, .int a1, .int a2] h (KV K) T := by
  refine Cn_of (by decide +kernel) rfl (Nat.le_of_ble_eq_true rfl) ?_
  show X mX9_checkRoute 9 (KV K) T 3 18 0 [(0, .ref a0), (1, .int a1), (2, .int a2)] [] h
  unfold wX9_checkRoute at w
  refine X_aload_n (j := 0) (show decode cX9_checkRoute 0 = .ok (.aload_n 0, 1) by decide +kernel) rfl rfl ?_
  refine X_iload_n (j := 1) (show decode cX9_checkRoute 1 = .ok (.iload_n 1, 1) by decide +kernel) rfl rfl ?_
  obtain ⟨s13, w⟩ := w
  refine X_vV (rc' := 2) (rs' := 12) (as := [.int _]) mv_X9_117 (show decode cX9_checkRoute 2 = .ok (.invokevirtual 117, 3) by decide +kernel) (by decide) (Nat.le_of_ble_eq_true rfl) (Nat.le_of_ble_eq_true rfl) rfl rfl (Nat.le_of_ble_eq_true rfl) (rcvD s13 (by decide) rfl) (kX9_checkBlock w) (fun E h hk => XT_out hk (fun x hx => absurd hx List.not_mem_nil)) (fun h1 w => ?_)
  refine X_aload_n (j := 0) (show decode cX9_checkRoute 5 = .ok (.aload_n 0, 1) by decide +kernel) rfl rfl ?_
  refine X_iload_n (j := 2) (show decode cX9_checkRoute 6 = .ok (.iload_n 2, 1) by decide +kernel) rfl rfl ?_
  obtain ⟨s12, w⟩ := w
  refine X_vV (rc' := 1) (rs' := 6) (as := [.int _]) mv_X9_117 (show decode cX9_checkRoute 7 = .ok (.invokevirtual 117, 3) by decide +kernel) (by decide) (Nat.le_of_ble_eq_true rfl) (Nat.le_of_ble_eq_true rfl) rfl rfl (Nat.le_of_ble_eq_true rfl) (rcvD s12 (by decide) rfl) (kX9_checkBlock w) (fun E h hk => XT_out hk (fun x hx => absurd hx List.not_mem_nil)) (fun h3 w => ?_)
  refine X_iload_n (j := 1) (show decode cX9_checkRoute 10 = .ok (.iload_n 1, 1) by decide +kernel) rfl rfl ?_
  refine X_iload_n (j := 2) (show decode cX9_checkRoute 11 = .ok (.iload_n 2, 1) by decide +kernel) rfl rfl ?_
  refine X_icmp_eq (tgt := 40) (show decode cX9_checkRoute 12 = .ok (.if_icmp .eq 28, 3) by decide +kernel) (by decide) ⟨fun c5 => ?_, fun c5 => ?_⟩
  · have w := w.1 c5
    exact X_vret ⟨(show decode cX9_checkRoute 40 = .ok (.return_, 1) by decide +kernel), rfl⟩ ⟨rfl, w⟩
  · have w := w.2 c5
    refine X_aload_n (j := 0) (show decode cX9_checkRoute 15 = .ok (.aload_n 0, 1) by decide +kernel) rfl rfl ?_
    obtain ⟨s6, w⟩ := w
    refine X_getR fl_X9_12 (show decode cX9_checkRoute 16 = .ok (.getfield 12, 3) by decide +kernel) s6 ?_
    obtain ⟨s7, w⟩ := w
    refine X_getR fl_X9_72 (show decode cX9_checkRoute 19 = .ok (.getfield 72, 3) by decide +kernel) s7 ?_
    refine X_iload_n (j := 1) (show decode cX9_checkRoute 22 = .ok (.iload_n 1, 1) by decide +kernel) rfl rfl ?_
    refine X_iload_n (j := 2) (show decode cX9_checkRoute 23 = .ok (.iload_n 2, 1) by decide +kernel) rfl rfl ?_
    obtain ⟨s11, w⟩ := w
    refine X_vI (rc' := 1) (rs' := 6) (as := [.int _, .int _]) mv_X9_154 (show decode cX9_checkRoute 24 = .ok (.invokevirtual 154, 3) by decide +kernel) (by decide) (Nat.le_of_ble_eq_true rfl) (Nat.le_of_ble_eq_true rfl) rfl rfl (Nat.le_of_ble_eq_true rfl) (rcvD s11 (by decide) rfl) (kX4_routeBlocks w) (fun E h hk => hk.elim) (fun r9 h8 w => ?_)
    refine X_if_ne (tgt := 40) (show decode cX9_checkRoute 27 = .ok (.ifCond .ne 13, 3) by decide +kernel) (by decide) ⟨fun c10 => ?_, fun c10 => ?_⟩
    · have w := w.1 c10
      exact X_vret ⟨(show decode cX9_checkRoute 40 = .ok (.return_, 1) by decide +kernel), rfl⟩ ⟨rfl, w⟩
    · have w := w.2 c10
      exact X_throwN (w := 0) tn_X9_131_163 (show decode cX9_checkRoute 30 = .ok (.new 131, 3) by decide +kernel) (show decode cX9_checkRoute 33 = .ok (.dup, 1) by decide +kernel) (Or.inl ⟨rfl, (show decode cX9_checkRoute 34 = .ok (.ldc 163, 2) by decide +kernel)⟩) (show decode cX9_checkRoute 36 = .ok (.invokespecial 135, 3) by decide +kernel) (show decode cX9_checkRoute 39 = .ok (.athrow, 1) by decide +kernel) (fun x hx => absurd hx List.not_mem_nil) (by decide) (Nat.le_of_ble_eq_true rfl) (Nat.le_of_ble_eq_true rfl) (Nat.le_of_ble_eq_true rfl) w
set_option maxRecDepth 100000 in
set_option maxHeartbeats 4000000 in
theorem kX9_routeLength {a0 : Nat} {a1 : Int32} {a2 : Int32} {h : AH} {K : Int32 → AH → Prop} {T : String → AH → Prop} (w : wX9_routeLength a0 a1 a2 h K T) : Cn mX9_routeLength (cwd mX9_routeLength) 10 3 18 [.ref a0, .int a1, .int a2] h (KI K) T := by
  refine Cn_of (by decide +kernel) rfl (Nat.le_of_ble_eq_true rfl) ?_
  show X mX9_routeLength 10 (KI K) T 3 18 0 [(0, .ref a0), (1, .int a1), (2, .int a2)] [] h
  unfold wX9_routeLength at w
  refine X_aload_n (j := 0) (show decode cX9_routeLength 0 = .ok (.aload_n 0, 1) by decide +kernel) rfl rfl ?_
  refine X_iload_n (j := 1) (show decode cX9_routeLength 1 = .ok (.iload_n 1, 1) by decide +kernel) rfl rfl ?_
  refine X_iload_n (j := 2) (show decode cX9_routeLength 2 = .ok (.iload_n 2, 1) by decide +kernel) rfl rfl ?_
  obtain ⟨s11, w⟩ := w
  refine X_vV (rc' := 0) (rs' := 0) (as := [.int _, .int _]) mv_X9_150 (show decode cX9_routeLength 3 = .ok (.invokevirtual 150, 3) by decide +kernel) (by decide) (Nat.le_of_ble_eq_true rfl) (Nat.le_of_ble_eq_true rfl) rfl rfl (Nat.le_of_ble_eq_true rfl) (rcvD s11 (by decide) rfl) (kX9_checkRoute w) (fun E h hk => XT_out hk (fun x hx => absurd hx List.not_mem_nil)) (fun h1 w => ?_)
  refine X_aload_n (j := 0) (show decode cX9_routeLength 6 = .ok (.aload_n 0, 1) by decide +kernel) rfl rfl ?_
  obtain ⟨s3, w⟩ := w
  refine X_getR fl_X9_12 (show decode cX9_routeLength 7 = .ok (.getfield 12, 3) by decide +kernel) s3 ?_
  obtain ⟨s4, w⟩ := w
  refine X_getR fl_X9_72 (show decode cX9_routeLength 10 = .ok (.getfield 72, 3) by decide +kernel) s4 ?_
  refine X_aload_n (j := 0) (show decode cX9_routeLength 13 = .ok (.aload_n 0, 1) by decide +kernel) rfl rfl ?_
  refine X_getR fl_X9_12 (show decode cX9_routeLength 14 = .ok (.getfield 12, 3) by decide +kernel) s3 ?_
  refine X_getR fl_X9_72 (show decode cX9_routeLength 17 = .ok (.getfield 72, 3) by decide +kernel) s4 ?_
  refine X_iload_n (j := 1) (show decode cX9_routeLength 20 = .ok (.iload_n 1, 1) by decide +kernel) rfl rfl ?_
  refine X_iload_n (j := 2) (show decode cX9_routeLength 21 = .ok (.iload_n 2, 1) by decide +kernel) rfl rfl ?_
  obtain ⟨s10, w⟩ := w
  refine X_vI (rc' := 0) (rs' := 0) (as := [.int _, .int _]) mv_X9_154 (show decode cX9_routeLength 22 = .ok (.invokevirtual 154, 3) by decide +kernel) (by decide) (Nat.le_of_ble_eq_true rfl) (Nat.le_of_ble_eq_true rfl) rfl rfl (Nat.le_of_ble_eq_true rfl) (rcvD s10 (by decide) rfl) (kX4_routeBlocks w) (fun E h hk => hk.elim) (fun r6 h5 w => ?_)
  obtain ⟨s9, w⟩ := w
  refine X_vI (rc' := 0) (rs' := 0) (as := [.int _]) mv_X9_157 (show decode cX9_routeLength 25 = .ok (.invokevirtual 157, 3) by decide +kernel) (by decide) (Nat.le_of_ble_eq_true rfl) (Nat.le_of_ble_eq_true rfl) rfl rfl (Nat.le_of_ble_eq_true rfl) (rcvD s9 (by decide) rfl) (kX4_totalLength w) (fun E h hk => hk.elim) (fun r8 h7 w => ?_)
  exact X_iret ⟨(show decode cX9_routeLength 28 = .ok (.ireturn, 1) by decide +kernel), .int, rfl, rfl⟩ ⟨_, rfl, w⟩
set_option maxRecDepth 100000 in
set_option maxHeartbeats 4000000 in
theorem kX4_tryPaths_b {d : Nat} {rec : Nat → Int32 → Int32 → Int32 → Int32 → AH → (Int32 → AH → Prop) → Prop} (hrec : ∀ b0 b1 b2 b3 b4 h K, rec b0 b1 b2 b3 b4 h K → Cn mX4_tryPaths (cwd mX4_tryPaths) (d + 2) 0 0 [.ref b0, .int b1, .int b2, .int b3, .int b4] h (KI K) T0) {a0 : Nat} {a1 : Int32} {a2 : Int32} {a3 : Int32} {a4 : Int32} {h : AH} {K : Int32 → AH → Prop} (w : wX4_tryPaths_b rec a0 a1 a2 a3 a4 h K) : Cn mX4_tryPaths (cwd mX4_tryPaths) (d + 3) 0 0 [.ref a0, .int a1, .int a2, .int a3, .int a4] h (KI K) T0 := by
  refine Cn_of (by decide +kernel) rfl (Nat.le_of_ble_eq_true rfl) ?_
  show X mX4_tryPaths (d + 3) (KI K) T0 0 0 0 [(0, .ref a0), (1, .int a1), (2, .int a2), (3, .int a3), (4, .int a4)] [] h
  unfold wX4_tryPaths_b at w
  refine X_iload_n (j := 1) (show decode cX4_tryPaths 0 = .ok (.iload_n 1, 1) by decide +kernel) rfl rfl ?_
  refine X_iload_n (j := 2) (show decode cX4_tryPaths 1 = .ok (.iload_n 2, 1) by decide +kernel) rfl rfl ?_
  refine X_icmp_ne (tgt := 7) (show decode cX4_tryPaths 2 = .ok (.if_icmp .ne 5, 3) by decide +kernel) (by decide) ⟨fun c1 => ?_, fun c1 => ?_⟩
  · have w := w.1 c1
    refine X_iload (j := 4) (show decode cX4_tryPaths 7 = .ok (.iload 4, 2) by decide +kernel) rfl ?_
    refine X_bipush (v := (nI 12)) (show decode cX4_tryPaths 9 = .ok (.bipush 12, 2) by decide +kernel) (by decide) ?_
    refine X_icmp_ge (tgt := 30) (show decode cX4_tryPaths 11 = .ok (.if_icmp .ge 19, 3) by decide +kernel) (by decide) ⟨fun c2 => ?_, fun c2 => ?_⟩
    · have w := w.1 c2
      refine X_ldc (v := (nI 1000000)) (show decode cX4_tryPaths 30 = .ok (.ldc 88, 2) by decide +kernel) gc_X4_88 ?_
      exact X_iret ⟨(show decode cX4_tryPaths 32 = .ok (.ireturn, 1) by decide +kernel), .int, rfl, rfl⟩ ⟨_, rfl, w⟩
    · have w := w.2 c2
      refine X_aload_n (j := 0) (show decode cX4_tryPaths 14 = .ok (.aload_n 0, 1) by decide +kernel) rfl rfl ?_
      refine X_iload_n (j := 1) (show decode cX4_tryPaths 15 = .ok (.iload_n 1, 1) by decide +kernel) rfl rfl ?_
      obtain ⟨s25, w⟩ := w
      refine X_vI (rc' := 0) (rs' := 0) (as := [.int _]) mv_X4_75 (show decode cX4_tryPaths 16 = .ok (.invokevirtual 75, 3) by decide +kernel) (by omega) (Nat.le_of_ble_eq_true rfl) (Nat.le_of_ble_eq_true rfl) rfl rfl (Nat.le_of_ble_eq_true rfl) (rcvD s25 (by decide) rfl) (kX4_hasExit w) (fun E h hk => hk.elim) (fun r4 h3 w => ?_)
      refine X_if_eq (tgt := 30) (show decode cX4_tryPaths 19 = .ok (.ifCond .eq 11, 3) by decide +kernel) (by decide) ⟨fun c5 => ?_, fun c5 => ?_⟩
      · have w := w.1 c5
        refine X_ldc (v := (nI 1000000)) (show decode cX4_tryPaths 30 = .ok (.ldc 88, 2) by decide +kernel) gc_X4_88 ?_
        exact X_iret ⟨(show decode cX4_tryPaths 32 = .ok (.ireturn, 1) by decide +kernel), .int, rfl, rfl⟩ ⟨_, rfl, w⟩
      · have w := w.2 c5
        refine X_iload_n (j := 3) (show decode cX4_tryPaths 22 = .ok (.iload_n 3, 1) by decide +kernel) rfl rfl ?_
        refine X_iload_n (j := 1) (show decode cX4_tryPaths 23 = .ok (.iload_n 1, 1) by decide +kernel) rfl rfl ?_
        refine X_nI (rc' := 0) (rs' := 0) (as := [.int _, .int _]) msn_X4_68 (show decode cX4_tryPaths 24 = .ok (.invokestatic 68, 3) by decide +kernel) (by omega) (Nat.le_of_ble_eq_true rfl) (Nat.le_of_ble_eq_true rfl) rfl rfl (Nat.le_of_ble_eq_true rfl) (kX9_contains w) (fun r7 h6 w => ?_)
        refine X_if_eq (tgt := 33) (show decode cX4_tryPaths 27 = .ok (.ifCond .eq 6, 3) by decide +kernel) (by decide) ⟨fun c8 => ?_, fun c8 => ?_⟩
        · have w := w.1 c8
          refine X_iload_n (j := 3) (show decode cX4_tryPaths 33 = .ok (.iload_n 3, 1) by decide +kernel) rfl rfl ?_
          refine X_iconst (v := (nI 1)) (show decode cX4_tryPaths 34 = .ok (.iconst 1, 1) by decide +kernel) (by decide) ?_
          refine X_iload_n (j := 1) (show decode cX4_tryPaths 35 = .ok (.iload_n 1, 1) by decide +kernel) rfl rfl ?_
          refine X_ishl (show decode cX4_tryPaths 36 = .ok (.ishl, 1) by decide +kernel) ?_
          refine X_ior (show decode cX4_tryPaths 37 = .ok (.ior, 1) by decide +kernel) ?_
          refine X_istore (ls' := [(0, .ref _), (1, .int _), (2, .int _), (3, .int _), (4, .int _), (5, .int _)]) (show decode cX4_tryPaths 38 = .ok (.istore 5, 2) by decide +kernel) (by decide) rfl ?_
          refine X_aload_n (j := 0) (show decode cX4_tryPaths 40 = .ok (.aload_n 0, 1) by decide +kernel) rfl rfl ?_
          obtain ⟨s9, w⟩ := w
          refine X_getR fl_X4_31 (show decode cX4_tryPaths 41 = .ok (.getfield 31, 3) by decide +kernel) s9 ?_
          refine X_iload_n (j := 1) (show decode cX4_tryPaths 44 = .ok (.iload_n 1, 1) by decide +kernel) rfl rfl ?_
          obtain ⟨s10, w⟩ := w
          obtain ⟨s11, w⟩ := w
          refine X_iald (show decode cX4_tryPaths 45 = .ok (.iaload, 1) by decide +kernel) (isA_eq s10) s11 ?_
          refine X_istore (ls' := [(0, .ref _), (1, .int _), (2, .int _), (3, .int _), (4, .int _), (5, .int _), (6, .int _)]) (show decode cX4_tryPaths 46 = .ok (.istore 6, 2) by decide +kernel) (by decide) rfl ?_
          refine X_aload_n (j := 0) (show decode cX4_tryPaths 48 = .ok (.aload_n 0, 1) by decide +kernel) rfl rfl ?_
          refine X_getR fl_X4_34 (show decode cX4_tryPaths 49 = .ok (.getfield 34, 3) by decide +kernel) s9 ?_
          refine X_iload_n (j := 1) (show decode cX4_tryPaths 52 = .ok (.iload_n 1, 1) by decide +kernel) rfl rfl ?_
          obtain ⟨s12, w⟩ := w
          obtain ⟨s13, w⟩ := w
          refine X_iald (show decode cX4_tryPaths 53 = .ok (.iaload, 1) by decide +kernel) (isA_eq s12) s13 ?_
          refine X_istore (ls' := [(0, .ref _), (1, .int _), (2, .int _), (3, .int _), (4, .int _), (5, .int _), (6, .int _), (7, .int _)]) (show decode cX4_tryPaths 54 = .ok (.istore 7, 2) by decide +kernel) (by decide) rfl ?_
          refine X_aload_n (j := 0) (show decode cX4_tryPaths 56 = .ok (.aload_n 0, 1) by decide +kernel) rfl rfl ?_
          refine X_iload (j := 6) (show decode cX4_tryPaths 57 = .ok (.iload 6, 2) by decide +kernel) rfl ?_
          refine X_iload_n (j := 2) (show decode cX4_tryPaths 59 = .ok (.iload_n 2, 1) by decide +kernel) rfl rfl ?_
          refine X_iload (j := 5) (show decode cX4_tryPaths 60 = .ok (.iload 5, 2) by decide +kernel) rfl ?_
          refine X_iload (j := 4) (show decode cX4_tryPaths 62 = .ok (.iload 4, 2) by decide +kernel) rfl ?_
          refine X_iconst (v := (nI 1)) (show decode cX4_tryPaths 64 = .ok (.iconst 1, 1) by decide +kernel) (by decide) ?_
          refine X_iadd (show decode cX4_tryPaths 65 = .ok (.iadd, 1) by decide +kernel) ?_
          refine X_sI (rc' := 0) (rs' := 0) (as := [.ref _, .int _, .int _, .int _, .int _]) ms_X4_103 (show decode cX4_tryPaths 66 = .ok (.invokestatic 103, 3) by decide +kernel) (Nat.le_refl _) (Nat.le_of_ble_eq_true rfl) (Nat.le_of_ble_eq_true rfl) rfl rfl (Nat.le_of_ble_eq_true rfl) (hrec _ _ _ _ _ _ _ w) (fun E h hk => hk.elim) (fun r15 h14 w => ?_)
          refine X_aload_n (j := 0) (show decode cX4_tryPaths 69 = .ok (.aload_n 0, 1) by decide +kernel) rfl rfl ?_
          refine X_iload (j := 6) (show decode cX4_tryPaths 70 = .ok (.iload 6, 2) by decide +kernel) rfl ?_
          obtain ⟨s24, w⟩ := w
          refine X_vI (rc' := 0) (rs' := 0) (as := [.int _]) mv_X4_109 (show decode cX4_tryPaths 72 = .ok (.invokevirtual 109, 3) by decide +kernel) (by omega) (Nat.le_of_ble_eq_true rfl) (Nat.le_of_ble_eq_true rfl) rfl rfl (Nat.le_of_ble_eq_true rfl) (rcvD s24 (by decide) rfl) (kX4_lengthOf w) (fun E h hk => hk.elim) (fun r17 h16 w => ?_)
          refine X_iadd (show decode cX4_tryPaths 75 = .ok (.iadd, 1) by decide +kernel) ?_
          refine X_istore (ls' := [(0, .ref _), (1, .int _), (2, .int _), (3, .int _), (4, .int _), (5, .int _), (6, .int _), (7, .int _), (8, .int _)]) (show decode cX4_tryPaths 76 = .ok (.istore 8, 2) by decide +kernel) (by decide) rfl ?_
          refine X_iload (j := 6) (show decode cX4_tryPaths 78 = .ok (.iload 6, 2) by decide +kernel) rfl ?_
          refine X_iload (j := 7) (show decode cX4_tryPaths 80 = .ok (.iload 7, 2) by decide +kernel) rfl ?_
          refine X_icmp_ne (tgt := 88) (show decode cX4_tryPaths 82 = .ok (.if_icmp .ne 6, 3) by decide +kernel) (by decide) ⟨fun c18 => ?_, fun c18 => ?_⟩
          · have w := w.1 c18
            refine X_aload_n (j := 0) (show decode cX4_tryPaths 88 = .ok (.aload_n 0, 1) by decide +kernel) rfl rfl ?_
            refine X_iload (j := 7) (show decode cX4_tryPaths 89 = .ok (.iload 7, 2) by decide +kernel) rfl ?_
            refine X_iload_n (j := 2) (show decode cX4_tryPaths 91 = .ok (.iload_n 2, 1) by decide +kernel) rfl rfl ?_
            refine X_iload (j := 5) (show decode cX4_tryPaths 92 = .ok (.iload 5, 2) by decide +kernel) rfl ?_
            refine X_iload (j := 4) (show decode cX4_tryPaths 94 = .ok (.iload 4, 2) by decide +kernel) rfl ?_
            refine X_iconst (v := (nI 1)) (show decode cX4_tryPaths 96 = .ok (.iconst 1, 1) by decide +kernel) (by decide) ?_
            refine X_iadd (show decode cX4_tryPaths 97 = .ok (.iadd, 1) by decide +kernel) ?_
            refine X_sI (rc' := 0) (rs' := 0) (as := [.ref _, .int _, .int _, .int _, .int _]) ms_X4_103 (show decode cX4_tryPaths 98 = .ok (.invokestatic 103, 3) by decide +kernel) (Nat.le_refl _) (Nat.le_of_ble_eq_true rfl) (Nat.le_of_ble_eq_true rfl) rfl rfl (Nat.le_of_ble_eq_true rfl) (hrec _ _ _ _ _ _ _ w) (fun E h hk => hk.elim) (fun r20 h19 w => ?_)
            refine X_aload_n (j := 0) (show decode cX4_tryPaths 101 = .ok (.aload_n 0, 1) by decide +kernel) rfl rfl ?_
            refine X_iload (j := 7) (show decode cX4_tryPaths 102 = .ok (.iload 7, 2) by decide +kernel) rfl ?_
            obtain ⟨s23, w⟩ := w
            refine X_vI (rc' := 0) (rs' := 0) (as := [.int _]) mv_X4_109 (show decode cX4_tryPaths 104 = .ok (.invokevirtual 109, 3) by decide +kernel) (by omega) (Nat.le_of_ble_eq_true rfl) (Nat.le_of_ble_eq_true rfl) rfl rfl (Nat.le_of_ble_eq_true rfl) (rcvD s23 (by decide) rfl) (kX4_lengthOf w) (fun E h hk => hk.elim) (fun r22 h21 w => ?_)
            refine X_iadd (show decode cX4_tryPaths 107 = .ok (.iadd, 1) by decide +kernel) ?_
            refine X_istore (ls' := [(0, .ref _), (1, .int _), (2, .int _), (3, .int _), (4, .int _), (5, .int _), (6, .int _), (7, .int _), (8, .int _), (9, .int _)]) (show decode cX4_tryPaths 108 = .ok (.istore 9, 2) by decide +kernel) (by decide) rfl ?_
            refine X_iload (j := 8) (show decode cX4_tryPaths 110 = .ok (.iload 8, 2) by decide +kernel) rfl ?_
            refine X_iload (j := 9) (show decode cX4_tryPaths 112 = .ok (.iload 9, 2) by decide +kernel) rfl ?_
            refine X_mmin (show decode cX4_tryPaths 114 = .ok (.invokestatic 112, 3) by decide +kernel) gl_X4_112 gst_min gin_Math gco_min (by omega) (Nat.le_of_ble_eq_true rfl) ?_
            exact X_iret ⟨(show decode cX4_tryPaths 117 = .ok (.ireturn, 1) by decide +kernel), .int, rfl, rfl⟩ ⟨_, rfl, w⟩
          · have w := w.2 c18
            refine X_iload (j := 8) (show decode cX4_tryPaths 85 = .ok (.iload 8, 2) by decide +kernel) rfl ?_
            exact X_iret ⟨(show decode cX4_tryPaths 87 = .ok (.ireturn, 1) by decide +kernel), .int, rfl, rfl⟩ ⟨_, rfl, w⟩
        · have w := w.2 c8
          refine X_ldc (v := (nI 1000000)) (show decode cX4_tryPaths 30 = .ok (.ldc 88, 2) by decide +kernel) gc_X4_88 ?_
          exact X_iret ⟨(show decode cX4_tryPaths 32 = .ok (.ireturn, 1) by decide +kernel), .int, rfl, rfl⟩ ⟨_, rfl, w⟩
  · have w := w.2 c1
    refine X_iconst (v := (nI 0)) (show decode cX4_tryPaths 5 = .ok (.iconst 0, 1) by decide +kernel) (by decide) ?_
    exact X_iret ⟨(show decode cX4_tryPaths 6 = .ok (.ireturn, 1) by decide +kernel), .int, rfl, rfl⟩ ⟨_, rfl, w⟩
theorem kX4_tryPaths : ∀ (d : Nat) (a0 : Nat) (a1 : Int32) (a2 : Int32) (a3 : Int32) (a4 : Int32) (h : AH) (K : Int32 → AH → Prop), wX4_tryPaths d a0 a1 a2 a3 a4 h K → Cn mX4_tryPaths (cwd mX4_tryPaths) (d + 2) 0 0 [.ref a0, .int a1, .int a2, .int a3, .int a4] h (KI K) T0
  | 0, _, _, _, _, _, _, _, w => w.elim
  | d + 1, a0, a1, a2, a3, a4, h, K, w => by
    have := kX4_tryPaths_b (d := d) (kX4_tryPaths d) w
    rw [show d + 1 + 2 = d + 3 by omega]
    exact this
set_option maxRecDepth 100000 in
set_option maxHeartbeats 4000000 in
theorem kX4_shortestPath {a0 : Nat} {a1 : Int32} {a2 : Int32} {h : AH} {K : Int32 → AH → Prop} (w : wX4_shortestPath a0 a1 a2 h K) : Cn mX4_shortestPath (cwd mX4_shortestPath) 17 0 0 [.ref a0, .int a1, .int a2] h (KI K) T0 := by
  refine Cn_of (by decide +kernel) rfl (Nat.le_of_ble_eq_true rfl) ?_
  show X mX4_shortestPath 17 (KI K) T0 0 0 0 [(0, .ref a0), (1, .int a1), (2, .int a2)] [] h
  unfold wX4_shortestPath at w
  refine X_aload_n (j := 0) (show decode cX4_shortestPath 0 = .ok (.aload_n 0, 1) by decide +kernel) rfl rfl ?_
  refine X_iload_n (j := 1) (show decode cX4_shortestPath 1 = .ok (.iload_n 1, 1) by decide +kernel) rfl rfl ?_
  refine X_iload_n (j := 2) (show decode cX4_shortestPath 2 = .ok (.iload_n 2, 1) by decide +kernel) rfl rfl ?_
  refine X_iconst (v := (nI 0)) (show decode cX4_shortestPath 3 = .ok (.iconst 0, 1) by decide +kernel) (by decide) ?_
  refine X_iconst (v := (nI 0)) (show decode cX4_shortestPath 4 = .ok (.iconst 0, 1) by decide +kernel) (by decide) ?_
  refine X_sI (rc' := 0) (rs' := 0) (as := [.ref _, .int _, .int _, .int _, .int _]) ms_X4_103 (show decode cX4_shortestPath 5 = .ok (.invokestatic 103, 3) by decide +kernel) (by decide) (Nat.le_of_ble_eq_true rfl) (Nat.le_of_ble_eq_true rfl) rfl rfl (Nat.le_of_ble_eq_true rfl) (kX4_tryPaths 14 _ _ _ _ _ _ _ w) (fun E h hk => hk.elim) (fun r2 h1 w => ?_)
  refine X_istore_n (ls' := [(0, .ref _), (1, .int _), (2, .int _), (3, .int _)]) (show decode cX4_shortestPath 8 = .ok (.istore_n 3, 1) by decide +kernel) rfl (by decide) rfl ?_
  refine X_iload_n (j := 3) (show decode cX4_shortestPath 9 = .ok (.iload_n 3, 1) by decide +kernel) rfl rfl ?_
  refine X_ldc (v := (nI 1000000)) (show decode cX4_shortestPath 10 = .ok (.ldc 88, 2) by decide +kernel) gc_X4_88 ?_
  refine X_icmp_lt (tgt := 19) (show decode cX4_shortestPath 12 = .ok (.if_icmp .lt 7, 3) by decide +kernel) (by decide) ⟨fun c3 => ?_, fun c3 => ?_⟩
  · have w := w.1 c3
    refine X_iload_n (j := 3) (show decode cX4_shortestPath 19 = .ok (.iload_n 3, 1) by decide +kernel) rfl rfl ?_
    exact X_iret ⟨(show decode cX4_shortestPath 20 = .ok (.ireturn, 1) by decide +kernel), .int, rfl, rfl⟩ ⟨_, rfl, w⟩
  · have w := w.2 c3
    refine X_iconst (v := (-1)) (show decode cX4_shortestPath 15 = .ok (.iconst (-1), 1) by decide +kernel) (by decide) ?_
    refine X_goto (tgt := 20) (show decode cX4_shortestPath 16 = .ok (.goto 4, 3) by decide +kernel) (by decide) ?_
    exact X_iret ⟨(show decode cX4_shortestPath 20 = .ok (.ireturn, 1) by decide +kernel), .int, rfl, rfl⟩ ⟨_, rfl, w⟩
set_option maxRecDepth 100000 in
set_option maxHeartbeats 4000000 in
theorem kX9_routeLengthByPaths {a0 : Nat} {a1 : Int32} {a2 : Int32} {h : AH} {K : Int32 → AH → Prop} {T : String → AH → Prop} (w : wX9_routeLengthByPaths a0 a1 a2 h K T) : Cn mX9_routeLengthByPaths (cwd mX9_routeLengthByPaths) 18 3 18 [.ref a0, .int a1, .int a2] h (KI K) T := by
  refine Cn_of (by decide +kernel) rfl (Nat.le_of_ble_eq_true rfl) ?_
  show X mX9_routeLengthByPaths 18 (KI K) T 3 18 0 [(0, .ref a0), (1, .int a1), (2, .int a2)] [] h
  unfold wX9_routeLengthByPaths at w
  refine X_aload_n (j := 0) (show decode cX9_routeLengthByPaths 0 = .ok (.aload_n 0, 1) by decide +kernel) rfl rfl ?_
  refine X_iload_n (j := 1) (show decode cX9_routeLengthByPaths 1 = .ok (.iload_n 1, 1) by decide +kernel) rfl rfl ?_
  obtain ⟨s12, w⟩ := w
  refine X_vV (rc' := 2) (rs' := 12) (as := [.int _]) mv_X9_117 (show decode cX9_routeLengthByPaths 2 = .ok (.invokevirtual 117, 3) by decide +kernel) (by decide) (Nat.le_of_ble_eq_true rfl) (Nat.le_of_ble_eq_true rfl) rfl rfl (Nat.le_of_ble_eq_true rfl) (rcvD s12 (by decide) rfl) (kX9_checkBlock w) (fun E h hk => XT_out hk (fun x hx => absurd hx List.not_mem_nil)) (fun h1 w => ?_)
  refine X_aload_n (j := 0) (show decode cX9_routeLengthByPaths 5 = .ok (.aload_n 0, 1) by decide +kernel) rfl rfl ?_
  refine X_iload_n (j := 2) (show decode cX9_routeLengthByPaths 6 = .ok (.iload_n 2, 1) by decide +kernel) rfl rfl ?_
  obtain ⟨s11, w⟩ := w
  refine X_vV (rc' := 1) (rs' := 6) (as := [.int _]) mv_X9_117 (show decode cX9_routeLengthByPaths 7 = .ok (.invokevirtual 117, 3) by decide +kernel) (by decide) (Nat.le_of_ble_eq_true rfl) (Nat.le_of_ble_eq_true rfl) rfl rfl (Nat.le_of_ble_eq_true rfl) (rcvD s11 (by decide) rfl) (kX9_checkBlock w) (fun E h hk => XT_out hk (fun x hx => absurd hx List.not_mem_nil)) (fun h3 w => ?_)
  refine X_aload_n (j := 0) (show decode cX9_routeLengthByPaths 10 = .ok (.aload_n 0, 1) by decide +kernel) rfl rfl ?_
  obtain ⟨s5, w⟩ := w
  refine X_getR fl_X9_12 (show decode cX9_routeLengthByPaths 11 = .ok (.getfield 12, 3) by decide +kernel) s5 ?_
  obtain ⟨s6, w⟩ := w
  refine X_getR fl_X9_72 (show decode cX9_routeLengthByPaths 14 = .ok (.getfield 72, 3) by decide +kernel) s6 ?_
  refine X_iload_n (j := 1) (show decode cX9_routeLengthByPaths 17 = .ok (.iload_n 1, 1) by decide +kernel) rfl rfl ?_
  refine X_iload_n (j := 2) (show decode cX9_routeLengthByPaths 18 = .ok (.iload_n 2, 1) by decide +kernel) rfl rfl ?_
  obtain ⟨s10, w⟩ := w
  refine X_vI (rc' := 1) (rs' := 6) (as := [.int _, .int _]) mv_X9_160 (show decode cX9_routeLengthByPaths 19 = .ok (.invokevirtual 160, 3) by decide +kernel) (by decide) (Nat.le_of_ble_eq_true rfl) (Nat.le_of_ble_eq_true rfl) rfl rfl (Nat.le_of_ble_eq_true rfl) (rcvD s10 (by decide) rfl) (kX4_shortestPath w) (fun E h hk => hk.elim) (fun r8 h7 w => ?_)
  refine X_istore_n (ls' := [(0, .ref _), (1, .int _), (2, .int _), (3, .int _)]) (show decode cX9_routeLengthByPaths 22 = .ok (.istore_n 3, 1) by decide +kernel) rfl (by decide) rfl ?_
  refine X_iload_n (j := 3) (show decode cX9_routeLengthByPaths 23 = .ok (.iload_n 3, 1) by decide +kernel) rfl rfl ?_
  refine X_iconst (v := (-1)) (show decode cX9_routeLengthByPaths 24 = .ok (.iconst (-1), 1) by decide +kernel) (by decide) ?_
  refine X_icmp_ne (tgt := 38) (show decode cX9_routeLengthByPaths 25 = .ok (.if_icmp .ne 13, 3) by decide +kernel) (by decide) ⟨fun c9 => ?_, fun c9 => ?_⟩
  · have w := w.1 c9
    refine X_iload_n (j := 3) (show decode cX9_routeLengthByPaths 38 = .ok (.iload_n 3, 1) by decide +kernel) rfl rfl ?_
    exact X_iret ⟨(show decode cX9_routeLengthByPaths 39 = .ok (.ireturn, 1) by decide +kernel), .int, rfl, rfl⟩ ⟨_, rfl, w⟩
  · have w := w.2 c9
    exact X_throwN (w := 0) tn_X9_131_163 (show decode cX9_routeLengthByPaths 28 = .ok (.new 131, 3) by decide +kernel) (show decode cX9_routeLengthByPaths 31 = .ok (.dup, 1) by decide +kernel) (Or.inl ⟨rfl, (show decode cX9_routeLengthByPaths 32 = .ok (.ldc 163, 2) by decide +kernel)⟩) (show decode cX9_routeLengthByPaths 34 = .ok (.invokespecial 135, 3) by decide +kernel) (show decode cX9_routeLengthByPaths 37 = .ok (.athrow, 1) by decide +kernel) (fun x hx => absurd hx List.not_mem_nil) (by decide) (Nat.le_of_ble_eq_true rfl) (Nat.le_of_ble_eq_true rfl) (Nat.le_of_ble_eq_true rfl) w
set_option maxRecDepth 100000 in
set_option maxHeartbeats 4000000 in
theorem kX4_blockOnRoute_L18 {K : Int32 → AH → Prop}    : ∀ (n : Nat) (x0 : Nat) (x2 : Int32) (x3 : Int32) (x4 : Int32) (x5 : Int32) (h : AH), wX4_blockOnRoute_L18 K   n x0 x2 x3 x4 x5 h → X mX4_blockOnRoute 3 (KI K) T0 0 0 18 [(0, .ref x0), (2, .int x2), (3, .int x3), (4, .int x4), (5, .int x5)] [] h := by
  intro n
  induction n with
  | zero => intro _ _ _ _ _ _ w; exact w.elim
  | succ n ih =>
    intro x0 x2 x3 x4 x5 h w
    rw [wX4_blockOnRoute_L18] at w
    refine X_iload (j := 4) (show decode cX4_blockOnRoute 18 = .ok (.iload 5, 2) by decide +kernel) rfl ?_
    refine X_iload_n (j := 2) (show decode cX4_blockOnRoute 20 = .ok (.iload_n 3, 1) by decide +kernel) rfl rfl ?_
    refine X_icmp_ge (tgt := 39) (show decode cX4_blockOnRoute 21 = .ok (.if_icmp .ge 18, 3) by decide +kernel) (by decide) ⟨fun c3 => ?_, fun c3 => ?_⟩
    · have w := w.1 c3
      refine X_iload (j := 3) (show decode cX4_blockOnRoute 39 = .ok (.iload 4, 2) by decide +kernel) rfl ?_
      exact X_iret ⟨(show decode cX4_blockOnRoute 41 = .ok (.ireturn, 1) by decide +kernel), .int, rfl, rfl⟩ ⟨_, rfl, w⟩
    · have w := w.2 c3
      refine X_aload_n (j := 0) (show decode cX4_blockOnRoute 24 = .ok (.aload_n 0, 1) by decide +kernel) rfl rfl ?_
      refine X_iload (j := 3) (show decode cX4_blockOnRoute 25 = .ok (.iload 4, 2) by decide +kernel) rfl ?_
      refine X_iload_n (j := 1) (show decode cX4_blockOnRoute 27 = .ok (.iload_n 2, 1) by decide +kernel) rfl rfl ?_
      obtain ⟨s6, w⟩ := w
      refine X_vI (rc' := 0) (rs' := 0) (as := [.int _, .int _]) mv_X4_95 (show decode cX4_blockOnRoute 28 = .ok (.invokevirtual 95, 3) by decide +kernel) (by decide) (Nat.le_of_ble_eq_true rfl) (Nat.le_of_ble_eq_true rfl) rfl rfl (Nat.le_of_ble_eq_true rfl) (rcvD s6 (by decide) rfl) (kX4_nextOnRoute w) (fun E h hk => hk.elim) (fun r5 h4 w => ?_)
      refine X_istore (ls' := [(0, .ref _), (2, .int _), (3, .int _), (4, .int _), (5, .int _)]) (show decode cX4_blockOnRoute 31 = .ok (.istore 4, 2) by decide +kernel) (by decide) rfl ?_
      refine X_iinc (j := 4) (v := _ + (nI 1)) (ls' := [(0, .ref _), (2, .int _), (3, .int _), (4, .int _), (5, .int _)]) (show decode cX4_blockOnRoute 33 = .ok (.iinc 5 1, 3) by decide +kernel) rfl rfl (Nat.le_of_ble_eq_true rfl) rfl ?_
      refine X_goto (tgt := 18) (show decode cX4_blockOnRoute 36 = .ok (.goto (-18), 3) by decide +kernel) (by decide) ?_
      exact ih _ _ _ _ _ _ w
set_option maxRecDepth 100000 in
set_option maxHeartbeats 4000000 in
theorem kX4_blockOnRoute {a0 : Nat} {a1 : Int32} {a2 : Int32} {a3 : Int32} {h : AH} {K : Int32 → AH → Prop} (w : wX4_blockOnRoute a0 a1 a2 a3 h K) : Cn mX4_blockOnRoute (cwd mX4_blockOnRoute) 3 0 0 [.ref a0, .int a1, .int a2, .int a3] h (KI K) T0 := by
  refine Cn_of (by decide +kernel) rfl (Nat.le_of_ble_eq_true rfl) ?_
  show X mX4_blockOnRoute 3 (KI K) T0 0 0 0 [(0, .ref a0), (1, .int a1), (2, .int a2), (3, .int a3)] [] h
  unfold wX4_blockOnRoute at w
  refine X_iload_n (j := 3) (show decode cX4_blockOnRoute 0 = .ok (.iload_n 3, 1) by decide +kernel) rfl rfl ?_
  refine X_if_lt (tgt := 10) (show decode cX4_blockOnRoute 1 = .ok (.ifCond .lt 9, 3) by decide +kernel) (by decide) ⟨fun c1 => ?_, fun c1 => ?_⟩
  · have w := w.1 c1
    refine X_iconst (v := (-1)) (show decode cX4_blockOnRoute 10 = .ok (.iconst (-1), 1) by decide +kernel) (by decide) ?_
    exact X_iret ⟨(show decode cX4_blockOnRoute 11 = .ok (.ireturn, 1) by decide +kernel), .int, rfl, rfl⟩ ⟨_, rfl, w⟩
  · have w := w.2 c1
    refine X_iload_n (j := 3) (show decode cX4_blockOnRoute 4 = .ok (.iload_n 3, 1) by decide +kernel) rfl rfl ?_
    refine X_bipush (v := (nI 12)) (show decode cX4_blockOnRoute 5 = .ok (.bipush 12, 2) by decide +kernel) (by decide) ?_
    refine X_icmp_lt (tgt := 12) (show decode cX4_blockOnRoute 7 = .ok (.if_icmp .lt 5, 3) by decide +kernel) (by decide) ⟨fun c2 => ?_, fun c2 => ?_⟩
    · have w := w.1 c2
      refine X_iload_n (j := 1) (show decode cX4_blockOnRoute 12 = .ok (.iload_n 1, 1) by decide +kernel) rfl rfl ?_
      refine X_istore (ls' := [(0, .ref _), (1, .int _), (2, .int _), (3, .int _), (4, .int _)]) (show decode cX4_blockOnRoute 13 = .ok (.istore 4, 2) by decide +kernel) (by decide) rfl ?_
      refine X_iconst (v := (nI 0)) (show decode cX4_blockOnRoute 15 = .ok (.iconst 0, 1) by decide +kernel) (by decide) ?_
      refine X_istore (ls' := [(0, .ref _), (1, .int _), (2, .int _), (3, .int _), (4, .int _), (5, .int _)]) (show decode cX4_blockOnRoute 16 = .ok (.istore 5, 2) by decide +kernel) (by decide) rfl ?_
      refine X_pick (ls' := [(0, .ref _), (2, .int _), (3, .int _), (4, .int _), (5, .int _)]) [0, 2, 3, 4, 5] rfl ?_
      obtain ⟨n7, w⟩ := w
      exact kX4_blockOnRoute_L18  n7 _ _ _ _ _ _ w
    · have w := w.2 c2
      refine X_iconst (v := (-1)) (show decode cX4_blockOnRoute 10 = .ok (.iconst (-1), 1) by decide +kernel) (by decide) ?_
      exact X_iret ⟨(show decode cX4_blockOnRoute 11 = .ok (.ireturn, 1) by decide +kernel), .int, rfl, rfl⟩ ⟨_, rfl, w⟩
set_option maxRecDepth 100000 in
set_option maxHeartbeats 4000000 in
theorem kX9_routeBlock {a0 : Nat} {a1 : Int32} {a2 : Int32} {a3 : Int32} {h : AH} {K : Int32 → AH → Prop} {T : String → AH → Prop} (w : wX9_routeBlock a0 a1 a2 a3 h K T) : Cn mX9_routeBlock (cwd mX9_routeBlock) 10 4 24 [.ref a0, .int a1, .int a2, .int a3] h (KI K) T := by
  refine Cn_of (by decide +kernel) rfl (Nat.le_of_ble_eq_true rfl) ?_
  show X mX9_routeBlock 10 (KI K) T 4 24 0 [(0, .ref a0), (1, .int a1), (2, .int a2), (3, .int a3)] [] h
  unfold wX9_routeBlock at w
  refine X_aload_n (j := 0) (show decode cX9_routeBlock 0 = .ok (.aload_n 0, 1) by decide +kernel) rfl rfl ?_
  refine X_iload_n (j := 1) (show decode cX9_routeBlock 1 = .ok (.iload_n 1, 1) by decide +kernel) rfl rfl ?_
  refine X_iload_n (j := 2) (show decode cX9_routeBlock 2 = .ok (.iload_n 2, 1) by decide +kernel) rfl rfl ?_
  obtain ⟨s9, w⟩ := w
  refine X_vV (rc' := 1) (rs' := 6) (as := [.int _, .int _]) mv_X9_150 (show decode cX9_routeBlock 3 = .ok (.invokevirtual 150, 3) by decide +kernel) (by decide) (Nat.le_of_ble_eq_true rfl) (Nat.le_of_ble_eq_true rfl) rfl rfl (Nat.le_of_ble_eq_true rfl) (rcvD s9 (by decide) rfl) (kX9_checkRoute w) (fun E h hk => XT_out hk (fun x hx => absurd hx List.not_mem_nil)) (fun h1 w => ?_)
  refine X_aload_n (j := 0) (show decode cX9_routeBlock 6 = .ok (.aload_n 0, 1) by decide +kernel) rfl rfl ?_
  obtain ⟨s3, w⟩ := w
  refine X_getR fl_X9_12 (show decode cX9_routeBlock 7 = .ok (.getfield 12, 3) by decide +kernel) s3 ?_
  obtain ⟨s4, w⟩ := w
  refine X_getR fl_X9_72 (show decode cX9_routeBlock 10 = .ok (.getfield 72, 3) by decide +kernel) s4 ?_
  refine X_iload_n (j := 1) (show decode cX9_routeBlock 13 = .ok (.iload_n 1, 1) by decide +kernel) rfl rfl ?_
  refine X_iload_n (j := 2) (show decode cX9_routeBlock 14 = .ok (.iload_n 2, 1) by decide +kernel) rfl rfl ?_
  refine X_iload_n (j := 3) (show decode cX9_routeBlock 15 = .ok (.iload_n 3, 1) by decide +kernel) rfl rfl ?_
  obtain ⟨s8, w⟩ := w
  refine X_vI (rc' := 1) (rs' := 6) (as := [.int _, .int _, .int _]) mv_X9_165 (show decode cX9_routeBlock 16 = .ok (.invokevirtual 165, 3) by decide +kernel) (by decide) (Nat.le_of_ble_eq_true rfl) (Nat.le_of_ble_eq_true rfl) rfl rfl (Nat.le_of_ble_eq_true rfl) (rcvD s8 (by decide) rfl) (kX4_blockOnRoute w) (fun E h hk => hk.elim) (fun r6 h5 w => ?_)
  refine X_istore (ls' := [(0, .ref _), (1, .int _), (2, .int _), (3, .int _), (4, .int _)]) (show decode cX9_routeBlock 19 = .ok (.istore 4, 2) by decide +kernel) (by decide) rfl ?_
  refine X_iload (j := 4) (show decode cX9_routeBlock 21 = .ok (.iload 4, 2) by decide +kernel) rfl ?_
  refine X_iconst (v := (-1)) (show decode cX9_routeBlock 23 = .ok (.iconst (-1), 1) by decide +kernel) (by decide) ?_
  refine X_icmp_ne (tgt := 37) (show decode cX9_routeBlock 24 = .ok (.if_icmp .ne 13, 3) by decide +kernel) (by decide) ⟨fun c7 => ?_, fun c7 => ?_⟩
  · have w := w.1 c7
    refine X_iload (j := 4) (show decode cX9_routeBlock 37 = .ok (.iload 4, 2) by decide +kernel) rfl ?_
    exact X_iret ⟨(show decode cX9_routeBlock 39 = .ok (.ireturn, 1) by decide +kernel), .int, rfl, rfl⟩ ⟨_, rfl, w⟩
  · have w := w.2 c7
    exact X_throwN (w := 0) tn_X9_131_168 (show decode cX9_routeBlock 27 = .ok (.new 131, 3) by decide +kernel) (show decode cX9_routeBlock 30 = .ok (.dup, 1) by decide +kernel) (Or.inl ⟨rfl, (show decode cX9_routeBlock 31 = .ok (.ldc 168, 2) by decide +kernel)⟩) (show decode cX9_routeBlock 33 = .ok (.invokespecial 135, 3) by decide +kernel) (show decode cX9_routeBlock 36 = .ok (.athrow, 1) by decide +kernel) (fun x hx => absurd hx List.not_mem_nil) (by decide) (Nat.le_of_ble_eq_true rfl) (Nat.le_of_ble_eq_true rfl) (Nat.le_of_ble_eq_true rfl) w
set_option maxRecDepth 100000 in
set_option maxHeartbeats 4000000 in
theorem kX4_isStem {a0 : Nat} {a1 : Int32} {h : AH} {K : Int32 → AH → Prop} (w : wX4_isStem a0 a1 h K) : Cn mX4_isStem (cwd mX4_isStem) 2 0 0 [.ref a0, .int a1] h (KI K) T0 := by
  refine Cn_of (by decide +kernel) rfl (Nat.le_of_ble_eq_true rfl) ?_
  show X mX4_isStem 2 (KI K) T0 0 0 0 [(0, .ref a0), (1, .int a1)] [] h
  unfold wX4_isStem at w
  refine X_aload_n (j := 0) (show decode cX4_isStem 0 = .ok (.aload_n 0, 1) by decide +kernel) rfl rfl ?_
  refine X_iload_n (j := 1) (show decode cX4_isStem 1 = .ok (.iload_n 1, 1) by decide +kernel) rfl rfl ?_
  obtain ⟨s10, w⟩ := w
  refine X_vI (rc' := 0) (rs' := 0) (as := [.int _]) mv_X4_57 (show decode cX4_isStem 2 = .ok (.invokevirtual 57, 3) by decide +kernel) (by decide) (Nat.le_of_ble_eq_true rfl) (Nat.le_of_ble_eq_true rfl) rfl rfl (Nat.le_of_ble_eq_true rfl) (rcvD s10 (by decide) rfl) (kX4_has w) (fun E h hk => hk.elim) (fun r2 h1 w => ?_)
  refine X_if_eq (tgt := 27) (show decode cX4_isStem 5 = .ok (.ifCond .eq 22, 3) by decide +kernel) (by decide) ⟨fun c3 => ?_, fun c3 => ?_⟩
  · have w := w.1 c3
    refine X_iconst (v := (nI 0)) (show decode cX4_isStem 27 = .ok (.iconst 0, 1) by decide +kernel) (by decide) ?_
    exact X_iret ⟨(show decode cX4_isStem 28 = .ok (.ireturn, 1) by decide +kernel), .boolean, rfl, (by decide)⟩ ⟨_, rfl, w⟩
  · have w := w.2 c3
    refine X_aload_n (j := 0) (show decode cX4_isStem 8 = .ok (.aload_n 0, 1) by decide +kernel) rfl rfl ?_
    obtain ⟨s4, w⟩ := w
    refine X_getR fl_X4_31 (show decode cX4_isStem 9 = .ok (.getfield 31, 3) by decide +kernel) s4 ?_
    refine X_iload_n (j := 1) (show decode cX4_isStem 12 = .ok (.iload_n 1, 1) by decide +kernel) rfl rfl ?_
    obtain ⟨s5, w⟩ := w
    obtain ⟨s6, w⟩ := w
    refine X_iald (show decode cX4_isStem 13 = .ok (.iaload, 1) by decide +kernel) (isA_eq s5) s6 ?_
    refine X_aload_n (j := 0) (show decode cX4_isStem 14 = .ok (.aload_n 0, 1) by decide +kernel) rfl rfl ?_
    refine X_getR fl_X4_34 (show decode cX4_isStem 15 = .ok (.getfield 34, 3) by decide +kernel) s4 ?_
    refine X_iload_n (j := 1) (show decode cX4_isStem 18 = .ok (.iload_n 1, 1) by decide +kernel) rfl rfl ?_
    obtain ⟨s7, w⟩ := w
    obtain ⟨s8, w⟩ := w
    refine X_iald (show decode cX4_isStem 19 = .ok (.iaload, 1) by decide +kernel) (isA_eq s7) s8 ?_
    refine X_icmp_eq (tgt := 27) (show decode cX4_isStem 20 = .ok (.if_icmp .eq 7, 3) by decide +kernel) (by decide) ⟨fun c9 => ?_, fun c9 => ?_⟩
    · have w := w.1 c9
      refine X_iconst (v := (nI 0)) (show decode cX4_isStem 27 = .ok (.iconst 0, 1) by decide +kernel) (by decide) ?_
      exact X_iret ⟨(show decode cX4_isStem 28 = .ok (.ireturn, 1) by decide +kernel), .boolean, rfl, (by decide)⟩ ⟨_, rfl, w⟩
    · have w := w.2 c9
      refine X_iconst (v := (nI 1)) (show decode cX4_isStem 23 = .ok (.iconst 1, 1) by decide +kernel) (by decide) ?_
      refine X_goto (tgt := 28) (show decode cX4_isStem 24 = .ok (.goto 4, 3) by decide +kernel) (by decide) ?_
      exact X_iret ⟨(show decode cX4_isStem 28 = .ok (.ireturn, 1) by decide +kernel), .boolean, rfl, (by decide)⟩ ⟨_, rfl, w⟩
set_option maxRecDepth 100000 in
set_option maxHeartbeats 4000000 in
theorem kX4_countPaths_b {d : Nat} {rec : Nat → Int32 → Int32 → Int32 → Int32 → AH → (Int32 → AH → Prop) → Prop} (hrec : ∀ b0 b1 b2 b3 b4 h K, rec b0 b1 b2 b3 b4 h K → Cn mX4_countPaths (cwd mX4_countPaths) (d + 2) 0 0 [.ref b0, .int b1, .int b2, .int b3, .int b4] h (KI K) T0) {a0 : Nat} {a1 : Int32} {a2 : Int32} {a3 : Int32} {a4 : Int32} {h : AH} {K : Int32 → AH → Prop} (w : wX4_countPaths_b rec a0 a1 a2 a3 a4 h K) : Cn mX4_countPaths (cwd mX4_countPaths) (d + 3) 0 0 [.ref a0, .int a1, .int a2, .int a3, .int a4] h (KI K) T0 := by
  refine Cn_of (by decide +kernel) rfl (Nat.le_of_ble_eq_true rfl) ?_
  show X mX4_countPaths (d + 3) (KI K) T0 0 0 0 [(0, .ref a0), (1, .int a1), (2, .int a2), (3, .int a3), (4, .int a4)] [] h
  unfold wX4_countPaths_b at w
  refine X_iload_n (j := 1) (show decode cX4_countPaths 0 = .ok (.iload_n 1, 1) by decide +kernel) rfl rfl ?_
  refine X_iload_n (j := 2) (show decode cX4_countPaths 1 = .ok (.iload_n 2, 1) by decide +kernel) rfl rfl ?_
  refine X_icmp_ne (tgt := 7) (show decode cX4_countPaths 2 = .ok (.if_icmp .ne 5, 3) by decide +kernel) (by decide) ⟨fun c1 => ?_, fun c1 => ?_⟩
  · have w := w.1 c1
    refine X_iload (j := 4) (show decode cX4_countPaths 7 = .ok (.iload 4, 2) by decide +kernel) rfl ?_
    refine X_bipush (v := (nI 12)) (show decode cX4_countPaths 9 = .ok (.bipush 12, 2) by decide +kernel) (by decide) ?_
    refine X_icmp_ge (tgt := 30) (show decode cX4_countPaths 11 = .ok (.if_icmp .ge 19, 3) by decide +kernel) (by decide) ⟨fun c2 => ?_, fun c2 => ?_⟩
    · have w := w.1 c2
      refine X_iconst (v := (nI 0)) (show decode cX4_countPaths 30 = .ok (.iconst 0, 1) by decide +kernel) (by decide) ?_
      exact X_iret ⟨(show decode cX4_countPaths 31 = .ok (.ireturn, 1) by decide +kernel), .int, rfl, rfl⟩ ⟨_, rfl, w⟩
    · have w := w.2 c2
      refine X_aload_n (j := 0) (show decode cX4_countPaths 14 = .ok (.aload_n 0, 1) by decide +kernel) rfl rfl ?_
      refine X_iload_n (j := 1) (show decode cX4_countPaths 15 = .ok (.iload_n 1, 1) by decide +kernel) rfl rfl ?_
      obtain ⟨s23, w⟩ := w
      refine X_vI (rc' := 0) (rs' := 0) (as := [.int _]) mv_X4_75 (show decode cX4_countPaths 16 = .ok (.invokevirtual 75, 3) by decide +kernel) (by omega) (Nat.le_of_ble_eq_true rfl) (Nat.le_of_ble_eq_true rfl) rfl rfl (Nat.le_of_ble_eq_true rfl) (rcvD s23 (by decide) rfl) (kX4_hasExit w) (fun E h hk => hk.elim) (fun r4 h3 w => ?_)
      refine X_if_eq (tgt := 30) (show decode cX4_countPaths 19 = .ok (.ifCond .eq 11, 3) by decide +kernel) (by decide) ⟨fun c5 => ?_, fun c5 => ?_⟩
      · have w := w.1 c5
        refine X_iconst (v := (nI 0)) (show decode cX4_countPaths 30 = .ok (.iconst 0, 1) by decide +kernel) (by decide) ?_
        exact X_iret ⟨(show decode cX4_countPaths 31 = .ok (.ireturn, 1) by decide +kernel), .int, rfl, rfl⟩ ⟨_, rfl, w⟩
      · have w := w.2 c5
        refine X_iload_n (j := 3) (show decode cX4_countPaths 22 = .ok (.iload_n 3, 1) by decide +kernel) rfl rfl ?_
        refine X_iload_n (j := 1) (show decode cX4_countPaths 23 = .ok (.iload_n 1, 1) by decide +kernel) rfl rfl ?_
        refine X_nI (rc' := 0) (rs' := 0) (as := [.int _, .int _]) msn_X4_68 (show decode cX4_countPaths 24 = .ok (.invokestatic 68, 3) by decide +kernel) (by omega) (Nat.le_of_ble_eq_true rfl) (Nat.le_of_ble_eq_true rfl) rfl rfl (Nat.le_of_ble_eq_true rfl) (kX9_contains w) (fun r7 h6 w => ?_)
        refine X_if_eq (tgt := 32) (show decode cX4_countPaths 27 = .ok (.ifCond .eq 5, 3) by decide +kernel) (by decide) ⟨fun c8 => ?_, fun c8 => ?_⟩
        · have w := w.1 c8
          refine X_iload_n (j := 3) (show decode cX4_countPaths 32 = .ok (.iload_n 3, 1) by decide +kernel) rfl rfl ?_
          refine X_iconst (v := (nI 1)) (show decode cX4_countPaths 33 = .ok (.iconst 1, 1) by decide +kernel) (by decide) ?_
          refine X_iload_n (j := 1) (show decode cX4_countPaths 34 = .ok (.iload_n 1, 1) by decide +kernel) rfl rfl ?_
          refine X_ishl (show decode cX4_countPaths 35 = .ok (.ishl, 1) by decide +kernel) ?_
          refine X_ior (show decode cX4_countPaths 36 = .ok (.ior, 1) by decide +kernel) ?_
          refine X_istore (ls' := [(0, .ref _), (1, .int _), (2, .int _), (3, .int _), (4, .int _), (5, .int _)]) (show decode cX4_countPaths 37 = .ok (.istore 5, 2) by decide +kernel) (by decide) rfl ?_
          refine X_aload_n (j := 0) (show decode cX4_countPaths 39 = .ok (.aload_n 0, 1) by decide +kernel) rfl rfl ?_
          refine X_aload_n (j := 0) (show decode cX4_countPaths 40 = .ok (.aload_n 0, 1) by decide +kernel) rfl rfl ?_
          obtain ⟨s9, w⟩ := w
          refine X_getR fl_X4_31 (show decode cX4_countPaths 41 = .ok (.getfield 31, 3) by decide +kernel) s9 ?_
          refine X_iload_n (j := 1) (show decode cX4_countPaths 44 = .ok (.iload_n 1, 1) by decide +kernel) rfl rfl ?_
          obtain ⟨s10, w⟩ := w
          obtain ⟨s11, w⟩ := w
          refine X_iald (show decode cX4_countPaths 45 = .ok (.iaload, 1) by decide +kernel) (isA_eq s10) s11 ?_
          refine X_iload_n (j := 2) (show decode cX4_countPaths 46 = .ok (.iload_n 2, 1) by decide +kernel) rfl rfl ?_
          refine X_iload (j := 5) (show decode cX4_countPaths 47 = .ok (.iload 5, 2) by decide +kernel) rfl ?_
          refine X_iload (j := 4) (show decode cX4_countPaths 49 = .ok (.iload 4, 2) by decide +kernel) rfl ?_
          refine X_iconst (v := (nI 1)) (show decode cX4_countPaths 51 = .ok (.iconst 1, 1) by decide +kernel) (by decide) ?_
          refine X_iadd (show decode cX4_countPaths 52 = .ok (.iadd, 1) by decide +kernel) ?_
          refine X_sI (rc' := 0) (rs' := 0) (as := [.ref _, .int _, .int _, .int _, .int _]) ms_X4_99 (show decode cX4_countPaths 53 = .ok (.invokestatic 99, 3) by decide +kernel) (Nat.le_refl _) (Nat.le_of_ble_eq_true rfl) (Nat.le_of_ble_eq_true rfl) rfl rfl (Nat.le_of_ble_eq_true rfl) (hrec _ _ _ _ _ _ _ w) (fun E h hk => hk.elim) (fun r13 h12 w => ?_)
          refine X_istore (ls' := [(0, .ref _), (1, .int _), (2, .int _), (3, .int _), (4, .int _), (5, .int _), (6, .int _)]) (show decode cX4_countPaths 56 = .ok (.istore 6, 2) by decide +kernel) (by decide) rfl ?_
          refine X_aload_n (j := 0) (show decode cX4_countPaths 58 = .ok (.aload_n 0, 1) by decide +kernel) rfl rfl ?_
          refine X_iload_n (j := 1) (show decode cX4_countPaths 59 = .ok (.iload_n 1, 1) by decide +kernel) rfl rfl ?_
          obtain ⟨s22, w⟩ := w
          refine X_vI (rc' := 0) (rs' := 0) (as := [.int _]) mv_X4_106 (show decode cX4_countPaths 60 = .ok (.invokevirtual 106, 3) by decide +kernel) (by omega) (Nat.le_of_ble_eq_true rfl) (Nat.le_of_ble_eq_true rfl) rfl rfl (Nat.le_of_ble_eq_true rfl) (rcvD s22 (by decide) rfl) (kX4_isStem w) (fun E h hk => hk.elim) (fun r15 h14 w => ?_)
          refine X_if_eq (tgt := 88) (show decode cX4_countPaths 63 = .ok (.ifCond .eq 25, 3) by decide +kernel) (by decide) ⟨fun c16 => ?_, fun c16 => ?_⟩
          · have w := w.1 c16
            refine X_iload (j := 6) (show decode cX4_countPaths 88 = .ok (.iload 6, 2) by decide +kernel) rfl ?_
            exact X_iret ⟨(show decode cX4_countPaths 90 = .ok (.ireturn, 1) by decide +kernel), .int, rfl, rfl⟩ ⟨_, rfl, w⟩
          · have w := w.2 c16
            refine X_iload (j := 6) (show decode cX4_countPaths 66 = .ok (.iload 6, 2) by decide +kernel) rfl ?_
            refine X_aload_n (j := 0) (show decode cX4_countPaths 68 = .ok (.aload_n 0, 1) by decide +kernel) rfl rfl ?_
            refine X_aload_n (j := 0) (show decode cX4_countPaths 69 = .ok (.aload_n 0, 1) by decide +kernel) rfl rfl ?_
            obtain ⟨s17, w⟩ := w
            refine X_getR fl_X4_34 (show decode cX4_countPaths 70 = .ok (.getfield 34, 3) by decide +kernel) s17 ?_
            refine X_iload_n (j := 1) (show decode cX4_countPaths 73 = .ok (.iload_n 1, 1) by decide +kernel) rfl rfl ?_
            obtain ⟨s18, w⟩ := w
            obtain ⟨s19, w⟩ := w
            refine X_iald (show decode cX4_countPaths 74 = .ok (.iaload, 1) by decide +kernel) (isA_eq s18) s19 ?_
            refine X_iload_n (j := 2) (show decode cX4_countPaths 75 = .ok (.iload_n 2, 1) by decide +kernel) rfl rfl ?_
            refine X_iload (j := 5) (show decode cX4_countPaths 76 = .ok (.iload 5, 2) by decide +kernel) rfl ?_
            refine X_iload (j := 4) (show decode cX4_countPaths 78 = .ok (.iload 4, 2) by decide +kernel) rfl ?_
            refine X_iconst (v := (nI 1)) (show decode cX4_countPaths 80 = .ok (.iconst 1, 1) by decide +kernel) (by decide) ?_
            refine X_iadd (show decode cX4_countPaths 81 = .ok (.iadd, 1) by decide +kernel) ?_
            refine X_sI (rc' := 0) (rs' := 0) (as := [.ref _, .int _, .int _, .int _, .int _]) ms_X4_99 (show decode cX4_countPaths 82 = .ok (.invokestatic 99, 3) by decide +kernel) (Nat.le_refl _) (Nat.le_of_ble_eq_true rfl) (Nat.le_of_ble_eq_true rfl) rfl rfl (Nat.le_of_ble_eq_true rfl) (hrec _ _ _ _ _ _ _ w) (fun E h hk => hk.elim) (fun r21 h20 w => ?_)
            refine X_iadd (show decode cX4_countPaths 85 = .ok (.iadd, 1) by decide +kernel) ?_
            refine X_istore (ls' := [(0, .ref _), (1, .int _), (2, .int _), (3, .int _), (4, .int _), (5, .int _), (6, .int _)]) (show decode cX4_countPaths 86 = .ok (.istore 6, 2) by decide +kernel) (by decide) rfl ?_
            refine X_iload (j := 6) (show decode cX4_countPaths 88 = .ok (.iload 6, 2) by decide +kernel) rfl ?_
            exact X_iret ⟨(show decode cX4_countPaths 90 = .ok (.ireturn, 1) by decide +kernel), .int, rfl, rfl⟩ ⟨_, rfl, w⟩
        · have w := w.2 c8
          refine X_iconst (v := (nI 0)) (show decode cX4_countPaths 30 = .ok (.iconst 0, 1) by decide +kernel) (by decide) ?_
          exact X_iret ⟨(show decode cX4_countPaths 31 = .ok (.ireturn, 1) by decide +kernel), .int, rfl, rfl⟩ ⟨_, rfl, w⟩
  · have w := w.2 c1
    refine X_iconst (v := (nI 1)) (show decode cX4_countPaths 5 = .ok (.iconst 1, 1) by decide +kernel) (by decide) ?_
    exact X_iret ⟨(show decode cX4_countPaths 6 = .ok (.ireturn, 1) by decide +kernel), .int, rfl, rfl⟩ ⟨_, rfl, w⟩
theorem kX4_countPaths : ∀ (d : Nat) (a0 : Nat) (a1 : Int32) (a2 : Int32) (a3 : Int32) (a4 : Int32) (h : AH) (K : Int32 → AH → Prop), wX4_countPaths d a0 a1 a2 a3 a4 h K → Cn mX4_countPaths (cwd mX4_countPaths) (d + 2) 0 0 [.ref a0, .int a1, .int a2, .int a3, .int a4] h (KI K) T0
  | 0, _, _, _, _, _, _, _, w => w.elim
  | d + 1, a0, a1, a2, a3, a4, h, K, w => by
    have := kX4_countPaths_b (d := d) (kX4_countPaths d) w
    rw [show d + 1 + 2 = d + 3 by omega]
    exact this
set_option maxRecDepth 100000 in
set_option maxHeartbeats 4000000 in
theorem kX4_numberOfPaths {a0 : Nat} {a1 : Int32} {a2 : Int32} {h : AH} {K : Int32 → AH → Prop} (w : wX4_numberOfPaths a0 a1 a2 h K) : Cn mX4_numberOfPaths (cwd mX4_numberOfPaths) 17 0 0 [.ref a0, .int a1, .int a2] h (KI K) T0 := by
  refine Cn_of (by decide +kernel) rfl (Nat.le_of_ble_eq_true rfl) ?_
  show X mX4_numberOfPaths 17 (KI K) T0 0 0 0 [(0, .ref a0), (1, .int a1), (2, .int a2)] [] h
  unfold wX4_numberOfPaths at w
  refine X_aload_n (j := 0) (show decode cX4_numberOfPaths 0 = .ok (.aload_n 0, 1) by decide +kernel) rfl rfl ?_
  refine X_iload_n (j := 1) (show decode cX4_numberOfPaths 1 = .ok (.iload_n 1, 1) by decide +kernel) rfl rfl ?_
  refine X_iload_n (j := 2) (show decode cX4_numberOfPaths 2 = .ok (.iload_n 2, 1) by decide +kernel) rfl rfl ?_
  refine X_iconst (v := (nI 0)) (show decode cX4_numberOfPaths 3 = .ok (.iconst 0, 1) by decide +kernel) (by decide) ?_
  refine X_iconst (v := (nI 0)) (show decode cX4_numberOfPaths 4 = .ok (.iconst 0, 1) by decide +kernel) (by decide) ?_
  refine X_sI (rc' := 0) (rs' := 0) (as := [.ref _, .int _, .int _, .int _, .int _]) ms_X4_99 (show decode cX4_numberOfPaths 5 = .ok (.invokestatic 99, 3) by decide +kernel) (by decide) (Nat.le_of_ble_eq_true rfl) (Nat.le_of_ble_eq_true rfl) rfl rfl (Nat.le_of_ble_eq_true rfl) (kX4_countPaths 14 _ _ _ _ _ _ _ w) (fun E h hk => hk.elim) (fun r2 h1 w => ?_)
  exact X_iret ⟨(show decode cX4_numberOfPaths 8 = .ok (.ireturn, 1) by decide +kernel), .int, rfl, rfl⟩ ⟨_, rfl, w⟩
set_option maxRecDepth 100000 in
set_option maxHeartbeats 4000000 in
theorem kX9_paths {a0 : Nat} {a1 : Int32} {a2 : Int32} {h : AH} {K : Int32 → AH → Prop} {T : String → AH → Prop} (w : wX9_paths a0 a1 a2 h K T) : Cn mX9_paths (cwd mX9_paths) 18 2 12 [.ref a0, .int a1, .int a2] h (KI K) T := by
  refine Cn_of (by decide +kernel) rfl (Nat.le_of_ble_eq_true rfl) ?_
  show X mX9_paths 18 (KI K) T 2 12 0 [(0, .ref a0), (1, .int a1), (2, .int a2)] [] h
  unfold wX9_paths at w
  refine X_aload_n (j := 0) (show decode cX9_paths 0 = .ok (.aload_n 0, 1) by decide +kernel) rfl rfl ?_
  refine X_iload_n (j := 1) (show decode cX9_paths 1 = .ok (.iload_n 1, 1) by decide +kernel) rfl rfl ?_
  obtain ⟨s11, w⟩ := w
  refine X_vV (rc' := 1) (rs' := 6) (as := [.int _]) mv_X9_117 (show decode cX9_paths 2 = .ok (.invokevirtual 117, 3) by decide +kernel) (by decide) (Nat.le_of_ble_eq_true rfl) (Nat.le_of_ble_eq_true rfl) rfl rfl (Nat.le_of_ble_eq_true rfl) (rcvD s11 (by decide) rfl) (kX9_checkBlock w) (fun E h hk => XT_out hk (fun x hx => absurd hx List.not_mem_nil)) (fun h1 w => ?_)
  refine X_aload_n (j := 0) (show decode cX9_paths 5 = .ok (.aload_n 0, 1) by decide +kernel) rfl rfl ?_
  refine X_iload_n (j := 2) (show decode cX9_paths 6 = .ok (.iload_n 2, 1) by decide +kernel) rfl rfl ?_
  obtain ⟨s10, w⟩ := w
  refine X_vV (rc' := 0) (rs' := 0) (as := [.int _]) mv_X9_117 (show decode cX9_paths 7 = .ok (.invokevirtual 117, 3) by decide +kernel) (by decide) (Nat.le_of_ble_eq_true rfl) (Nat.le_of_ble_eq_true rfl) rfl rfl (Nat.le_of_ble_eq_true rfl) (rcvD s10 (by decide) rfl) (kX9_checkBlock w) (fun E h hk => XT_out hk (fun x hx => absurd hx List.not_mem_nil)) (fun h3 w => ?_)
  refine X_aload_n (j := 0) (show decode cX9_paths 10 = .ok (.aload_n 0, 1) by decide +kernel) rfl rfl ?_
  obtain ⟨s5, w⟩ := w
  refine X_getR fl_X9_12 (show decode cX9_paths 11 = .ok (.getfield 12, 3) by decide +kernel) s5 ?_
  obtain ⟨s6, w⟩ := w
  refine X_getR fl_X9_72 (show decode cX9_paths 14 = .ok (.getfield 72, 3) by decide +kernel) s6 ?_
  refine X_iload_n (j := 1) (show decode cX9_paths 17 = .ok (.iload_n 1, 1) by decide +kernel) rfl rfl ?_
  refine X_iload_n (j := 2) (show decode cX9_paths 18 = .ok (.iload_n 2, 1) by decide +kernel) rfl rfl ?_
  obtain ⟨s9, w⟩ := w
  refine X_vI (rc' := 0) (rs' := 0) (as := [.int _, .int _]) mv_X9_170 (show decode cX9_paths 19 = .ok (.invokevirtual 170, 3) by decide +kernel) (by decide) (Nat.le_of_ble_eq_true rfl) (Nat.le_of_ble_eq_true rfl) rfl rfl (Nat.le_of_ble_eq_true rfl) (rcvD s9 (by decide) rfl) (kX4_numberOfPaths w) (fun E h hk => hk.elim) (fun r8 h7 w => ?_)
  exact X_iret ⟨(show decode cX9_paths 22 = .ok (.ireturn, 1) by decide +kernel), .int, rfl, rfl⟩ ⟨_, rfl, w⟩
set_option maxRecDepth 100000 in
set_option maxHeartbeats 4000000 in
theorem kX9_trains {a0 : Nat} {h : AH} {K : Int32 → AH → Prop} (w : wX9_trains a0 h K) : Cn mX9_trains (cwd mX9_trains) 1 0 0 [.ref a0] h (KI K) T0 := by
  refine Cn_of (by decide +kernel) rfl (Nat.le_of_ble_eq_true rfl) ?_
  show X mX9_trains 1 (KI K) T0 0 0 0 [(0, .ref a0)] [] h
  unfold wX9_trains at w
  refine X_aload_n (j := 0) (show decode cX9_trains 0 = .ok (.aload_n 0, 1) by decide +kernel) rfl rfl ?_
  obtain ⟨s1, w⟩ := w
  refine X_getR fl_X9_12 (show decode cX9_trains 1 = .ok (.getfield 12, 3) by decide +kernel) s1 ?_
  obtain ⟨s2, w⟩ := w
  refine X_getI fl_X9_173 (show decode cX9_trains 4 = .ok (.getfield 173, 3) by decide +kernel) s2 ?_
  exact X_iret ⟨(show decode cX9_trains 7 = .ok (.ireturn, 1) by decide +kernel), .int, rfl, rfl⟩ ⟨_, rfl, w⟩
set_option maxRecDepth 100000 in
set_option maxHeartbeats 4000000 in
theorem kX9_isPresent {a0 : Nat} {a1 : Int32} {h : AH} {K : Int32 → AH → Prop} (w : wX9_isPresent a0 a1 h K) : Cn mX9_isPresent (cwd mX9_isPresent) 2 0 0 [.ref a0, .int a1] h (KI K) T0 := by
  refine Cn_of (by decide +kernel) rfl (Nat.le_of_ble_eq_true rfl) ?_
  show X mX9_isPresent 2 (KI K) T0 0 0 0 [(0, .ref a0), (1, .int a1)] [] h
  unfold wX9_isPresent at w
  refine X_aload_n (j := 0) (show decode cX9_isPresent 0 = .ok (.aload_n 0, 1) by decide +kernel) rfl rfl ?_
  obtain ⟨s1, w⟩ := w
  refine X_getR fl_X9_12 (show decode cX9_isPresent 1 = .ok (.getfield 12, 3) by decide +kernel) s1 ?_
  refine X_iload_n (j := 1) (show decode cX9_isPresent 4 = .ok (.iload_n 1, 1) by decide +kernel) rfl rfl ?_
  obtain ⟨s5, w⟩ := w
  refine X_vR (rc' := 0) (rs' := 0) (as := [.int _]) mv_X9_176 (show decode cX9_isPresent 5 = .ok (.invokevirtual 176, 3) by decide +kernel) (by decide) (Nat.le_of_ble_eq_true rfl) (Nat.le_of_ble_eq_true rfl) rfl rfl (Nat.le_of_ble_eq_true rfl) (rcvD s5 (by decide) rfl) (kX7_find w) (fun E h hk => hk.elim) (fun r3 h2 w => ?_)
  refine X_ifnull (tgt := 15) (show decode cX9_isPresent 8 = .ok (.ifnull 7, 3) by decide +kernel) (by decide) ⟨fun c4 => ?_, fun c4 => ?_⟩
  · have w := w.1 c4
    refine X_iconst (v := (nI 0)) (show decode cX9_isPresent 15 = .ok (.iconst 0, 1) by decide +kernel) (by decide) ?_
    exact X_iret ⟨(show decode cX9_isPresent 16 = .ok (.ireturn, 1) by decide +kernel), .boolean, rfl, (by decide)⟩ ⟨_, rfl, w⟩
  · have w := w.2 c4
    refine X_iconst (v := (nI 1)) (show decode cX9_isPresent 11 = .ok (.iconst 1, 1) by decide +kernel) (by decide) ?_
    refine X_goto (tgt := 16) (show decode cX9_isPresent 12 = .ok (.goto 4, 3) by decide +kernel) (by decide) ?_
    exact X_iret ⟨(show decode cX9_isPresent 16 = .ok (.ireturn, 1) by decide +kernel), .boolean, rfl, (by decide)⟩ ⟨_, rfl, w⟩
set_option maxRecDepth 100000 in
set_option maxHeartbeats 4000000 in
theorem kX9_presentTrain {a0 : Nat} {a1 : Int32} {h : AH} {K : Nat → AH → Prop} {T : String → AH → Prop} (w : wX9_presentTrain a0 a1 h K T) : Cn mX9_presentTrain (cwd mX9_presentTrain) 8 1 6 [.ref a0, .int a1] h (KR K) T := by
  refine Cn_of (by decide +kernel) rfl (Nat.le_of_ble_eq_true rfl) ?_
  show X mX9_presentTrain 8 (KR K) T 1 6 0 [(0, .ref a0), (1, .int a1)] [] h
  unfold wX9_presentTrain at w
  refine X_aload_n (j := 0) (show decode cX9_presentTrain 0 = .ok (.aload_n 0, 1) by decide +kernel) rfl rfl ?_
  obtain ⟨s1, w⟩ := w
  refine X_getR fl_X9_12 (show decode cX9_presentTrain 1 = .ok (.getfield 12, 3) by decide +kernel) s1 ?_
  refine X_iload_n (j := 1) (show decode cX9_presentTrain 4 = .ok (.iload_n 1, 1) by decide +kernel) rfl rfl ?_
  obtain ⟨s5, w⟩ := w
  refine X_vR (rc' := 1) (rs' := 6) (as := [.int _]) mv_X9_176 (show decode cX9_presentTrain 5 = .ok (.invokevirtual 176, 3) by decide +kernel) (by decide) (Nat.le_of_ble_eq_true rfl) (Nat.le_of_ble_eq_true rfl) rfl rfl (Nat.le_of_ble_eq_true rfl) (rcvD s5 (by decide) rfl) (kX7_find w) (fun E h hk => hk.elim) (fun r3 h2 w => ?_)
  refine X_astore_n (ls' := [(0, .ref _), (1, .int _), (2, .ref _)]) (show decode cX9_presentTrain 8 = .ok (.astore_n 2, 1) by decide +kernel) rfl (by decide) rfl ?_
  refine X_aload_n (j := 2) (show decode cX9_presentTrain 9 = .ok (.aload_n 2, 1) by decide +kernel) rfl rfl ?_
  refine X_ifnonnull (tgt := 24) (show decode cX9_presentTrain 10 = .ok (.ifnonnull 14, 3) by decide +kernel) (by decide) ⟨fun c4 => ?_, fun c4 => ?_⟩
  · have w := w.1 c4
    exact X_throwN (w := 1) tn_X9_131_381 (show decode cX9_presentTrain 13 = .ok (.new 131, 3) by decide +kernel) (show decode cX9_presentTrain 16 = .ok (.dup, 1) by decide +kernel) (Or.inr ⟨rfl, (show decode cX9_presentTrain 17 = .ok (.ldc_w 381, 3) by decide +kernel)⟩) (show decode cX9_presentTrain 20 = .ok (.invokespecial 135, 3) by decide +kernel) (show decode cX9_presentTrain 23 = .ok (.athrow, 1) by decide +kernel) (fun x hx => absurd hx List.not_mem_nil) (by decide) (Nat.le_of_ble_eq_true rfl) (Nat.le_of_ble_eq_true rfl) (Nat.le_of_ble_eq_true rfl) w
  · have w := w.2 c4
    refine X_aload_n (j := 2) (show decode cX9_presentTrain 24 = .ok (.aload_n 2, 1) by decide +kernel) rfl rfl ?_
    exact X_aret ⟨(show decode cX9_presentTrain 25 = .ok (.areturn, 1) by decide +kernel), Or.inl ⟨_, rfl⟩⟩ ⟨_, rfl, w⟩
set_option maxRecDepth 100000 in
set_option maxHeartbeats 4000000 in
theorem kX9_blockOf {a0 : Nat} {a1 : Int32} {h : AH} {K : Int32 → AH → Prop} {T : String → AH → Prop} (w : wX9_blockOf a0 a1 h K T) : Cn mX9_blockOf (cwd mX9_blockOf) 9 1 6 [.ref a0, .int a1] h (KI K) T := by
  refine Cn_of (by decide +kernel) rfl (Nat.le_of_ble_eq_true rfl) ?_
  show X mX9_blockOf 9 (KI K) T 1 6 0 [(0, .ref a0), (1, .int a1)] [] h
  unfold wX9_blockOf at w
  refine X_aload_n (j := 0) (show decode cX9_blockOf 0 = .ok (.aload_n 0, 1) by decide +kernel) rfl rfl ?_
  refine X_iload_n (j := 1) (show decode cX9_blockOf 1 = .ok (.iload_n 1, 1) by decide +kernel) rfl rfl ?_
  obtain ⟨s4, w⟩ := w
  refine X_vR (rc' := 0) (rs' := 0) (as := [.int _]) mv_X9_180 (show decode cX9_blockOf 2 = .ok (.invokevirtual 180, 3) by decide +kernel) (by decide) (Nat.le_of_ble_eq_true rfl) (Nat.le_of_ble_eq_true rfl) rfl rfl (Nat.le_of_ble_eq_true rfl) (rcvD s4 (by decide) rfl) (kX9_presentTrain w) (fun E h hk => XT_out hk (fun x hx => absurd hx List.not_mem_nil)) (fun r2 h1 w => ?_)
  obtain ⟨s3, w⟩ := w
  refine X_getI fl_X9_183 (show decode cX9_blockOf 5 = .ok (.getfield 183, 3) by decide +kernel) s3 ?_
  exact X_iret ⟨(show decode cX9_blockOf 8 = .ok (.ireturn, 1) by decide +kernel), .int, rfl, rfl⟩ ⟨_, rfl, w⟩
set_option maxRecDepth 100000 in
set_option maxHeartbeats 4000000 in
theorem kX9_destination {a0 : Nat} {a1 : Int32} {h : AH} {K : Int32 → AH → Prop} {T : String → AH → Prop} (w : wX9_destination a0 a1 h K T) : Cn mX9_destination (cwd mX9_destination) 9 1 6 [.ref a0, .int a1] h (KI K) T := by
  refine Cn_of (by decide +kernel) rfl (Nat.le_of_ble_eq_true rfl) ?_
  show X mX9_destination 9 (KI K) T 1 6 0 [(0, .ref a0), (1, .int a1)] [] h
  unfold wX9_destination at w
  refine X_aload_n (j := 0) (show decode cX9_destination 0 = .ok (.aload_n 0, 1) by decide +kernel) rfl rfl ?_
  refine X_iload_n (j := 1) (show decode cX9_destination 1 = .ok (.iload_n 1, 1) by decide +kernel) rfl rfl ?_
  obtain ⟨s4, w⟩ := w
  refine X_vR (rc' := 0) (rs' := 0) (as := [.int _]) mv_X9_180 (show decode cX9_destination 2 = .ok (.invokevirtual 180, 3) by decide +kernel) (by decide) (Nat.le_of_ble_eq_true rfl) (Nat.le_of_ble_eq_true rfl) rfl rfl (Nat.le_of_ble_eq_true rfl) (rcvD s4 (by decide) rfl) (kX9_presentTrain w) (fun E h hk => XT_out hk (fun x hx => absurd hx List.not_mem_nil)) (fun r2 h1 w => ?_)
  obtain ⟨s3, w⟩ := w
  refine X_getI fl_X9_188 (show decode cX9_destination 5 = .ok (.getfield 188, 3) by decide +kernel) s3 ?_
  exact X_iret ⟨(show decode cX9_destination 8 = .ok (.ireturn, 1) by decide +kernel), .int, rfl, rfl⟩ ⟨_, rfl, w⟩
set_option maxRecDepth 100000 in
set_option maxHeartbeats 4000000 in
theorem kX9_hasRoute {a0 : Nat} {a1 : Int32} {h : AH} {K : Int32 → AH → Prop} {T : String → AH → Prop} (w : wX9_hasRoute a0 a1 h K T) : Cn mX9_hasRoute (cwd mX9_hasRoute) 9 1 6 [.ref a0, .int a1] h (KI K) T := by
  refine Cn_of (by decide +kernel) rfl (Nat.le_of_ble_eq_true rfl) ?_
  show X mX9_hasRoute 9 (KI K) T 1 6 0 [(0, .ref a0), (1, .int a1)] [] h
  unfold wX9_hasRoute at w
  refine X_aload_n (j := 0) (show decode cX9_hasRoute 0 = .ok (.aload_n 0, 1) by decide +kernel) rfl rfl ?_
  refine X_iload_n (j := 1) (show decode cX9_hasRoute 1 = .ok (.iload_n 1, 1) by decide +kernel) rfl rfl ?_
  obtain ⟨s7, w⟩ := w
  refine X_vR (rc' := 0) (rs' := 0) (as := [.int _]) mv_X9_180 (show decode cX9_hasRoute 2 = .ok (.invokevirtual 180, 3) by decide +kernel) (by decide) (Nat.le_of_ble_eq_true rfl) (Nat.le_of_ble_eq_true rfl) rfl rfl (Nat.le_of_ble_eq_true rfl) (rcvD s7 (by decide) rfl) (kX9_presentTrain w) (fun E h hk => XT_out hk (fun x hx => absurd hx List.not_mem_nil)) (fun r2 h1 w => ?_)
  obtain ⟨s6, w⟩ := w
  refine X_vI (rc' := 0) (rs' := 0) (as := []) mv_X9_191 (show decode cX9_hasRoute 5 = .ok (.invokevirtual 191, 3) by decide +kernel) (by decide) (Nat.le_of_ble_eq_true rfl) (Nat.le_of_ble_eq_true rfl) rfl rfl (Nat.le_of_ble_eq_true rfl) (rcvD s6 (by decide) rfl) (kX8_isRouted w) (fun E h hk => hk.elim) (fun r4 h3 w => ?_)
  obtain ⟨s5, w⟩ := w
  exact X_iret ⟨(show decode cX9_hasRoute 8 = .ok (.ireturn, 1) by decide +kernel), .boolean, rfl, s5⟩ ⟨_, rfl, w⟩
set_option maxRecDepth 100000 in
set_option maxHeartbeats 4000000 in
theorem kX9_isClear {a0 : Nat} {a1 : Int32} {h : AH} {K : Int32 → AH → Prop} {T : String → AH → Prop} (w : wX9_isClear a0 a1 h K T) : Cn mX9_isClear (cwd mX9_isClear) 9 1 6 [.ref a0, .int a1] h (KI K) T := by
  refine Cn_of (by decide +kernel) rfl (Nat.le_of_ble_eq_true rfl) ?_
  show X mX9_isClear 9 (KI K) T 1 6 0 [(0, .ref a0), (1, .int a1)] [] h
  unfold wX9_isClear at w
  refine X_aload_n (j := 0) (show decode cX9_isClear 0 = .ok (.aload_n 0, 1) by decide +kernel) rfl rfl ?_
  obtain ⟨s1, w⟩ := w
  refine X_getR fl_X9_12 (show decode cX9_isClear 1 = .ok (.getfield 12, 3) by decide +kernel) s1 ?_
  refine X_aload_n (j := 0) (show decode cX9_isClear 4 = .ok (.aload_n 0, 1) by decide +kernel) rfl rfl ?_
  refine X_iload_n (j := 1) (show decode cX9_isClear 5 = .ok (.iload_n 1, 1) by decide +kernel) rfl rfl ?_
  refine X_vR (rc' := 0) (rs' := 0) (as := [.int _]) mv_X9_180 (show decode cX9_isClear 6 = .ok (.invokevirtual 180, 3) by decide +kernel) (by decide) (Nat.le_of_ble_eq_true rfl) (Nat.le_of_ble_eq_true rfl) rfl rfl (Nat.le_of_ble_eq_true rfl) (rcvD s1 (by decide) rfl) (kX9_presentTrain w) (fun E h hk => XT_out hk (fun x hx => absurd hx List.not_mem_nil)) (fun r3 h2 w => ?_)
  obtain ⟨s7, w⟩ := w
  refine X_vI (rc' := 0) (rs' := 0) (as := [.ref _]) mv_X9_195 (show decode cX9_isClear 9 = .ok (.invokevirtual 195, 3) by decide +kernel) (by decide) (Nat.le_of_ble_eq_true rfl) (Nat.le_of_ble_eq_true rfl) rfl rfl (Nat.le_of_ble_eq_true rfl) (rcvD s7 (by decide) rfl) (kX7_canSet w) (fun E h hk => hk.elim) (fun r5 h4 w => ?_)
  obtain ⟨s6, w⟩ := w
  exact X_iret ⟨(show decode cX9_isClear 12 = .ok (.ireturn, 1) by decide +kernel), .boolean, rfl, s6⟩ ⟨_, rfl, w⟩
set_option maxRecDepth 100000 in
set_option maxHeartbeats 4000000 in
theorem kX9_routedTrain {a0 : Nat} {a1 : Int32} {h : AH} {K : Nat → AH → Prop} {T : String → AH → Prop} (w : wX9_routedTrain a0 a1 h K T) : Cn mX9_routedTrain (cwd mX9_routedTrain) 9 2 12 [.ref a0, .int a1] h (KR K) T := by
  refine Cn_of (by decide +kernel) rfl (Nat.le_of_ble_eq_true rfl) ?_
  show X mX9_routedTrain 9 (KR K) T 2 12 0 [(0, .ref a0), (1, .int a1)] [] h
  unfold wX9_routedTrain at w
  refine X_aload_n (j := 0) (show decode cX9_routedTrain 0 = .ok (.aload_n 0, 1) by decide +kernel) rfl rfl ?_
  refine X_iload_n (j := 1) (show decode cX9_routedTrain 1 = .ok (.iload_n 1, 1) by decide +kernel) rfl rfl ?_
  obtain ⟨s7, w⟩ := w
  refine X_vR (rc' := 1) (rs' := 6) (as := [.int _]) mv_X9_180 (show decode cX9_routedTrain 2 = .ok (.invokevirtual 180, 3) by decide +kernel) (by decide) (Nat.le_of_ble_eq_true rfl) (Nat.le_of_ble_eq_true rfl) rfl rfl (Nat.le_of_ble_eq_true rfl) (rcvD s7 (by decide) rfl) (kX9_presentTrain w) (fun E h hk => XT_out hk (fun x hx => absurd hx List.not_mem_nil)) (fun r2 h1 w => ?_)
  refine X_astore_n (ls' := [(0, .ref _), (1, .int _), (2, .ref _)]) (show decode cX9_routedTrain 5 = .ok (.astore_n 2, 1) by decide +kernel) rfl (by decide) rfl ?_
  refine X_aload_n (j := 2) (show decode cX9_routedTrain 6 = .ok (.aload_n 2, 1) by decide +kernel) rfl rfl ?_
  obtain ⟨s6, w⟩ := w
  refine X_vI (rc' := 1) (rs' := 6) (as := []) mv_X9_191 (show decode cX9_routedTrain 7 = .ok (.invokevirtual 191, 3) by decide +kernel) (by decide) (Nat.le_of_ble_eq_true rfl) (Nat.le_of_ble_eq_true rfl) rfl rfl (Nat.le_of_ble_eq_true rfl) (rcvD s6 (by decide) rfl) (kX8_isRouted w) (fun E h hk => hk.elim) (fun r4 h3 w => ?_)
  refine X_if_ne (tgt := 24) (show decode cX9_routedTrain 10 = .ok (.ifCond .ne 14, 3) by decide +kernel) (by decide) ⟨fun c5 => ?_, fun c5 => ?_⟩
  · have w := w.1 c5
    refine X_aload_n (j := 2) (show decode cX9_routedTrain 24 = .ok (.aload_n 2, 1) by decide +kernel) rfl rfl ?_
    exact X_aret ⟨(show decode cX9_routedTrain 25 = .ok (.areturn, 1) by decide +kernel), Or.inl ⟨_, rfl⟩⟩ ⟨_, rfl, w⟩
  · have w := w.2 c5
    exact X_throwN (w := 1) tn_X9_131_397 (show decode cX9_routedTrain 13 = .ok (.new 131, 3) by decide +kernel) (show decode cX9_routedTrain 16 = .ok (.dup, 1) by decide +kernel) (Or.inr ⟨rfl, (show decode cX9_routedTrain 17 = .ok (.ldc_w 397, 3) by decide +kernel)⟩) (show decode cX9_routedTrain 20 = .ok (.invokespecial 135, 3) by decide +kernel) (show decode cX9_routedTrain 23 = .ok (.athrow, 1) by decide +kernel) (fun x hx => absurd hx List.not_mem_nil) (by decide) (Nat.le_of_ble_eq_true rfl) (Nat.le_of_ble_eq_true rfl) (Nat.le_of_ble_eq_true rfl) w
set_option maxRecDepth 100000 in
set_option maxHeartbeats 4000000 in
theorem kX9_minutesUntilNext {a0 : Nat} {a1 : Int32} {h : AH} {K : Int32 → AH → Prop} {T : String → AH → Prop} (w : wX9_minutesUntilNext a0 a1 h K T) : Cn mX9_minutesUntilNext (cwd mX9_minutesUntilNext) 10 2 12 [.ref a0, .int a1] h (KI K) T := by
  refine Cn_of (by decide +kernel) rfl (Nat.le_of_ble_eq_true rfl) ?_
  show X mX9_minutesUntilNext 10 (KI K) T 2 12 0 [(0, .ref a0), (1, .int a1)] [] h
  unfold wX9_minutesUntilNext at w
  refine X_aload_n (j := 0) (show decode cX9_minutesUntilNext 0 = .ok (.aload_n 0, 1) by decide +kernel) rfl rfl ?_
  refine X_iload_n (j := 1) (show decode cX9_minutesUntilNext 1 = .ok (.iload_n 1, 1) by decide +kernel) rfl rfl ?_
  obtain ⟨s6, w⟩ := w
  refine X_vR (rc' := 0) (rs' := 0) (as := [.int _]) mv_X9_199 (show decode cX9_minutesUntilNext 2 = .ok (.invokevirtual 199, 3) by decide +kernel) (by decide) (Nat.le_of_ble_eq_true rfl) (Nat.le_of_ble_eq_true rfl) rfl rfl (Nat.le_of_ble_eq_true rfl) (rcvD s6 (by decide) rfl) (kX9_routedTrain w) (fun E h hk => XT_out hk (fun x hx => absurd hx List.not_mem_nil)) (fun r2 h1 w => ?_)
  obtain ⟨s3, w⟩ := w
  refine X_getI fl_X9_202 (show decode cX9_minutesUntilNext 5 = .ok (.getfield 202, 3) by decide +kernel) s3 ?_
  refine X_aload_n (j := 0) (show decode cX9_minutesUntilNext 8 = .ok (.aload_n 0, 1) by decide +kernel) rfl rfl ?_
  obtain ⟨s4, w⟩ := w
  refine X_getR fl_X9_12 (show decode cX9_minutesUntilNext 9 = .ok (.getfield 12, 3) by decide +kernel) s4 ?_
  obtain ⟨s5, w⟩ := w
  refine X_getI fl_X9_205 (show decode cX9_minutesUntilNext 12 = .ok (.getfield 205, 3) by decide +kernel) s5 ?_
  refine X_isub (show decode cX9_minutesUntilNext 15 = .ok (.isub, 1) by decide +kernel) ?_
  exact X_iret ⟨(show decode cX9_minutesUntilNext 16 = .ok (.ireturn, 1) by decide +kernel), .int, rfl, rfl⟩ ⟨_, rfl, w⟩
set_option maxRecDepth 100000 in
set_option maxHeartbeats 4000000 in
theorem kX7_minutesToGo {a0 : Nat} {a1 : Nat} {h : AH} {K : Int32 → AH → Prop} (w : wX7_minutesToGo a0 a1 h K) : Cn mX7_minutesToGo (cwd mX7_minutesToGo) 3 0 0 [.ref a0, .ref a1] h (KI K) T0 := by
  refine Cn_of (by decide +kernel) rfl (Nat.le_of_ble_eq_true rfl) ?_
  show X mX7_minutesToGo 3 (KI K) T0 0 0 0 [(0, .ref a0), (1, .ref a1)] [] h
  unfold wX7_minutesToGo at w
  refine X_aload_n (j := 1) (show decode cX7_minutesToGo 0 = .ok (.aload_n 1, 1) by decide +kernel) rfl rfl ?_
  obtain ⟨s1, w⟩ := w
  refine X_getI fl_X7_163 (show decode cX7_minutesToGo 1 = .ok (.getfield 163, 3) by decide +kernel) s1 ?_
  refine X_aload_n (j := 0) (show decode cX7_minutesToGo 4 = .ok (.aload_n 0, 1) by decide +kernel) rfl rfl ?_
  obtain ⟨s2, w⟩ := w
  refine X_getI fl_X7_41 (show decode cX7_minutesToGo 5 = .ok (.getfield 41, 3) by decide +kernel) s2 ?_
  refine X_isub (show decode cX7_minutesToGo 8 = .ok (.isub, 1) by decide +kernel) ?_
  refine X_istore_n (ls' := [(0, .ref _), (1, .ref _), (2, .int _)]) (show decode cX7_minutesToGo 9 = .ok (.istore_n 2, 1) by decide +kernel) rfl (by decide) rfl ?_
  refine X_aload_n (j := 0) (show decode cX7_minutesToGo 10 = .ok (.aload_n 0, 1) by decide +kernel) rfl rfl ?_
  refine X_getR fl_X7_12 (show decode cX7_minutesToGo 11 = .ok (.getfield 12, 3) by decide +kernel) s2 ?_
  refine X_aload_n (j := 0) (show decode cX7_minutesToGo 14 = .ok (.aload_n 0, 1) by decide +kernel) rfl rfl ?_
  refine X_getR fl_X7_12 (show decode cX7_minutesToGo 15 = .ok (.getfield 12, 3) by decide +kernel) s2 ?_
  refine X_aload_n (j := 1) (show decode cX7_minutesToGo 18 = .ok (.aload_n 1, 1) by decide +kernel) rfl rfl ?_
  refine X_getI fl_X7_119 (show decode cX7_minutesToGo 19 = .ok (.getfield 119, 3) by decide +kernel) s1 ?_
  obtain ⟨s13, w⟩ := w
  refine X_vI (rc' := 0) (rs' := 0) (as := [.int _]) mv_X7_157 (show decode cX7_minutesToGo 22 = .ok (.invokevirtual 157, 3) by decide +kernel) (by decide) (Nat.le_of_ble_eq_true rfl) (Nat.le_of_ble_eq_true rfl) rfl rfl (Nat.le_of_ble_eq_true rfl) (rcvD s13 (by decide) rfl) (kX4_exitOf w) (fun E h hk => hk.elim) (fun r4 h3 w => ?_)
  obtain ⟨s12, w⟩ := w
  refine X_vI (rc' := 0) (rs' := 0) (as := [.int _]) mv_X7_160 (show decode cX7_minutesToGo 25 = .ok (.invokevirtual 160, 3) by decide +kernel) (by decide) (Nat.le_of_ble_eq_true rfl) (Nat.le_of_ble_eq_true rfl) rfl rfl (Nat.le_of_ble_eq_true rfl) (rcvD s12 (by decide) rfl) (kX4_lengthOf w) (fun E h hk => hk.elim) (fun r6 h5 w => ?_)
  refine X_istore_n (ls' := [(0, .ref _), (1, .ref _), (2, .int _), (3, .int _)]) (show decode cX7_minutesToGo 28 = .ok (.istore_n 3, 1) by decide +kernel) rfl (by decide) rfl ?_
  refine X_iload_n (j := 2) (show decode cX7_minutesToGo 29 = .ok (.iload_n 2, 1) by decide +kernel) rfl rfl ?_
  refine X_aload_n (j := 0) (show decode cX7_minutesToGo 30 = .ok (.aload_n 0, 1) by decide +kernel) rfl rfl ?_
  obtain ⟨s7, w⟩ := w
  refine X_getR fl_X7_12 (show decode cX7_minutesToGo 31 = .ok (.getfield 12, 3) by decide +kernel) s7 ?_
  refine X_aload_n (j := 1) (show decode cX7_minutesToGo 34 = .ok (.aload_n 1, 1) by decide +kernel) rfl rfl ?_
  obtain ⟨s8, w⟩ := w
  refine X_getI fl_X7_81 (show decode cX7_minutesToGo 35 = .ok (.getfield 81, 3) by decide +kernel) s8 ?_
  obtain ⟨s11, w⟩ := w
  refine X_vI (rc' := 0) (rs' := 0) (as := [.int _]) mv_X7_150 (show decode cX7_minutesToGo 38 = .ok (.invokevirtual 150, 3) by decide +kernel) (by decide) (Nat.le_of_ble_eq_true rfl) (Nat.le_of_ble_eq_true rfl) rfl rfl (Nat.le_of_ble_eq_true rfl) (rcvD s11 (by decide) rfl) (kX4_totalLength w) (fun E h hk => hk.elim) (fun r10 h9 w => ?_)
  refine X_iadd (show decode cX7_minutesToGo 41 = .ok (.iadd, 1) by decide +kernel) ?_
  refine X_iload_n (j := 3) (show decode cX7_minutesToGo 42 = .ok (.iload_n 3, 1) by decide +kernel) rfl rfl ?_
  refine X_isub (show decode cX7_minutesToGo 43 = .ok (.isub, 1) by decide +kernel) ?_
  exact X_iret ⟨(show decode cX7_minutesToGo 44 = .ok (.ireturn, 1) by decide +kernel), .int, rfl, rfl⟩ ⟨_, rfl, w⟩
set_option maxRecDepth 100000 in
set_option maxHeartbeats 4000000 in
theorem kX9_minutesUntilArrival {a0 : Nat} {a1 : Int32} {h : AH} {K : Int32 → AH → Prop} {T : String → AH → Prop} (w : wX9_minutesUntilArrival a0 a1 h K T) : Cn mX9_minutesUntilArrival (cwd mX9_minutesUntilArrival) 10 2 12 [.ref a0, .int a1] h (KI K) T := by
  refine Cn_of (by decide +kernel) rfl (Nat.le_of_ble_eq_true rfl) ?_
  show X mX9_minutesUntilArrival 10 (KI K) T 2 12 0 [(0, .ref a0), (1, .int a1)] [] h
  unfold wX9_minutesUntilArrival at w
  refine X_aload_n (j := 0) (show decode cX9_minutesUntilArrival 0 = .ok (.aload_n 0, 1) by decide +kernel) rfl rfl ?_
  obtain ⟨s1, w⟩ := w
  refine X_getR fl_X9_12 (show decode cX9_minutesUntilArrival 1 = .ok (.getfield 12, 3) by decide +kernel) s1 ?_
  refine X_aload_n (j := 0) (show decode cX9_minutesUntilArrival 4 = .ok (.aload_n 0, 1) by decide +kernel) rfl rfl ?_
  refine X_iload_n (j := 1) (show decode cX9_minutesUntilArrival 5 = .ok (.iload_n 1, 1) by decide +kernel) rfl rfl ?_
  refine X_vR (rc' := 0) (rs' := 0) (as := [.int _]) mv_X9_199 (show decode cX9_minutesUntilArrival 6 = .ok (.invokevirtual 199, 3) by decide +kernel) (by decide) (Nat.le_of_ble_eq_true rfl) (Nat.le_of_ble_eq_true rfl) rfl rfl (Nat.le_of_ble_eq_true rfl) (rcvD s1 (by decide) rfl) (kX9_routedTrain w) (fun E h hk => XT_out hk (fun x hx => absurd hx List.not_mem_nil)) (fun r3 h2 w => ?_)
  obtain ⟨s6, w⟩ := w
  refine X_vI (rc' := 0) (rs' := 0) (as := [.ref _]) mv_X9_208 (show decode cX9_minutesUntilArrival 9 = .ok (.invokevirtual 208, 3) by decide +kernel) (by decide) (Nat.le_of_ble_eq_true rfl) (Nat.le_of_ble_eq_true rfl) rfl rfl (Nat.le_of_ble_eq_true rfl) (rcvD s6 (by decide) rfl) (kX7_minutesToGo w) (fun E h hk => hk.elim) (fun r5 h4 w => ?_)
  exact X_iret ⟨(show decode cX9_minutesUntilArrival 12 = .ok (.ireturn, 1) by decide +kernel), .int, rfl, rfl⟩ ⟨_, rfl, w⟩
set_option maxRecDepth 100000 in
set_option maxHeartbeats 4000000 in
theorem kX9_minutesUntilArrivalByPassing_L25 {K : Int32 → AH → Prop} {T : String → AH → Prop}    : ∀ (n : Nat) (x0 : Nat) (x2 : Int32) (x3 : Int32) (x4 : Int32) (h : AH), wX9_minutesUntilArrivalByPassing_L25 K T   n x0 x2 x3 x4 h → X mX9_minutesUntilArrivalByPassing 10 (KI K) T 0 0 25 [(0, .ref x0), (2, .int x2), (3, .int x3), (4, .int x4)] [] h := by
  intro n
  induction n with
  | zero => intro _ _ _ _ _ w; exact w.elim
  | succ n ih =>
    intro x0 x2 x3 x4 h w
    rw [wX9_minutesUntilArrivalByPassing_L25] at w
    refine X_iload (j := 3) (show decode cX9_minutesUntilArrivalByPassing 25 = .ok (.iload 4, 2) by decide +kernel) rfl ?_
    refine X_bipush (v := (nI 108)) (show decode cX9_minutesUntilArrivalByPassing 27 = .ok (.bipush 108, 2) by decide +kernel) (by decide) ?_
    refine X_icmp_ge (tgt := 59) (show decode cX9_minutesUntilArrivalByPassing 29 = .ok (.if_icmp .ge 30, 3) by decide +kernel) (by decide) ⟨fun c7 => ?_, fun c7 => ?_⟩
    · have w := w.1 c7
      refine X_iload_n (j := 2) (show decode cX9_minutesUntilArrivalByPassing 59 = .ok (.iload_n 3, 1) by decide +kernel) rfl rfl ?_
      exact X_iret ⟨(show decode cX9_minutesUntilArrivalByPassing 60 = .ok (.ireturn, 1) by decide +kernel), .int, rfl, rfl⟩ ⟨_, rfl, w⟩
    · have w := w.2 c7
      refine X_aload_n (j := 0) (show decode cX9_minutesUntilArrivalByPassing 32 = .ok (.aload_n 0, 1) by decide +kernel) rfl rfl ?_
      obtain ⟨s8, w⟩ := w
      refine X_getR fl_X9_19 (show decode cX9_minutesUntilArrivalByPassing 33 = .ok (.getfield 19, 3) by decide +kernel) s8 ?_
      refine X_iload_n (j := 1) (show decode cX9_minutesUntilArrivalByPassing 36 = .ok (.iload_n 2, 1) by decide +kernel) rfl rfl ?_
      obtain ⟨s16, w⟩ := w
      refine X_vR (rc' := 0) (rs' := 0) (as := [.int _]) mv_X9_176 (show decode cX9_minutesUntilArrivalByPassing 37 = .ok (.invokevirtual 176, 3) by decide +kernel) (by decide) (Nat.le_of_ble_eq_true rfl) (Nat.le_of_ble_eq_true rfl) rfl rfl (Nat.le_of_ble_eq_true rfl) (rcvD s16 (by decide) rfl) (kX7_find w) (fun E h hk => hk.elim) (fun r10 h9 w => ?_)
      refine X_ifnull (tgt := 59) (show decode cX9_minutesUntilArrivalByPassing 40 = .ok (.ifnull 19, 3) by decide +kernel) (by decide) ⟨fun c11 => ?_, fun c11 => ?_⟩
      · have w := w.1 c11
        refine X_iload_n (j := 2) (show decode cX9_minutesUntilArrivalByPassing 59 = .ok (.iload_n 3, 1) by decide +kernel) rfl rfl ?_
        exact X_iret ⟨(show decode cX9_minutesUntilArrivalByPassing 60 = .ok (.ireturn, 1) by decide +kernel), .int, rfl, rfl⟩ ⟨_, rfl, w⟩
      · have w := w.2 c11
        refine X_aload_n (j := 0) (show decode cX9_minutesUntilArrivalByPassing 43 = .ok (.aload_n 0, 1) by decide +kernel) rfl rfl ?_
        obtain ⟨s12, w⟩ := w
        refine X_getR fl_X9_19 (show decode cX9_minutesUntilArrivalByPassing 44 = .ok (.getfield 19, 3) by decide +kernel) s12 ?_
        obtain ⟨s15, w⟩ := w
        refine X_vV (rc' := 0) (rs' := 0) (as := []) mv_X9_218 (show decode cX9_minutesUntilArrivalByPassing 47 = .ok (.invokevirtual 218, 3) by decide +kernel) (by decide) (Nat.le_of_ble_eq_true rfl) (Nat.le_of_ble_eq_true rfl) rfl rfl (Nat.le_of_ble_eq_true rfl) (rcvD s15 (by decide) rfl) (kX7_passMinute w) (fun E h hk => hk.elim) (fun h13 w => ?_)
        refine X_iinc (j := 2) (v := _ + (nI 1)) (ls' := [(0, .ref _), (2, .int _), (3, .int _), (4, .int _)]) (show decode cX9_minutesUntilArrivalByPassing 50 = .ok (.iinc 3 1, 3) by decide +kernel) rfl rfl (Nat.le_of_ble_eq_true rfl) rfl ?_
        refine X_iinc (j := 3) (v := _ + (nI 1)) (ls' := [(0, .ref _), (2, .int _), (3, .int _), (4, .int _)]) (show decode cX9_minutesUntilArrivalByPassing 53 = .ok (.iinc 4 1, 3) by decide +kernel) rfl rfl (Nat.le_of_ble_eq_true rfl) rfl ?_
        refine X_goto (tgt := 25) (show decode cX9_minutesUntilArrivalByPassing 56 = .ok (.goto (-31), 3) by decide +kernel) (by decide) ?_
        exact ih _ _ _ _ _ w
set_option maxRecDepth 100000 in
set_option maxHeartbeats 4000000 in
theorem kX9_minutesUntilArrivalByPassing {a0 : Nat} {a1 : Int32} {h : AH} {K : Int32 → AH → Prop} {T : String → AH → Prop} (w : wX9_minutesUntilArrivalByPassing a0 a1 h K T) : Cn mX9_minutesUntilArrivalByPassing (cwd mX9_minutesUntilArrivalByPassing) 10 2 12 [.ref a0, .int a1] h (KI K) T := by
  refine Cn_of (by decide +kernel) rfl (Nat.le_of_ble_eq_true rfl) ?_
  show X mX9_minutesUntilArrivalByPassing 10 (KI K) T 2 12 0 [(0, .ref a0), (1, .int a1)] [] h
  unfold wX9_minutesUntilArrivalByPassing at w
  refine X_aload_n (j := 0) (show decode cX9_minutesUntilArrivalByPassing 0 = .ok (.aload_n 0, 1) by decide +kernel) rfl rfl ?_
  refine X_iload_n (j := 1) (show decode cX9_minutesUntilArrivalByPassing 1 = .ok (.iload_n 1, 1) by decide +kernel) rfl rfl ?_
  obtain ⟨s19, w⟩ := w
  refine X_vR (rc' := 0) (rs' := 0) (as := [.int _]) mv_X9_199 (show decode cX9_minutesUntilArrivalByPassing 2 = .ok (.invokevirtual 199, 3) by decide +kernel) (by decide) (Nat.le_of_ble_eq_true rfl) (Nat.le_of_ble_eq_true rfl) rfl rfl (Nat.le_of_ble_eq_true rfl) (rcvD s19 (by decide) rfl) (kX9_routedTrain w) (fun E h hk => XT_out hk (fun x hx => absurd hx List.not_mem_nil)) (fun r2 h1 w => ?_)
  obtain ⟨s3, w⟩ := w
  refine X_getI fl_X9_212 (show decode cX9_minutesUntilArrivalByPassing 5 = .ok (.getfield 212, 3) by decide +kernel) s3 ?_
  refine X_istore_n (ls' := [(0, .ref _), (1, .int _), (2, .int _)]) (show decode cX9_minutesUntilArrivalByPassing 8 = .ok (.istore_n 2, 1) by decide +kernel) rfl (by decide) rfl ?_
  refine X_aload_n (j := 0) (show decode cX9_minutesUntilArrivalByPassing 9 = .ok (.aload_n 0, 1) by decide +kernel) rfl rfl ?_
  obtain ⟨s4, w⟩ := w
  refine X_getR fl_X9_19 (show decode cX9_minutesUntilArrivalByPassing 10 = .ok (.getfield 19, 3) by decide +kernel) s4 ?_
  refine X_aload_n (j := 0) (show decode cX9_minutesUntilArrivalByPassing 13 = .ok (.aload_n 0, 1) by decide +kernel) rfl rfl ?_
  refine X_getR fl_X9_12 (show decode cX9_minutesUntilArrivalByPassing 14 = .ok (.getfield 12, 3) by decide +kernel) s4 ?_
  obtain ⟨s18, w⟩ := w
  refine X_vV (rc' := 0) (rs' := 0) (as := [.ref _]) mv_X9_215 (show decode cX9_minutesUntilArrivalByPassing 17 = .ok (.invokevirtual 215, 3) by decide +kernel) (by decide) (Nat.le_of_ble_eq_true rfl) (Nat.le_of_ble_eq_true rfl) rfl rfl (Nat.le_of_ble_eq_true rfl) (rcvD s18 (by decide) rfl) (kX7_copyFrom w) (fun E h hk => hk.elim) (fun h5 w => ?_)
  refine X_iconst (v := (nI 0)) (show decode cX9_minutesUntilArrivalByPassing 20 = .ok (.iconst 0, 1) by decide +kernel) (by decide) ?_
  refine X_istore_n (ls' := [(0, .ref _), (1, .int _), (2, .int _), (3, .int _)]) (show decode cX9_minutesUntilArrivalByPassing 21 = .ok (.istore_n 3, 1) by decide +kernel) rfl (by decide) rfl ?_
  refine X_iconst (v := (nI 0)) (show decode cX9_minutesUntilArrivalByPassing 22 = .ok (.iconst 0, 1) by decide +kernel) (by decide) ?_
  refine X_istore (ls' := [(0, .ref _), (1, .int _), (2, .int _), (3, .int _), (4, .int _)]) (show decode cX9_minutesUntilArrivalByPassing 23 = .ok (.istore 4, 2) by decide +kernel) (by decide) rfl ?_
  refine X_pick (ls' := [(0, .ref _), (2, .int _), (3, .int _), (4, .int _)]) [0, 2, 3, 4] rfl ?_
  obtain ⟨n17, w⟩ := w
  exact kX9_minutesUntilArrivalByPassing_L25  n17 _ _ _ _ _ w
set_option maxRecDepth 100000 in
set_option maxHeartbeats 4000000 in
theorem kX9_delay {a0 : Nat} {a1 : Int32} {h : AH} {K : Int32 → AH → Prop} {T : String → AH → Prop} (w : wX9_delay a0 a1 h K T) : Cn mX9_delay (cwd mX9_delay) 9 1 6 [.ref a0, .int a1] h (KI K) T := by
  refine Cn_of (by decide +kernel) rfl (Nat.le_of_ble_eq_true rfl) ?_
  show X mX9_delay 9 (KI K) T 1 6 0 [(0, .ref a0), (1, .int a1)] [] h
  unfold wX9_delay at w
  refine X_aload_n (j := 0) (show decode cX9_delay 0 = .ok (.aload_n 0, 1) by decide +kernel) rfl rfl ?_
  refine X_iload_n (j := 1) (show decode cX9_delay 1 = .ok (.iload_n 1, 1) by decide +kernel) rfl rfl ?_
  obtain ⟨s4, w⟩ := w
  refine X_vR (rc' := 0) (rs' := 0) (as := [.int _]) mv_X9_180 (show decode cX9_delay 2 = .ok (.invokevirtual 180, 3) by decide +kernel) (by decide) (Nat.le_of_ble_eq_true rfl) (Nat.le_of_ble_eq_true rfl) rfl rfl (Nat.le_of_ble_eq_true rfl) (rcvD s4 (by decide) rfl) (kX9_presentTrain w) (fun E h hk => XT_out hk (fun x hx => absurd hx List.not_mem_nil)) (fun r2 h1 w => ?_)
  obtain ⟨s3, w⟩ := w
  refine X_getI fl_X9_221 (show decode cX9_delay 5 = .ok (.getfield 221, 3) by decide +kernel) s3 ?_
  exact X_iret ⟨(show decode cX9_delay 8 = .ok (.ireturn, 1) by decide +kernel), .int, rfl, rfl⟩ ⟨_, rfl, w⟩
set_option maxRecDepth 100000 in
set_option maxHeartbeats 4000000 in
theorem kX7_inQueue {a0 : Nat} {a1 : Int32} {h : AH} {K : Int32 → AH → Prop} (w : wX7_inQueue a0 a1 h K) : Cn mX7_inQueue (cwd mX7_inQueue) 1 0 0 [.ref a0, .int a1] h (KI K) T0 := by
  refine Cn_of (by decide +kernel) rfl (Nat.le_of_ble_eq_true rfl) ?_
  show X mX7_inQueue 1 (KI K) T0 0 0 0 [(0, .ref a0), (1, .int a1)] [] h
  unfold wX7_inQueue at w
  refine X_iload_n (j := 1) (show decode cX7_inQueue 0 = .ok (.iload_n 1, 1) by decide +kernel) rfl rfl ?_
  refine X_if_lt (tgt := 21) (show decode cX7_inQueue 1 = .ok (.ifCond .lt 20, 3) by decide +kernel) (by decide) ⟨fun c1 => ?_, fun c1 => ?_⟩
  · have w := w.1 c1
    refine X_iconst (v := (-1)) (show decode cX7_inQueue 21 = .ok (.iconst (-1), 1) by decide +kernel) (by decide) ?_
    exact X_iret ⟨(show decode cX7_inQueue 22 = .ok (.ireturn, 1) by decide +kernel), .int, rfl, rfl⟩ ⟨_, rfl, w⟩
  · have w := w.2 c1
    refine X_iload_n (j := 1) (show decode cX7_inQueue 4 = .ok (.iload_n 1, 1) by decide +kernel) rfl rfl ?_
    refine X_aload_n (j := 0) (show decode cX7_inQueue 5 = .ok (.aload_n 0, 1) by decide +kernel) rfl rfl ?_
    obtain ⟨s2, w⟩ := w
    refine X_getI fl_X7_32 (show decode cX7_inQueue 6 = .ok (.getfield 32, 3) by decide +kernel) s2 ?_
    refine X_icmp_ge (tgt := 21) (show decode cX7_inQueue 9 = .ok (.if_icmp .ge 12, 3) by decide +kernel) (by decide) ⟨fun c3 => ?_, fun c3 => ?_⟩
    · have w := w.1 c3
      refine X_iconst (v := (-1)) (show decode cX7_inQueue 21 = .ok (.iconst (-1), 1) by decide +kernel) (by decide) ?_
      exact X_iret ⟨(show decode cX7_inQueue 22 = .ok (.ireturn, 1) by decide +kernel), .int, rfl, rfl⟩ ⟨_, rfl, w⟩
    · have w := w.2 c3
      refine X_aload_n (j := 0) (show decode cX7_inQueue 12 = .ok (.aload_n 0, 1) by decide +kernel) rfl rfl ?_
      refine X_getR fl_X7_24 (show decode cX7_inQueue 13 = .ok (.getfield 24, 3) by decide +kernel) s2 ?_
      refine X_iload_n (j := 1) (show decode cX7_inQueue 16 = .ok (.iload_n 1, 1) by decide +kernel) rfl rfl ?_
      obtain ⟨s4, w⟩ := w
      obtain ⟨s5, w⟩ := w
      refine X_iald (show decode cX7_inQueue 17 = .ok (.iaload, 1) by decide +kernel) (isA_eq s4) s5 ?_
      refine X_goto (tgt := 22) (show decode cX7_inQueue 18 = .ok (.goto 4, 3) by decide +kernel) (by decide) ?_
      exact X_iret ⟨(show decode cX7_inQueue 22 = .ok (.ireturn, 1) by decide +kernel), .int, rfl, rfl⟩ ⟨_, rfl, w⟩
set_option maxRecDepth 100000 in
set_option maxHeartbeats 4000000 in
theorem kX9_queued {a0 : Nat} {a1 : Int32} {h : AH} {K : Int32 → AH → Prop} {T : String → AH → Prop} (w : wX9_queued a0 a1 h K T) : Cn mX9_queued (cwd mX9_queued) 8 1 6 [.ref a0, .int a1] h (KI K) T := by
  refine Cn_of (by decide +kernel) rfl (Nat.le_of_ble_eq_true rfl) ?_
  show X mX9_queued 8 (KI K) T 1 6 0 [(0, .ref a0), (1, .int a1)] [] h
  unfold wX9_queued at w
  refine X_aload_n (j := 0) (show decode cX9_queued 0 = .ok (.aload_n 0, 1) by decide +kernel) rfl rfl ?_
  obtain ⟨s1, w⟩ := w
  refine X_getR fl_X9_12 (show decode cX9_queued 1 = .ok (.getfield 12, 3) by decide +kernel) s1 ?_
  refine X_iload_n (j := 1) (show decode cX9_queued 4 = .ok (.iload_n 1, 1) by decide +kernel) rfl rfl ?_
  obtain ⟨s5, w⟩ := w
  refine X_vI (rc' := 1) (rs' := 6) (as := [.int _]) mv_X9_224 (show decode cX9_queued 5 = .ok (.invokevirtual 224, 3) by decide +kernel) (by decide) (Nat.le_of_ble_eq_true rfl) (Nat.le_of_ble_eq_true rfl) rfl rfl (Nat.le_of_ble_eq_true rfl) (rcvD s5 (by decide) rfl) (kX7_inQueue w) (fun E h hk => hk.elim) (fun r3 h2 w => ?_)
  refine X_istore_n (ls' := [(0, .ref _), (1, .int _), (2, .int _)]) (show decode cX9_queued 8 = .ok (.istore_n 2, 1) by decide +kernel) rfl (by decide) rfl ?_
  refine X_iload_n (j := 2) (show decode cX9_queued 9 = .ok (.iload_n 2, 1) by decide +kernel) rfl rfl ?_
  refine X_iconst (v := (-1)) (show decode cX9_queued 10 = .ok (.iconst (-1), 1) by decide +kernel) (by decide) ?_
  refine X_icmp_ne (tgt := 24) (show decode cX9_queued 11 = .ok (.if_icmp .ne 13, 3) by decide +kernel) (by decide) ⟨fun c4 => ?_, fun c4 => ?_⟩
  · have w := w.1 c4
    refine X_iload_n (j := 2) (show decode cX9_queued 24 = .ok (.iload_n 2, 1) by decide +kernel) rfl rfl ?_
    exact X_iret ⟨(show decode cX9_queued 25 = .ok (.ireturn, 1) by decide +kernel), .int, rfl, rfl⟩ ⟨_, rfl, w⟩
  · have w := w.2 c4
    exact X_throwN (w := 0) tn_X9_131_227 (show decode cX9_queued 14 = .ok (.new 131, 3) by decide +kernel) (show decode cX9_queued 17 = .ok (.dup, 1) by decide +kernel) (Or.inl ⟨rfl, (show decode cX9_queued 18 = .ok (.ldc 227, 2) by decide +kernel)⟩) (show decode cX9_queued 20 = .ok (.invokespecial 135, 3) by decide +kernel) (show decode cX9_queued 23 = .ok (.athrow, 1) by decide +kernel) (fun x hx => absurd hx List.not_mem_nil) (by decide) (Nat.le_of_ble_eq_true rfl) (Nat.le_of_ble_eq_true rfl) (Nat.le_of_ble_eq_true rfl) w
set_option maxRecDepth 100000 in
set_option maxHeartbeats 4000000 in
theorem kX7_routeOf {a0 : Nat} {a1 : Nat} {h : AH} {K : Int32 → AH → Prop} (w : wX7_routeOf a0 a1 h K) : Cn mX7_routeOf (cwd mX7_routeOf) 3 0 0 [.ref a0, .ref a1] h (KI K) T0 := by
  refine Cn_of (by decide +kernel) rfl (Nat.le_of_ble_eq_true rfl) ?_
  show X mX7_routeOf 3 (KI K) T0 0 0 0 [(0, .ref a0), (1, .ref a1)] [] h
  unfold wX7_routeOf at w
  refine X_aload_n (j := 0) (show decode cX7_routeOf 0 = .ok (.aload_n 0, 1) by decide +kernel) rfl rfl ?_
  obtain ⟨s1, w⟩ := w
  refine X_getR fl_X7_12 (show decode cX7_routeOf 1 = .ok (.getfield 12, 3) by decide +kernel) s1 ?_
  refine X_aload_n (j := 1) (show decode cX7_routeOf 4 = .ok (.aload_n 1, 1) by decide +kernel) rfl rfl ?_
  obtain ⟨s2, w⟩ := w
  refine X_getI fl_X7_119 (show decode cX7_routeOf 5 = .ok (.getfield 119, 3) by decide +kernel) s2 ?_
  refine X_aload_n (j := 1) (show decode cX7_routeOf 8 = .ok (.aload_n 1, 1) by decide +kernel) rfl rfl ?_
  refine X_getI fl_X7_122 (show decode cX7_routeOf 9 = .ok (.getfield 122, 3) by decide +kernel) s2 ?_
  obtain ⟨s5, w⟩ := w
  refine X_vI (rc' := 0) (rs' := 0) (as := [.int _, .int _]) mv_X7_125 (show decode cX7_routeOf 12 = .ok (.invokevirtual 125, 3) by decide +kernel) (by decide) (Nat.le_of_ble_eq_true rfl) (Nat.le_of_ble_eq_true rfl) rfl rfl (Nat.le_of_ble_eq_true rfl) (rcvD s5 (by decide) rfl) (kX4_routeBlocks w) (fun E h hk => hk.elim) (fun r4 h3 w => ?_)
  exact X_iret ⟨(show decode cX7_routeOf 15 = .ok (.ireturn, 1) by decide +kernel), .int, rfl, rfl⟩ ⟨_, rfl, w⟩
set_option maxRecDepth 100000 in
set_option maxHeartbeats 4000000 in
theorem kX7_waits {a0 : Nat} {a1 : Nat} {a2 : Nat} {h : AH} {K : Int32 → AH → Prop} (w : wX7_waits a0 a1 a2 h K) : Cn mX7_waits (cwd mX7_waits) 4 0 0 [.ref a0, .ref a1, .ref a2] h (KI K) T0 := by
  refine Cn_of (by decide +kernel) rfl (Nat.le_of_ble_eq_true rfl) ?_
  show X mX7_waits 4 (KI K) T0 0 0 0 [(0, .ref a0), (1, .ref a1), (2, .ref a2)] [] h
  unfold wX7_waits at w
  refine X_aload_n (j := 1) (show decode cX7_waits 0 = .ok (.aload_n 1, 1) by decide +kernel) rfl rfl ?_
  obtain ⟨s11, w⟩ := w
  refine X_vI (rc' := 0) (rs' := 0) (as := []) mv_X7_129 (show decode cX7_waits 1 = .ok (.invokevirtual 129, 3) by decide +kernel) (by decide) (Nat.le_of_ble_eq_true rfl) (Nat.le_of_ble_eq_true rfl) rfl rfl (Nat.le_of_ble_eq_true rfl) (rcvD s11 (by decide) rfl) (kX8_isRouted w) (fun E h hk => hk.elim) (fun r2 h1 w => ?_)
  refine X_if_ne (tgt := 24) (show decode cX7_waits 4 = .ok (.ifCond .ne 20, 3) by decide +kernel) (by decide) ⟨fun c3 => ?_, fun c3 => ?_⟩
  · have w := w.1 c3
    refine X_iconst (v := (nI 0)) (show decode cX7_waits 24 = .ok (.iconst 0, 1) by decide +kernel) (by decide) ?_
    exact X_iret ⟨(show decode cX7_waits 25 = .ok (.ireturn, 1) by decide +kernel), .boolean, rfl, (by decide)⟩ ⟨_, rfl, w⟩
  · have w := w.2 c3
    refine X_aload_n (j := 0) (show decode cX7_waits 7 = .ok (.aload_n 0, 1) by decide +kernel) rfl rfl ?_
    refine X_aload_n (j := 1) (show decode cX7_waits 8 = .ok (.aload_n 1, 1) by decide +kernel) rfl rfl ?_
    obtain ⟨s10, w⟩ := w
    refine X_vI (rc' := 0) (rs' := 0) (as := [.ref _]) mv_X7_181 (show decode cX7_waits 9 = .ok (.invokevirtual 181, 3) by decide +kernel) (by decide) (Nat.le_of_ble_eq_true rfl) (Nat.le_of_ble_eq_true rfl) rfl rfl (Nat.le_of_ble_eq_true rfl) (rcvD s10 (by decide) rfl) (kX7_routeOf w) (fun E h hk => hk.elim) (fun r5 h4 w => ?_)
    refine X_aload_n (j := 2) (show decode cX7_waits 12 = .ok (.aload_n 2, 1) by decide +kernel) rfl rfl ?_
    obtain ⟨s9, w⟩ := w
    refine X_vI (rc' := 0) (rs' := 0) (as := []) mv_X7_65 (show decode cX7_waits 13 = .ok (.invokevirtual 65, 3) by decide +kernel) (by decide) (Nat.le_of_ble_eq_true rfl) (Nat.le_of_ble_eq_true rfl) rfl rfl (Nat.le_of_ble_eq_true rfl) (rcvD s9 (by decide) rfl) (kX8_held w) (fun E h hk => hk.elim) (fun r7 h6 w => ?_)
    refine X_iand (show decode cX7_waits 16 = .ok (.iand, 1) by decide +kernel) ?_
    refine X_if_eq (tgt := 24) (show decode cX7_waits 17 = .ok (.ifCond .eq 7, 3) by decide +kernel) (by decide) ⟨fun c8 => ?_, fun c8 => ?_⟩
    · have w := w.1 c8
      refine X_iconst (v := (nI 0)) (show decode cX7_waits 24 = .ok (.iconst 0, 1) by decide +kernel) (by decide) ?_
      exact X_iret ⟨(show decode cX7_waits 25 = .ok (.ireturn, 1) by decide +kernel), .boolean, rfl, (by decide)⟩ ⟨_, rfl, w⟩
    · have w := w.2 c8
      refine X_iconst (v := (nI 1)) (show decode cX7_waits 20 = .ok (.iconst 1, 1) by decide +kernel) (by decide) ?_
      refine X_goto (tgt := 25) (show decode cX7_waits 21 = .ok (.goto 4, 3) by decide +kernel) (by decide) ?_
      exact X_iret ⟨(show decode cX7_waits 25 = .ok (.ireturn, 1) by decide +kernel), .boolean, rfl, (by decide)⟩ ⟨_, rfl, w⟩
set_option maxRecDepth 100000 in
set_option maxHeartbeats 4000000 in
theorem kX9_waitsFor {a0 : Nat} {a1 : Int32} {a2 : Int32} {h : AH} {K : Int32 → AH → Prop} {T : String → AH → Prop} (w : wX9_waitsFor a0 a1 a2 h K T) : Cn mX9_waitsFor (cwd mX9_waitsFor) 9 2 12 [.ref a0, .int a1, .int a2] h (KI K) T := by
  refine Cn_of (by decide +kernel) rfl (Nat.le_of_ble_eq_true rfl) ?_
  show X mX9_waitsFor 9 (KI K) T 2 12 0 [(0, .ref a0), (1, .int a1), (2, .int a2)] [] h
  unfold wX9_waitsFor at w
  refine X_aload_n (j := 0) (show decode cX9_waitsFor 0 = .ok (.aload_n 0, 1) by decide +kernel) rfl rfl ?_
  refine X_iload_n (j := 1) (show decode cX9_waitsFor 1 = .ok (.iload_n 1, 1) by decide +kernel) rfl rfl ?_
  obtain ⟨s12, w⟩ := w
  refine X_vR (rc' := 1) (rs' := 6) (as := [.int _]) mv_X9_180 (show decode cX9_waitsFor 2 = .ok (.invokevirtual 180, 3) by decide +kernel) (by decide) (Nat.le_of_ble_eq_true rfl) (Nat.le_of_ble_eq_true rfl) rfl rfl (Nat.le_of_ble_eq_true rfl) (rcvD s12 (by decide) rfl) (kX9_presentTrain w) (fun E h hk => XT_out hk (fun x hx => absurd hx List.not_mem_nil)) (fun r2 h1 w => ?_)
  refine X_astore_n (ls' := [(0, .ref _), (1, .int _), (2, .int _), (3, .ref _)]) (show decode cX9_waitsFor 5 = .ok (.astore_n 3, 1) by decide +kernel) rfl (by decide) rfl ?_
  refine X_aload_n (j := 0) (show decode cX9_waitsFor 6 = .ok (.aload_n 0, 1) by decide +kernel) rfl rfl ?_
  refine X_iload_n (j := 2) (show decode cX9_waitsFor 7 = .ok (.iload_n 2, 1) by decide +kernel) rfl rfl ?_
  obtain ⟨s11, w⟩ := w
  refine X_vR (rc' := 0) (rs' := 0) (as := [.int _]) mv_X9_180 (show decode cX9_waitsFor 8 = .ok (.invokevirtual 180, 3) by decide +kernel) (by decide) (Nat.le_of_ble_eq_true rfl) (Nat.le_of_ble_eq_true rfl) rfl rfl (Nat.le_of_ble_eq_true rfl) (rcvD s11 (by decide) rfl) (kX9_presentTrain w) (fun E h hk => XT_out hk (fun x hx => absurd hx List.not_mem_nil)) (fun r4 h3 w => ?_)
  refine X_astore (ls' := [(0, .ref _), (1, .int _), (2, .int _), (3, .ref _), (4, .ref _)]) (show decode cX9_waitsFor 11 = .ok (.astore 4, 2) by decide +kernel) (by decide) rfl ?_
  refine X_iload_n (j := 1) (show decode cX9_waitsFor 13 = .ok (.iload_n 1, 1) by decide +kernel) rfl rfl ?_
  refine X_iload_n (j := 2) (show decode cX9_waitsFor 14 = .ok (.iload_n 2, 1) by decide +kernel) rfl rfl ?_
  refine X_icmp_eq (tgt := 35) (show decode cX9_waitsFor 15 = .ok (.if_icmp .eq 20, 3) by decide +kernel) (by decide) ⟨fun c5 => ?_, fun c5 => ?_⟩
  · have w := w.1 c5
    refine X_iconst (v := (nI 0)) (show decode cX9_waitsFor 35 = .ok (.iconst 0, 1) by decide +kernel) (by decide) ?_
    exact X_iret ⟨(show decode cX9_waitsFor 36 = .ok (.ireturn, 1) by decide +kernel), .boolean, rfl, (by decide)⟩ ⟨_, rfl, w⟩
  · have w := w.2 c5
    refine X_aload_n (j := 0) (show decode cX9_waitsFor 18 = .ok (.aload_n 0, 1) by decide +kernel) rfl rfl ?_
    obtain ⟨s6, w⟩ := w
    refine X_getR fl_X9_12 (show decode cX9_waitsFor 19 = .ok (.getfield 12, 3) by decide +kernel) s6 ?_
    refine X_aload_n (j := 3) (show decode cX9_waitsFor 22 = .ok (.aload_n 3, 1) by decide +kernel) rfl rfl ?_
    refine X_aload (j := 4) (show decode cX9_waitsFor 23 = .ok (.aload 4, 2) by decide +kernel) rfl ?_
    obtain ⟨s10, w⟩ := w
    refine X_vI (rc' := 0) (rs' := 0) (as := [.ref _, .ref _]) mv_X9_229 (show decode cX9_waitsFor 25 = .ok (.invokevirtual 229, 3) by decide +kernel) (by decide) (Nat.le_of_ble_eq_true rfl) (Nat.le_of_ble_eq_true rfl) rfl rfl (Nat.le_of_ble_eq_true rfl) (rcvD s10 (by decide) rfl) (kX7_waits w) (fun E h hk => hk.elim) (fun r8 h7 w => ?_)
    refine X_if_eq (tgt := 35) (show decode cX9_waitsFor 28 = .ok (.ifCond .eq 7, 3) by decide +kernel) (by decide) ⟨fun c9 => ?_, fun c9 => ?_⟩
    · have w := w.1 c9
      refine X_iconst (v := (nI 0)) (show decode cX9_waitsFor 35 = .ok (.iconst 0, 1) by decide +kernel) (by decide) ?_
      exact X_iret ⟨(show decode cX9_waitsFor 36 = .ok (.ireturn, 1) by decide +kernel), .boolean, rfl, (by decide)⟩ ⟨_, rfl, w⟩
    · have w := w.2 c9
      refine X_iconst (v := (nI 1)) (show decode cX9_waitsFor 31 = .ok (.iconst 1, 1) by decide +kernel) (by decide) ?_
      refine X_goto (tgt := 36) (show decode cX9_waitsFor 32 = .ok (.goto 4, 3) by decide +kernel) (by decide) ?_
      exact X_iret ⟨(show decode cX9_waitsFor 36 = .ok (.ireturn, 1) by decide +kernel), .boolean, rfl, (by decide)⟩ ⟨_, rfl, w⟩
set_option maxRecDepth 100000 in
set_option maxHeartbeats 4000000 in
theorem kX6_begin {a0 : Nat} {a1 : Int32} {h : AH} {K : AH → Prop} (w : wX6_begin a0 a1 h K) : Cn mX6_begin (cwd mX6_begin) 2 0 0 [.ref a0, .int a1] h (KV K) T0 := by
  refine Cn_of (by decide +kernel) rfl (Nat.le_of_ble_eq_true rfl) ?_
  show X mX6_begin 2 (KV K) T0 0 0 0 [(0, .ref a0), (1, .int a1)] [] h
  unfold wX6_begin at w
  refine X_aload_n (j := 0) (show decode cX6_begin 0 = .ok (.aload_n 0, 1) by decide +kernel) rfl rfl ?_
  refine X_iconst (v := (nI 0)) (show decode cX6_begin 1 = .ok (.iconst 0, 1) by decide +kernel) (by decide) ?_
  refine X_iload_n (j := 1) (show decode cX6_begin 2 = .ok (.iload_n 1, 1) by decide +kernel) rfl rfl ?_
  refine X_bipush (v := (nI 8)) (show decode cX6_begin 3 = .ok (.bipush 8, 2) by decide +kernel) (by decide) ?_
  refine X_mmin (show decode cX6_begin 5 = .ok (.invokestatic 34, 3) by decide +kernel) gl_X6_34 gst_min gin_Math gco_min (by decide) (Nat.le_of_ble_eq_true rfl) ?_
  refine X_mmax (show decode cX6_begin 8 = .ok (.invokestatic 40, 3) by decide +kernel) gl_X6_40 gst_max gin_Math gco_max (by decide) (Nat.le_of_ble_eq_true rfl) ?_
  obtain ⟨s1, w⟩ := w
  refine X_putI fp_X6_9 (show decode cX6_begin 11 = .ok (.putfield 9, 3) by decide +kernel) (fun z => nomatch z) s1 rfl rfl ?_
  have w := w _ rfl
  refine X_aload_n (j := 0) (show decode cX6_begin 14 = .ok (.aload_n 0, 1) by decide +kernel) rfl rfl ?_
  refine X_getR fl_X6_15 (show decode cX6_begin 15 = .ok (.getfield 15, 3) by decide +kernel) s1 ?_
  refine X_iconst (v := (nI 0)) (show decode cX6_begin 18 = .ok (.iconst 0, 1) by decide +kernel) (by decide) ?_
  refine X_sV (rc' := 0) (rs' := 0) (as := [.ref _, .int _]) ms_X6_43 (show decode cX6_begin 19 = .ok (.invokestatic 43, 3) by decide +kernel) (by decide) (Nat.le_of_ble_eq_true rfl) (Nat.le_of_ble_eq_true rfl) rfl rfl (Nat.le_of_ble_eq_true rfl) (kJ7_fill_53178 w) (fun E h hk => hk.elim) (fun h3 w => ?_)
  exact X_vret ⟨(show decode cX6_begin 22 = .ok (.return_, 1) by decide +kernel), rfl⟩ ⟨rfl, w⟩
