set_option maxRecDepth 100000 in
set_option maxHeartbeats 4000000 in
theorem kX4_makeBlock {a0 : Nat} {a1 : Int32} {h : AH} {K : Int32 → AH → Prop} (w : wX4_makeBlock a0 a1 h K) : Cn mX4_makeBlock (cwd mX4_makeBlock) 5 0 0 [.ref a0, .int a1] h (KI K) T0 := by
  refine Cn_of (by decide +kernel) rfl (Nat.le_of_ble_eq_true rfl) ?_
  show X mX4_makeBlock 5 (KI K) T0 0 0 0 [(0, .ref a0), (1, .int a1)] [] h
  unfold wX4_makeBlock at w
  refine X_iload_n (j := 1) (show decode cX4_makeBlock 0 = .ok (.iload_n 1, 1) by decide +kernel) rfl rfl ?_
  refine X_iconst (v := (nI 1)) (show decode cX4_makeBlock 1 = .ok (.iconst 1, 1) by decide +kernel) (by decide) ?_
  refine X_icmp_lt (tgt := 11) (show decode cX4_makeBlock 2 = .ok (.if_icmp .lt 9, 3) by decide +kernel) (by decide) ⟨fun c1 => ?_, fun c1 => ?_⟩
  · have w := w.1 c1
    refine X_bipush (v := (-2)) (show decode cX4_makeBlock 11 = .ok (.bipush (-2), 2) by decide +kernel) (by decide) ?_
    exact X_iret ⟨(show decode cX4_makeBlock 13 = .ok (.ireturn, 1) by decide +kernel), .int, rfl, rfl⟩ ⟨_, rfl, w⟩
  · have w := w.2 c1
    refine X_iload_n (j := 1) (show decode cX4_makeBlock 5 = .ok (.iload_n 1, 1) by decide +kernel) rfl rfl ?_
    refine X_bipush (v := (nI 9)) (show decode cX4_makeBlock 6 = .ok (.bipush 9, 2) by decide +kernel) (by decide) ?_
    refine X_icmp_le (tgt := 14) (show decode cX4_makeBlock 8 = .ok (.if_icmp .le 6, 3) by decide +kernel) (by decide) ⟨fun c2 => ?_, fun c2 => ?_⟩
    · have w := w.1 c2
      refine X_aload_n (j := 0) (show decode cX4_makeBlock 14 = .ok (.aload_n 0, 1) by decide +kernel) rfl rfl ?_
      obtain ⟨s3, w⟩ := w
      refine X_getI fl_X4_9 (show decode cX4_makeBlock 15 = .ok (.getfield 9, 3) by decide +kernel) s3 ?_
      refine X_bipush (v := (nI 12)) (show decode cX4_makeBlock 18 = .ok (.bipush 12, 2) by decide +kernel) (by decide) ?_
      refine X_icmp_lt (tgt := 26) (show decode cX4_makeBlock 20 = .ok (.if_icmp .lt 6, 3) by decide +kernel) (by decide) ⟨fun c4 => ?_, fun c4 => ?_⟩
      · have w := w.1 c4
        refine X_aload_n (j := 0) (show decode cX4_makeBlock 26 = .ok (.aload_n 0, 1) by decide +kernel) rfl rfl ?_
        refine X_getR fl_X4_27 (show decode cX4_makeBlock 27 = .ok (.getfield 27, 3) by decide +kernel) s3 ?_
        refine X_aload_n (j := 0) (show decode cX4_makeBlock 30 = .ok (.aload_n 0, 1) by decide +kernel) rfl rfl ?_
        refine X_getI fl_X4_9 (show decode cX4_makeBlock 31 = .ok (.getfield 9, 3) by decide +kernel) s3 ?_
        refine X_iload_n (j := 1) (show decode cX4_makeBlock 34 = .ok (.iload_n 1, 1) by decide +kernel) rfl rfl ?_
        obtain ⟨s5, w⟩ := w
        obtain ⟨s6, w⟩ := w
        obtain ⟨s7, w⟩ := w
        refine X_iast (show decode cX4_makeBlock 35 = .ok (.iastore, 1) by decide +kernel) (isA_eq s5) s6 s7 ?_
        have w := w _ rfl
        refine X_aload_n (j := 0) (show decode cX4_makeBlock 36 = .ok (.aload_n 0, 1) by decide +kernel) rfl rfl ?_
        refine X_getR fl_X4_31 (show decode cX4_makeBlock 37 = .ok (.getfield 31, 3) by decide +kernel) s3 ?_
        refine X_aload_n (j := 0) (show decode cX4_makeBlock 40 = .ok (.aload_n 0, 1) by decide +kernel) rfl rfl ?_
        refine X_getI fl_X4_9 (show decode cX4_makeBlock 41 = .ok (.getfield 9, 3) by decide +kernel) s3 ?_
        refine X_iconst (v := (-1)) (show decode cX4_makeBlock 44 = .ok (.iconst (-1), 1) by decide +kernel) (by decide) ?_
        obtain ⟨s9, w⟩ := w
        obtain ⟨s10, w⟩ := w
        obtain ⟨s11, w⟩ := w
        refine X_iast (show decode cX4_makeBlock 45 = .ok (.iastore, 1) by decide +kernel) (isA_eq s9) s10 s11 ?_
        have w := w _ rfl
        refine X_aload_n (j := 0) (show decode cX4_makeBlock 46 = .ok (.aload_n 0, 1) by decide +kernel) rfl rfl ?_
        refine X_getR fl_X4_34 (show decode cX4_makeBlock 47 = .ok (.getfield 34, 3) by decide +kernel) s3 ?_
        refine X_aload_n (j := 0) (show decode cX4_makeBlock 50 = .ok (.aload_n 0, 1) by decide +kernel) rfl rfl ?_
        refine X_getI fl_X4_9 (show decode cX4_makeBlock 51 = .ok (.getfield 9, 3) by decide +kernel) s3 ?_
        refine X_iconst (v := (-1)) (show decode cX4_makeBlock 54 = .ok (.iconst (-1), 1) by decide +kernel) (by decide) ?_
        obtain ⟨s13, w⟩ := w
        obtain ⟨s14, w⟩ := w
        obtain ⟨s15, w⟩ := w
        refine X_iast (show decode cX4_makeBlock 55 = .ok (.iastore, 1) by decide +kernel) (isA_eq s13) s14 s15 ?_
        have w := w _ rfl
        refine X_aload_n (j := 0) (show decode cX4_makeBlock 56 = .ok (.aload_n 0, 1) by decide +kernel) rfl rfl ?_
        refine X_dup (show decode cX4_makeBlock 57 = .ok (.dup, 1) by decide +kernel) rfl ?_
        refine X_getI fl_X4_9 (show decode cX4_makeBlock 58 = .ok (.getfield 9, 3) by decide +kernel) s3 ?_
        refine X_iconst (v := (nI 1)) (show decode cX4_makeBlock 61 = .ok (.iconst 1, 1) by decide +kernel) (by decide) ?_
        refine X_iadd (show decode cX4_makeBlock 62 = .ok (.iadd, 1) by decide +kernel) ?_
        refine X_putI fp_X4_9 (show decode cX4_makeBlock 63 = .ok (.putfield 9, 3) by decide +kernel) (fun z => nomatch z) s3 rfl rfl ?_
        have w := w _ rfl
        refine X_aload_n (j := 0) (show decode cX4_makeBlock 66 = .ok (.aload_n 0, 1) by decide +kernel) rfl rfl ?_
        refine X_vV (rc' := 0) (rs' := 0) (as := []) mv_X4_72 (show decode cX4_makeBlock 67 = .ok (.invokevirtual 72, 3) by decide +kernel) (by decide) (Nat.le_of_ble_eq_true rfl) (Nat.le_of_ble_eq_true rfl) rfl rfl (Nat.le_of_ble_eq_true rfl) (rcvD s3 (by decide) rfl) (kX4_learnRoutes w) (fun E h hk => hk.elim) (fun h18 w => ?_)
        refine X_aload_n (j := 0) (show decode cX4_makeBlock 70 = .ok (.aload_n 0, 1) by decide +kernel) rfl rfl ?_
        obtain ⟨s20, w⟩ := w
        refine X_getI fl_X4_9 (show decode cX4_makeBlock 71 = .ok (.getfield 9, 3) by decide +kernel) s20 ?_
        refine X_iconst (v := (nI 1)) (show decode cX4_makeBlock 74 = .ok (.iconst 1, 1) by decide +kernel) (by decide) ?_
        refine X_isub (show decode cX4_makeBlock 75 = .ok (.isub, 1) by decide +kernel) ?_
        exact X_iret ⟨(show decode cX4_makeBlock 76 = .ok (.ireturn, 1) by decide +kernel), .int, rfl, rfl⟩ ⟨_, rfl, w⟩
      · have w := w.2 c4
        refine X_bipush (v := (-3)) (show decode cX4_makeBlock 23 = .ok (.bipush (-3), 2) by decide +kernel) (by decide) ?_
        exact X_iret ⟨(show decode cX4_makeBlock 25 = .ok (.ireturn, 1) by decide +kernel), .int, rfl, rfl⟩ ⟨_, rfl, w⟩
    · have w := w.2 c2
      refine X_bipush (v := (-2)) (show decode cX4_makeBlock 11 = .ok (.bipush (-2), 2) by decide +kernel) (by decide) ?_
      exact X_iret ⟨(show decode cX4_makeBlock 13 = .ok (.ireturn, 1) by decide +kernel), .int, rfl, rfl⟩ ⟨_, rfl, w⟩
set_option maxRecDepth 100000 in
set_option maxHeartbeats 4000000 in
theorem kX9_throwFor {a0 : Int32} {h : AH} {K : AH → Prop} {T : String → AH → Prop} (w : wX9_throwFor a0 h K T) : Cn mX9_throwFor (cwd mX9_throwFor) 8 1 6 [.int a0] h (KV K) T := by
  refine Cn_of (by decide +kernel) rfl (Nat.le_of_ble_eq_true rfl) ?_
  show X mX9_throwFor 8 (KV K) T 1 6 0 [(0, .int a0)] [] h
  unfold wX9_throwFor at w
  refine X_iload_n (j := 0) (show decode cX9_throwFor 0 = .ok (.iload_n 0, 1) by decide +kernel) rfl rfl ?_
  refine X_iconst (v := (-1)) (show decode cX9_throwFor 1 = .ok (.iconst (-1), 1) by decide +kernel) (by decide) ?_
  refine X_icmp_ne (tgt := 16) (show decode cX9_throwFor 2 = .ok (.if_icmp .ne 14, 3) by decide +kernel) (by decide) ⟨fun c1 => ?_, fun c1 => ?_⟩
  · have w := w.1 c1
    refine X_iload_n (j := 0) (show decode cX9_throwFor 16 = .ok (.iload_n 0, 1) by decide +kernel) rfl rfl ?_
    refine X_bipush (v := (-2)) (show decode cX9_throwFor 17 = .ok (.bipush (-2), 2) by decide +kernel) (by decide) ?_
    refine X_icmp_ne (tgt := 33) (show decode cX9_throwFor 19 = .ok (.if_icmp .ne 14, 3) by decide +kernel) (by decide) ⟨fun c2 => ?_, fun c2 => ?_⟩
    · have w := w.1 c2
      refine X_iload_n (j := 0) (show decode cX9_throwFor 33 = .ok (.iload_n 0, 1) by decide +kernel) rfl rfl ?_
      refine X_bipush (v := (-4)) (show decode cX9_throwFor 34 = .ok (.bipush (-4), 2) by decide +kernel) (by decide) ?_
      refine X_icmp_ne (tgt := 50) (show decode cX9_throwFor 36 = .ok (.if_icmp .ne 14, 3) by decide +kernel) (by decide) ⟨fun c3 => ?_, fun c3 => ?_⟩
      · have w := w.1 c3
        refine X_iload_n (j := 0) (show decode cX9_throwFor 50 = .ok (.iload_n 0, 1) by decide +kernel) rfl rfl ?_
        refine X_bipush (v := (-5)) (show decode cX9_throwFor 51 = .ok (.bipush (-5), 2) by decide +kernel) (by decide) ?_
        refine X_icmp_ne (tgt := 67) (show decode cX9_throwFor 53 = .ok (.if_icmp .ne 14, 3) by decide +kernel) (by decide) ⟨fun c4 => ?_, fun c4 => ?_⟩
        · have w := w.1 c4
          exact X_throwSW tw_X9_324_385 (show decode cX9_throwFor 67 = .ok (.new 324, 3) by decide +kernel) (show decode cX9_throwFor 70 = .ok (.dup, 1) by decide +kernel) (show decode cX9_throwFor 71 = .ok (.ldc_w 385, 3) by decide +kernel) (show decode cX9_throwFor 74 = .ok (.invokespecial 328, 3) by decide +kernel) (show decode cX9_throwFor 77 = .ok (.athrow, 1) by decide +kernel) (fun x hx => absurd hx List.not_mem_nil) (by decide) (Nat.le_of_ble_eq_true rfl) (Nat.le_of_ble_eq_true rfl) (Nat.le_of_ble_eq_true rfl) w
        · have w := w.2 c4
          exact X_throwSW tw_X9_351_383 (show decode cX9_throwFor 56 = .ok (.new 351, 3) by decide +kernel) (show decode cX9_throwFor 59 = .ok (.dup, 1) by decide +kernel) (show decode cX9_throwFor 60 = .ok (.ldc_w 383, 3) by decide +kernel) (show decode cX9_throwFor 63 = .ok (.invokespecial 355, 3) by decide +kernel) (show decode cX9_throwFor 66 = .ok (.athrow, 1) by decide +kernel) (fun x hx => absurd hx List.not_mem_nil) (by decide) (Nat.le_of_ble_eq_true rfl) (Nat.le_of_ble_eq_true rfl) (Nat.le_of_ble_eq_true rfl) w
      · have w := w.2 c3
        exact X_throwN (w := 1) tn_X9_131_381 (show decode cX9_throwFor 39 = .ok (.new 131, 3) by decide +kernel) (show decode cX9_throwFor 42 = .ok (.dup, 1) by decide +kernel) (Or.inr ⟨rfl, (show decode cX9_throwFor 43 = .ok (.ldc_w 381, 3) by decide +kernel)⟩) (show decode cX9_throwFor 46 = .ok (.invokespecial 135, 3) by decide +kernel) (show decode cX9_throwFor 49 = .ok (.athrow, 1) by decide +kernel) (fun x hx => absurd hx List.not_mem_nil) (by decide) (Nat.le_of_ble_eq_true rfl) (Nat.le_of_ble_eq_true rfl) (Nat.le_of_ble_eq_true rfl) w
    · have w := w.2 c2
      exact X_throwSW tw_X9_244_379 (show decode cX9_throwFor 22 = .ok (.new 244, 3) by decide +kernel) (show decode cX9_throwFor 25 = .ok (.dup, 1) by decide +kernel) (show decode cX9_throwFor 26 = .ok (.ldc_w 379, 3) by decide +kernel) (show decode cX9_throwFor 29 = .ok (.invokespecial 248, 3) by decide +kernel) (show decode cX9_throwFor 32 = .ok (.athrow, 1) by decide +kernel) (fun x hx => absurd hx List.not_mem_nil) (by decide) (Nat.le_of_ble_eq_true rfl) (Nat.le_of_ble_eq_true rfl) (Nat.le_of_ble_eq_true rfl) w
  · have w := w.2 c1
    exact X_throwSW tw_X9_313_377 (show decode cX9_throwFor 5 = .ok (.new 313, 3) by decide +kernel) (show decode cX9_throwFor 8 = .ok (.dup, 1) by decide +kernel) (show decode cX9_throwFor 9 = .ok (.ldc_w 377, 3) by decide +kernel) (show decode cX9_throwFor 12 = .ok (.invokespecial 317, 3) by decide +kernel) (show decode cX9_throwFor 15 = .ok (.athrow, 1) by decide +kernel) (fun x hx => absurd hx List.not_mem_nil) (by decide) (Nat.le_of_ble_eq_true rfl) (Nat.le_of_ble_eq_true rfl) (Nat.le_of_ble_eq_true rfl) w
set_option maxRecDepth 100000 in
set_option maxHeartbeats 4000000 in
theorem kX2_commit {a0 : Nat} {h : AH} {K : AH → Prop} (w : wX2_commit a0 h K) : Cn mX2_commit (cwd mX2_commit) 2 0 0 [.ref a0] h (KV K) T0 := by
  refine Cn_of (by decide +kernel) rfl (Nat.le_of_ble_eq_true rfl) ?_
  show X mX2_commit 2 (KV K) T0 0 0 0 [(0, .ref a0)] [] h
  unfold wX2_commit at w
  refine X_aload_n (j := 0) (show decode cX2_commit 0 = .ok (.aload_n 0, 1) by decide +kernel) rfl rfl ?_
  refine X_aload_n (j := 0) (show decode cX2_commit 1 = .ok (.aload_n 0, 1) by decide +kernel) rfl rfl ?_
  obtain ⟨s1, w⟩ := w
  refine X_getI fl_X2_17 (show decode cX2_commit 2 = .ok (.getfield 17, 3) by decide +kernel) s1 ?_
  refine X_iconst (v := (nI 1)) (show decode cX2_commit 5 = .ok (.iconst 1, 1) by decide +kernel) (by decide) ?_
  refine X_iadd (show decode cX2_commit 6 = .ok (.iadd, 1) by decide +kernel) ?_
  refine X_bipush (v := (nI 9)) (show decode cX2_commit 7 = .ok (.bipush 9, 2) by decide +kernel) (by decide) ?_
  refine X_irem (show decode cX2_commit 9 = .ok (.irem, 1) by decide +kernel) (by decide) ?_
  refine X_putI fp_X2_17 (show decode cX2_commit 10 = .ok (.putfield 17, 3) by decide +kernel) (fun z => nomatch z) s1 rfl rfl ?_
  have w := w _ rfl
  refine X_aload_n (j := 0) (show decode cX2_commit 13 = .ok (.aload_n 0, 1) by decide +kernel) rfl rfl ?_
  refine X_aload_n (j := 0) (show decode cX2_commit 14 = .ok (.aload_n 0, 1) by decide +kernel) rfl rfl ?_
  refine X_getI fl_X2_21 (show decode cX2_commit 15 = .ok (.getfield 21, 3) by decide +kernel) s1 ?_
  refine X_iconst (v := (nI 1)) (show decode cX2_commit 18 = .ok (.iconst 1, 1) by decide +kernel) (by decide) ?_
  refine X_iadd (show decode cX2_commit 19 = .ok (.iadd, 1) by decide +kernel) ?_
  refine X_bipush (v := (nI 8)) (show decode cX2_commit 20 = .ok (.bipush 8, 2) by decide +kernel) (by decide) ?_
  refine X_mmin (show decode cX2_commit 22 = .ok (.invokestatic 29, 3) by decide +kernel) gl_X2_29 gst_min gin_Math gco_min (by decide) (Nat.le_of_ble_eq_true rfl) ?_
  refine X_putI fp_X2_21 (show decode cX2_commit 25 = .ok (.putfield 21, 3) by decide +kernel) (fun z => nomatch z) s1 rfl rfl ?_
  have w := w _ rfl
  exact X_vret ⟨(show decode cX2_commit 28 = .ok (.return_, 1) by decide +kernel), rfl⟩ ⟨rfl, w⟩
set_option maxRecDepth 100000 in
set_option maxHeartbeats 4000000 in
theorem kX9_settle_J8 {K : Int32 → AH → Prop} {T : String → AH → Prop}   (x0 : Nat) (x1 : Int32) (h : AH) (w : wX9_settle_J8 K T  x0 x1 h) : X mX9_settle 9 (KI K) T 0 0 8 [(0, .ref x0), (1, .int x1)] [] h := by
  unfold wX9_settle_J8 at w
  refine X_aload_n (j := 0) (show decode cX9_settle 8 = .ok (.aload_n 0, 1) by decide +kernel) rfl rfl ?_
  obtain ⟨s2, w⟩ := w
  refine X_getR fl_X9_25 (show decode cX9_settle 9 = .ok (.getfield 25, 3) by decide +kernel) s2 ?_
  obtain ⟨s5, w⟩ := w
  refine X_vV (rc' := 0) (rs' := 0) (as := []) mv_X9_374 (show decode cX9_settle 12 = .ok (.invokevirtual 374, 3) by decide +kernel) (by decide) (Nat.le_of_ble_eq_true rfl) (Nat.le_of_ble_eq_true rfl) rfl rfl (Nat.le_of_ble_eq_true rfl) (rcvD s5 (by decide) rfl) (kX2_commit w) (fun E h hk => hk.elim) (fun h3 w => ?_)
  refine X_iload_n (j := 1) (show decode cX9_settle 15 = .ok (.iload_n 1, 1) by decide +kernel) rfl rfl ?_
  exact X_iret ⟨(show decode cX9_settle 16 = .ok (.ireturn, 1) by decide +kernel), .int, rfl, rfl⟩ ⟨_, rfl, w⟩
set_option maxRecDepth 100000 in
set_option maxHeartbeats 4000000 in
theorem kX9_settle {a0 : Nat} {a1 : Int32} {h : AH} {K : Int32 → AH → Prop} {T : String → AH → Prop} (w : wX9_settle a0 a1 h K T) : Cn mX9_settle (cwd mX9_settle) 9 1 6 [.ref a0, .int a1] h (KI K) T := by
  refine Cn_of (by decide +kernel) rfl (Nat.le_of_ble_eq_true rfl) ?_
  show X mX9_settle 9 (KI K) T 1 6 0 [(0, .ref a0), (1, .int a1)] [] h
  unfold wX9_settle at w
  refine X_iload_n (j := 1) (show decode cX9_settle 0 = .ok (.iload_n 1, 1) by decide +kernel) rfl rfl ?_
  refine X_if_ge (tgt := 8) (show decode cX9_settle 1 = .ok (.ifCond .ge 7, 3) by decide +kernel) (by decide) ⟨fun c1 => ?_, fun c1 => ?_⟩
  · have w := w.1 c1
    refine X_room (rc' := 0) (rs' := 0) (Nat.le_of_ble_eq_true rfl) (Nat.le_of_ble_eq_true rfl) ?_
    exact kX9_settle_J8  _ _ _ w
  · have w := w.2 c1
    refine X_iload_n (j := 1) (show decode cX9_settle 4 = .ok (.iload_n 1, 1) by decide +kernel) rfl rfl ?_
    refine X_sV (rc' := 0) (rs' := 0) (as := [.int _]) ms_X9_371 (show decode cX9_settle 5 = .ok (.invokestatic 371, 3) by decide +kernel) (by decide) (Nat.le_of_ble_eq_true rfl) (Nat.le_of_ble_eq_true rfl) rfl rfl (Nat.le_of_ble_eq_true rfl) (kX9_throwFor w) (fun E h hk => XT_out hk (fun x hx => absurd hx List.not_mem_nil)) (fun h6 w => ?_)
    exact kX9_settle_J8  _ _ _ w
set_option maxRecDepth 100000 in
set_option maxHeartbeats 4000000 in
theorem kX9_addBlock {a0 : Nat} {a1 : Int32} {h : AH} {K : Int32 → AH → Prop} {T : String → AH → Prop} (w : wX9_addBlock a0 a1 h K T) : Cn mX9_addBlock (cwd mX9_addBlock) 10 1 6 [.ref a0, .int a1] h (KI K) T := by
  refine Cn_of (by decide +kernel) rfl (Nat.le_of_ble_eq_true rfl) ?_
  show X mX9_addBlock 10 (KI K) T 1 6 0 [(0, .ref a0), (1, .int a1)] [] h
  unfold wX9_addBlock at w
  refine X_aload_n (j := 0) (show decode cX9_addBlock 0 = .ok (.aload_n 0, 1) by decide +kernel) rfl rfl ?_
  obtain ⟨s1, w⟩ := w
  refine X_getR fl_X9_25 (show decode cX9_addBlock 1 = .ok (.getfield 25, 3) by decide +kernel) s1 ?_
  refine X_aload_n (j := 0) (show decode cX9_addBlock 4 = .ok (.aload_n 0, 1) by decide +kernel) rfl rfl ?_
  refine X_getR fl_X9_12 (show decode cX9_addBlock 5 = .ok (.getfield 12, 3) by decide +kernel) s1 ?_
  obtain ⟨s12, w⟩ := w
  refine X_vV (rc' := 1) (rs' := 6) (as := [.ref _]) mv_X9_68 (show decode cX9_addBlock 8 = .ok (.invokevirtual 68, 3) by decide +kernel) (by decide) (Nat.le_of_ble_eq_true rfl) (Nat.le_of_ble_eq_true rfl) rfl rfl (Nat.le_of_ble_eq_true rfl) (rcvD s12 (by decide) rfl) (kX2_keep w) (fun E h hk => hk.elim) (fun h2 w => ?_)
  refine X_aload_n (j := 0) (show decode cX9_addBlock 11 = .ok (.aload_n 0, 1) by decide +kernel) rfl rfl ?_
  refine X_aload_n (j := 0) (show decode cX9_addBlock 12 = .ok (.aload_n 0, 1) by decide +kernel) rfl rfl ?_
  obtain ⟨s4, w⟩ := w
  refine X_getR fl_X9_12 (show decode cX9_addBlock 13 = .ok (.getfield 12, 3) by decide +kernel) s4 ?_
  obtain ⟨s5, w⟩ := w
  refine X_getR fl_X9_72 (show decode cX9_addBlock 16 = .ok (.getfield 72, 3) by decide +kernel) s5 ?_
  refine X_iload_n (j := 1) (show decode cX9_addBlock 19 = .ok (.iload_n 1, 1) by decide +kernel) rfl rfl ?_
  obtain ⟨s11, w⟩ := w
  refine X_vI (rc' := 1) (rs' := 6) (as := [.int _]) mv_X9_76 (show decode cX9_addBlock 20 = .ok (.invokevirtual 76, 3) by decide +kernel) (by decide) (Nat.le_of_ble_eq_true rfl) (Nat.le_of_ble_eq_true rfl) rfl rfl (Nat.le_of_ble_eq_true rfl) (rcvD s11 (by decide) rfl) (kX4_makeBlock w) (fun E h hk => hk.elim) (fun r7 h6 w => ?_)
  obtain ⟨s10, w⟩ := w
  refine X_vI (rc' := 0) (rs' := 0) (as := [.int _]) mv_X9_82 (show decode cX9_addBlock 23 = .ok (.invokevirtual 82, 3) by decide +kernel) (by decide) (Nat.le_of_ble_eq_true rfl) (Nat.le_of_ble_eq_true rfl) rfl rfl (Nat.le_of_ble_eq_true rfl) (rcvD s10 (by decide) rfl) (kX9_settle w) (fun E h hk => XT_out hk (fun x hx => absurd hx List.not_mem_nil)) (fun r9 h8 w => ?_)
  exact X_iret ⟨(show decode cX9_addBlock 26 = .ok (.ireturn, 1) by decide +kernel), .int, rfl, rfl⟩ ⟨_, rfl, w⟩
set_option maxRecDepth 100000 in
set_option maxHeartbeats 4000000 in
theorem kX4_hasExit {a0 : Nat} {a1 : Int32} {h : AH} {K : Int32 → AH → Prop} (w : wX4_hasExit a0 a1 h K) : Cn mX4_hasExit (cwd mX4_hasExit) 2 0 0 [.ref a0, .int a1] h (KI K) T0 := by
  refine Cn_of (by decide +kernel) rfl (Nat.le_of_ble_eq_true rfl) ?_
  show X mX4_hasExit 2 (KI K) T0 0 0 0 [(0, .ref a0), (1, .int a1)] [] h
  unfold wX4_hasExit at w
  refine X_aload_n (j := 0) (show decode cX4_hasExit 0 = .ok (.aload_n 0, 1) by decide +kernel) rfl rfl ?_
  refine X_iload_n (j := 1) (show decode cX4_hasExit 1 = .ok (.iload_n 1, 1) by decide +kernel) rfl rfl ?_
  obtain ⟨s8, w⟩ := w
  refine X_vI (rc' := 0) (rs' := 0) (as := [.int _]) mv_X4_57 (show decode cX4_hasExit 2 = .ok (.invokevirtual 57, 3) by decide +kernel) (by decide) (Nat.le_of_ble_eq_true rfl) (Nat.le_of_ble_eq_true rfl) rfl rfl (Nat.le_of_ble_eq_true rfl) (rcvD s8 (by decide) rfl) (kX4_has w) (fun E h hk => hk.elim) (fun r2 h1 w => ?_)
  refine X_if_eq (tgt := 22) (show decode cX4_hasExit 5 = .ok (.ifCond .eq 17, 3) by decide +kernel) (by decide) ⟨fun c3 => ?_, fun c3 => ?_⟩
  · have w := w.1 c3
    refine X_iconst (v := (nI 0)) (show decode cX4_hasExit 22 = .ok (.iconst 0, 1) by decide +kernel) (by decide) ?_
    exact X_iret ⟨(show decode cX4_hasExit 23 = .ok (.ireturn, 1) by decide +kernel), .boolean, rfl, (by decide)⟩ ⟨_, rfl, w⟩
  · have w := w.2 c3
    refine X_aload_n (j := 0) (show decode cX4_hasExit 8 = .ok (.aload_n 0, 1) by decide +kernel) rfl rfl ?_
    obtain ⟨s4, w⟩ := w
    refine X_getR fl_X4_31 (show decode cX4_hasExit 9 = .ok (.getfield 31, 3) by decide +kernel) s4 ?_
    refine X_iload_n (j := 1) (show decode cX4_hasExit 12 = .ok (.iload_n 1, 1) by decide +kernel) rfl rfl ?_
    obtain ⟨s5, w⟩ := w
    obtain ⟨s6, w⟩ := w
    refine X_iald (show decode cX4_hasExit 13 = .ok (.iaload, 1) by decide +kernel) (isA_eq s5) s6 ?_
    refine X_iconst (v := (-1)) (show decode cX4_hasExit 14 = .ok (.iconst (-1), 1) by decide +kernel) (by decide) ?_
    refine X_icmp_eq (tgt := 22) (show decode cX4_hasExit 15 = .ok (.if_icmp .eq 7, 3) by decide +kernel) (by decide) ⟨fun c7 => ?_, fun c7 => ?_⟩
    · have w := w.1 c7
      refine X_iconst (v := (nI 0)) (show decode cX4_hasExit 22 = .ok (.iconst 0, 1) by decide +kernel) (by decide) ?_
      exact X_iret ⟨(show decode cX4_hasExit 23 = .ok (.ireturn, 1) by decide +kernel), .boolean, rfl, (by decide)⟩ ⟨_, rfl, w⟩
    · have w := w.2 c7
      refine X_iconst (v := (nI 1)) (show decode cX4_hasExit 18 = .ok (.iconst 1, 1) by decide +kernel) (by decide) ?_
      refine X_goto (tgt := 23) (show decode cX4_hasExit 19 = .ok (.goto 4, 3) by decide +kernel) (by decide) ?_
      exact X_iret ⟨(show decode cX4_hasExit 23 = .ok (.ireturn, 1) by decide +kernel), .boolean, rfl, (by decide)⟩ ⟨_, rfl, w⟩
set_option maxRecDepth 100000 in
set_option maxHeartbeats 4000000 in
theorem kX4_makePoint {a0 : Nat} {a1 : Int32} {a2 : Int32} {a3 : Int32} {h : AH} {K : Int32 → AH → Prop} (w : wX4_makePoint a0 a1 a2 a3 h K) : Cn mX4_makePoint (cwd mX4_makePoint) 5 0 0 [.ref a0, .int a1, .int a2, .int a3] h (KI K) T0 := by
  refine Cn_of (by decide +kernel) rfl (Nat.le_of_ble_eq_true rfl) ?_
  show X mX4_makePoint 5 (KI K) T0 0 0 0 [(0, .ref a0), (1, .int a1), (2, .int a2), (3, .int a3)] [] h
  unfold wX4_makePoint at w
  refine X_aload_n (j := 0) (show decode cX4_makePoint 0 = .ok (.aload_n 0, 1) by decide +kernel) rfl rfl ?_
  refine X_iload_n (j := 1) (show decode cX4_makePoint 1 = .ok (.iload_n 1, 1) by decide +kernel) rfl rfl ?_
  obtain ⟨s37, w⟩ := w
  refine X_vI (rc' := 0) (rs' := 0) (as := [.int _]) mv_X4_57 (show decode cX4_makePoint 2 = .ok (.invokevirtual 57, 3) by decide +kernel) (by decide) (Nat.le_of_ble_eq_true rfl) (Nat.le_of_ble_eq_true rfl) rfl rfl (Nat.le_of_ble_eq_true rfl) (rcvD s37 (by decide) rfl) (kX4_has w) (fun E h hk => hk.elim) (fun r2 h1 w => ?_)
  refine X_if_eq (tgt := 24) (show decode cX4_makePoint 5 = .ok (.ifCond .eq 19, 3) by decide +kernel) (by decide) ⟨fun c3 => ?_, fun c3 => ?_⟩
  · have w := w.1 c3
    refine X_iconst (v := (-1)) (show decode cX4_makePoint 24 = .ok (.iconst (-1), 1) by decide +kernel) (by decide) ?_
    exact X_iret ⟨(show decode cX4_makePoint 25 = .ok (.ireturn, 1) by decide +kernel), .int, rfl, rfl⟩ ⟨_, rfl, w⟩
  · have w := w.2 c3
    refine X_aload_n (j := 0) (show decode cX4_makePoint 8 = .ok (.aload_n 0, 1) by decide +kernel) rfl rfl ?_
    refine X_iload_n (j := 2) (show decode cX4_makePoint 9 = .ok (.iload_n 2, 1) by decide +kernel) rfl rfl ?_
    obtain ⟨s36, w⟩ := w
    refine X_vI (rc' := 0) (rs' := 0) (as := [.int _]) mv_X4_57 (show decode cX4_makePoint 10 = .ok (.invokevirtual 57, 3) by decide +kernel) (by decide) (Nat.le_of_ble_eq_true rfl) (Nat.le_of_ble_eq_true rfl) rfl rfl (Nat.le_of_ble_eq_true rfl) (rcvD s36 (by decide) rfl) (kX4_has w) (fun E h hk => hk.elim) (fun r5 h4 w => ?_)
    refine X_if_eq (tgt := 24) (show decode cX4_makePoint 13 = .ok (.ifCond .eq 11, 3) by decide +kernel) (by decide) ⟨fun c6 => ?_, fun c6 => ?_⟩
    · have w := w.1 c6
      refine X_iconst (v := (-1)) (show decode cX4_makePoint 24 = .ok (.iconst (-1), 1) by decide +kernel) (by decide) ?_
      exact X_iret ⟨(show decode cX4_makePoint 25 = .ok (.ireturn, 1) by decide +kernel), .int, rfl, rfl⟩ ⟨_, rfl, w⟩
    · have w := w.2 c6
      refine X_aload_n (j := 0) (show decode cX4_makePoint 16 = .ok (.aload_n 0, 1) by decide +kernel) rfl rfl ?_
      refine X_iload_n (j := 3) (show decode cX4_makePoint 17 = .ok (.iload_n 3, 1) by decide +kernel) rfl rfl ?_
      obtain ⟨s35, w⟩ := w
      refine X_vI (rc' := 0) (rs' := 0) (as := [.int _]) mv_X4_57 (show decode cX4_makePoint 18 = .ok (.invokevirtual 57, 3) by decide +kernel) (by decide) (Nat.le_of_ble_eq_true rfl) (Nat.le_of_ble_eq_true rfl) rfl rfl (Nat.le_of_ble_eq_true rfl) (rcvD s35 (by decide) rfl) (kX4_has w) (fun E h hk => hk.elim) (fun r8 h7 w => ?_)
      refine X_if_ne (tgt := 26) (show decode cX4_makePoint 21 = .ok (.ifCond .ne 5, 3) by decide +kernel) (by decide) ⟨fun c9 => ?_, fun c9 => ?_⟩
      · have w := w.1 c9
        refine X_iload_n (j := 1) (show decode cX4_makePoint 26 = .ok (.iload_n 1, 1) by decide +kernel) rfl rfl ?_
        refine X_iload_n (j := 2) (show decode cX4_makePoint 27 = .ok (.iload_n 2, 1) by decide +kernel) rfl rfl ?_
        refine X_icmp_eq (tgt := 41) (show decode cX4_makePoint 28 = .ok (.if_icmp .eq 13, 3) by decide +kernel) (by decide) ⟨fun c10 => ?_, fun c10 => ?_⟩
        · have w := w.1 c10
          refine X_bipush (v := (-2)) (show decode cX4_makePoint 41 = .ok (.bipush (-2), 2) by decide +kernel) (by decide) ?_
          exact X_iret ⟨(show decode cX4_makePoint 43 = .ok (.ireturn, 1) by decide +kernel), .int, rfl, rfl⟩ ⟨_, rfl, w⟩
        · have w := w.2 c10
          refine X_iload_n (j := 1) (show decode cX4_makePoint 31 = .ok (.iload_n 1, 1) by decide +kernel) rfl rfl ?_
          refine X_iload_n (j := 3) (show decode cX4_makePoint 32 = .ok (.iload_n 3, 1) by decide +kernel) rfl rfl ?_
          refine X_icmp_eq (tgt := 41) (show decode cX4_makePoint 33 = .ok (.if_icmp .eq 8, 3) by decide +kernel) (by decide) ⟨fun c11 => ?_, fun c11 => ?_⟩
          · have w := w.1 c11
            refine X_bipush (v := (-2)) (show decode cX4_makePoint 41 = .ok (.bipush (-2), 2) by decide +kernel) (by decide) ?_
            exact X_iret ⟨(show decode cX4_makePoint 43 = .ok (.ireturn, 1) by decide +kernel), .int, rfl, rfl⟩ ⟨_, rfl, w⟩
          · have w := w.2 c11
            refine X_iload_n (j := 2) (show decode cX4_makePoint 36 = .ok (.iload_n 2, 1) by decide +kernel) rfl rfl ?_
            refine X_iload_n (j := 3) (show decode cX4_makePoint 37 = .ok (.iload_n 3, 1) by decide +kernel) rfl rfl ?_
            refine X_icmp_ne (tgt := 44) (show decode cX4_makePoint 38 = .ok (.if_icmp .ne 6, 3) by decide +kernel) (by decide) ⟨fun c12 => ?_, fun c12 => ?_⟩
            · have w := w.1 c12
              refine X_aload_n (j := 0) (show decode cX4_makePoint 44 = .ok (.aload_n 0, 1) by decide +kernel) rfl rfl ?_
              obtain ⟨s13, w⟩ := w
              refine X_getI fl_X4_15 (show decode cX4_makePoint 45 = .ok (.getfield 15, 3) by decide +kernel) s13 ?_
              refine X_bipush (v := (nI 8)) (show decode cX4_makePoint 48 = .ok (.bipush 8, 2) by decide +kernel) (by decide) ?_
              refine X_icmp_ge (tgt := 61) (show decode cX4_makePoint 50 = .ok (.if_icmp .ge 11, 3) by decide +kernel) (by decide) ⟨fun c14 => ?_, fun c14 => ?_⟩
              · have w := w.1 c14
                refine X_bipush (v := (-3)) (show decode cX4_makePoint 61 = .ok (.bipush (-3), 2) by decide +kernel) (by decide) ?_
                exact X_iret ⟨(show decode cX4_makePoint 63 = .ok (.ireturn, 1) by decide +kernel), .int, rfl, rfl⟩ ⟨_, rfl, w⟩
              · have w := w.2 c14
                refine X_aload_n (j := 0) (show decode cX4_makePoint 53 = .ok (.aload_n 0, 1) by decide +kernel) rfl rfl ?_
                refine X_iload_n (j := 1) (show decode cX4_makePoint 54 = .ok (.iload_n 1, 1) by decide +kernel) rfl rfl ?_
                refine X_vI (rc' := 0) (rs' := 0) (as := [.int _]) mv_X4_75 (show decode cX4_makePoint 55 = .ok (.invokevirtual 75, 3) by decide +kernel) (by decide) (Nat.le_of_ble_eq_true rfl) (Nat.le_of_ble_eq_true rfl) rfl rfl (Nat.le_of_ble_eq_true rfl) (rcvD s13 (by decide) rfl) (kX4_hasExit w) (fun E h hk => hk.elim) (fun r16 h15 w => ?_)
                refine X_if_eq (tgt := 64) (show decode cX4_makePoint 58 = .ok (.ifCond .eq 6, 3) by decide +kernel) (by decide) ⟨fun c17 => ?_, fun c17 => ?_⟩
                · have w := w.1 c17
                  refine X_aload_n (j := 0) (show decode cX4_makePoint 64 = .ok (.aload_n 0, 1) by decide +kernel) rfl rfl ?_
                  obtain ⟨s18, w⟩ := w
                  refine X_getR fl_X4_31 (show decode cX4_makePoint 65 = .ok (.getfield 31, 3) by decide +kernel) s18 ?_
                  refine X_iload_n (j := 1) (show decode cX4_makePoint 68 = .ok (.iload_n 1, 1) by decide +kernel) rfl rfl ?_
                  refine X_iload_n (j := 2) (show decode cX4_makePoint 69 = .ok (.iload_n 2, 1) by decide +kernel) rfl rfl ?_
                  obtain ⟨s19, w⟩ := w
                  obtain ⟨s20, w⟩ := w
                  obtain ⟨s21, w⟩ := w
                  refine X_iast (show decode cX4_makePoint 70 = .ok (.iastore, 1) by decide +kernel) (isA_eq s19) s20 s21 ?_
                  have w := w _ rfl
                  refine X_aload_n (j := 0) (show decode cX4_makePoint 71 = .ok (.aload_n 0, 1) by decide +kernel) rfl rfl ?_
                  refine X_getR fl_X4_34 (show decode cX4_makePoint 72 = .ok (.getfield 34, 3) by decide +kernel) s18 ?_
                  refine X_iload_n (j := 1) (show decode cX4_makePoint 75 = .ok (.iload_n 1, 1) by decide +kernel) rfl rfl ?_
                  refine X_iload_n (j := 3) (show decode cX4_makePoint 76 = .ok (.iload_n 3, 1) by decide +kernel) rfl rfl ?_
                  obtain ⟨s23, w⟩ := w
                  obtain ⟨s24, w⟩ := w
                  obtain ⟨s25, w⟩ := w
                  refine X_iast (show decode cX4_makePoint 77 = .ok (.iastore, 1) by decide +kernel) (isA_eq s23) s24 s25 ?_
                  have w := w _ rfl
                  refine X_aload_n (j := 0) (show decode cX4_makePoint 78 = .ok (.aload_n 0, 1) by decide +kernel) rfl rfl ?_
                  refine X_getR fl_X4_37 (show decode cX4_makePoint 79 = .ok (.getfield 37, 3) by decide +kernel) s18 ?_
                  refine X_aload_n (j := 0) (show decode cX4_makePoint 82 = .ok (.aload_n 0, 1) by decide +kernel) rfl rfl ?_
                  refine X_getI fl_X4_15 (show decode cX4_makePoint 83 = .ok (.getfield 15, 3) by decide +kernel) s18 ?_
                  refine X_iload_n (j := 1) (show decode cX4_makePoint 86 = .ok (.iload_n 1, 1) by decide +kernel) rfl rfl ?_
                  obtain ⟨s27, w⟩ := w
                  obtain ⟨s28, w⟩ := w
                  obtain ⟨s29, w⟩ := w
                  refine X_iast (show decode cX4_makePoint 87 = .ok (.iastore, 1) by decide +kernel) (isA_eq s27) s28 s29 ?_
                  have w := w _ rfl
                  refine X_aload_n (j := 0) (show decode cX4_makePoint 88 = .ok (.aload_n 0, 1) by decide +kernel) rfl rfl ?_
                  refine X_dup (show decode cX4_makePoint 89 = .ok (.dup, 1) by decide +kernel) rfl ?_
                  refine X_getI fl_X4_15 (show decode cX4_makePoint 90 = .ok (.getfield 15, 3) by decide +kernel) s18 ?_
                  refine X_iconst (v := (nI 1)) (show decode cX4_makePoint 93 = .ok (.iconst 1, 1) by decide +kernel) (by decide) ?_
                  refine X_iadd (show decode cX4_makePoint 94 = .ok (.iadd, 1) by decide +kernel) ?_
                  refine X_putI fp_X4_15 (show decode cX4_makePoint 95 = .ok (.putfield 15, 3) by decide +kernel) (fun z => nomatch z) s18 rfl rfl ?_
                  have w := w _ rfl
                  refine X_aload_n (j := 0) (show decode cX4_makePoint 98 = .ok (.aload_n 0, 1) by decide +kernel) rfl rfl ?_
                  refine X_vV (rc' := 0) (rs' := 0) (as := []) mv_X4_72 (show decode cX4_makePoint 99 = .ok (.invokevirtual 72, 3) by decide +kernel) (by decide) (Nat.le_of_ble_eq_true rfl) (Nat.le_of_ble_eq_true rfl) rfl rfl (Nat.le_of_ble_eq_true rfl) (rcvD s18 (by decide) rfl) (kX4_learnRoutes w) (fun E h hk => hk.elim) (fun h32 w => ?_)
                  refine X_aload_n (j := 0) (show decode cX4_makePoint 102 = .ok (.aload_n 0, 1) by decide +kernel) rfl rfl ?_
                  obtain ⟨s34, w⟩ := w
                  refine X_getI fl_X4_15 (show decode cX4_makePoint 103 = .ok (.getfield 15, 3) by decide +kernel) s34 ?_
                  refine X_iconst (v := (nI 1)) (show decode cX4_makePoint 106 = .ok (.iconst 1, 1) by decide +kernel) (by decide) ?_
                  refine X_isub (show decode cX4_makePoint 107 = .ok (.isub, 1) by decide +kernel) ?_
                  exact X_iret ⟨(show decode cX4_makePoint 108 = .ok (.ireturn, 1) by decide +kernel), .int, rfl, rfl⟩ ⟨_, rfl, w⟩
                · have w := w.2 c17
                  refine X_bipush (v := (-3)) (show decode cX4_makePoint 61 = .ok (.bipush (-3), 2) by decide +kernel) (by decide) ?_
                  exact X_iret ⟨(show decode cX4_makePoint 63 = .ok (.ireturn, 1) by decide +kernel), .int, rfl, rfl⟩ ⟨_, rfl, w⟩
            · have w := w.2 c12
              refine X_bipush (v := (-2)) (show decode cX4_makePoint 41 = .ok (.bipush (-2), 2) by decide +kernel) (by decide) ?_
              exact X_iret ⟨(show decode cX4_makePoint 43 = .ok (.ireturn, 1) by decide +kernel), .int, rfl, rfl⟩ ⟨_, rfl, w⟩
      · have w := w.2 c9
        refine X_iconst (v := (-1)) (show decode cX4_makePoint 24 = .ok (.iconst (-1), 1) by decide +kernel) (by decide) ?_
        exact X_iret ⟨(show decode cX4_makePoint 25 = .ok (.ireturn, 1) by decide +kernel), .int, rfl, rfl⟩ ⟨_, rfl, w⟩
set_option maxRecDepth 100000 in
set_option maxHeartbeats 4000000 in
theorem kX9_addPoint {a0 : Nat} {a1 : Int32} {a2 : Int32} {a3 : Int32} {h : AH} {K : Int32 → AH → Prop} {T : String → AH → Prop} (w : wX9_addPoint a0 a1 a2 a3 h K T) : Cn mX9_addPoint (cwd mX9_addPoint) 10 1 6 [.ref a0, .int a1, .int a2, .int a3] h (KI K) T := by
  refine Cn_of (by decide +kernel) rfl (Nat.le_of_ble_eq_true rfl) ?_
  show X mX9_addPoint 10 (KI K) T 1 6 0 [(0, .ref a0), (1, .int a1), (2, .int a2), (3, .int a3)] [] h
  unfold wX9_addPoint at w
  refine X_aload_n (j := 0) (show decode cX9_addPoint 0 = .ok (.aload_n 0, 1) by decide +kernel) rfl rfl ?_
  obtain ⟨s1, w⟩ := w
  refine X_getR fl_X9_25 (show decode cX9_addPoint 1 = .ok (.getfield 25, 3) by decide +kernel) s1 ?_
  refine X_aload_n (j := 0) (show decode cX9_addPoint 4 = .ok (.aload_n 0, 1) by decide +kernel) rfl rfl ?_
  refine X_getR fl_X9_12 (show decode cX9_addPoint 5 = .ok (.getfield 12, 3) by decide +kernel) s1 ?_
  obtain ⟨s12, w⟩ := w
  refine X_vV (rc' := 1) (rs' := 6) (as := [.ref _]) mv_X9_68 (show decode cX9_addPoint 8 = .ok (.invokevirtual 68, 3) by decide +kernel) (by decide) (Nat.le_of_ble_eq_true rfl) (Nat.le_of_ble_eq_true rfl) rfl rfl (Nat.le_of_ble_eq_true rfl) (rcvD s12 (by decide) rfl) (kX2_keep w) (fun E h hk => hk.elim) (fun h2 w => ?_)
  refine X_aload_n (j := 0) (show decode cX9_addPoint 11 = .ok (.aload_n 0, 1) by decide +kernel) rfl rfl ?_
  refine X_aload_n (j := 0) (show decode cX9_addPoint 12 = .ok (.aload_n 0, 1) by decide +kernel) rfl rfl ?_
  obtain ⟨s4, w⟩ := w
  refine X_getR fl_X9_12 (show decode cX9_addPoint 13 = .ok (.getfield 12, 3) by decide +kernel) s4 ?_
  obtain ⟨s5, w⟩ := w
  refine X_getR fl_X9_72 (show decode cX9_addPoint 16 = .ok (.getfield 72, 3) by decide +kernel) s5 ?_
  refine X_iload_n (j := 1) (show decode cX9_addPoint 19 = .ok (.iload_n 1, 1) by decide +kernel) rfl rfl ?_
  refine X_iload_n (j := 2) (show decode cX9_addPoint 20 = .ok (.iload_n 2, 1) by decide +kernel) rfl rfl ?_
  refine X_iload_n (j := 3) (show decode cX9_addPoint 21 = .ok (.iload_n 3, 1) by decide +kernel) rfl rfl ?_
  obtain ⟨s11, w⟩ := w
  refine X_vI (rc' := 1) (rs' := 6) (as := [.int _, .int _, .int _]) mv_X9_85 (show decode cX9_addPoint 22 = .ok (.invokevirtual 85, 3) by decide +kernel) (by decide) (Nat.le_of_ble_eq_true rfl) (Nat.le_of_ble_eq_true rfl) rfl rfl (Nat.le_of_ble_eq_true rfl) (rcvD s11 (by decide) rfl) (kX4_makePoint w) (fun E h hk => hk.elim) (fun r7 h6 w => ?_)
  obtain ⟨s10, w⟩ := w
  refine X_vI (rc' := 0) (rs' := 0) (as := [.int _]) mv_X9_82 (show decode cX9_addPoint 25 = .ok (.invokevirtual 82, 3) by decide +kernel) (by decide) (Nat.le_of_ble_eq_true rfl) (Nat.le_of_ble_eq_true rfl) rfl rfl (Nat.le_of_ble_eq_true rfl) (rcvD s10 (by decide) rfl) (kX9_settle w) (fun E h hk => XT_out hk (fun x hx => absurd hx List.not_mem_nil)) (fun r9 h8 w => ?_)
  exact X_iret ⟨(show decode cX9_addPoint 28 = .ok (.ireturn, 1) by decide +kernel), .int, rfl, rfl⟩ ⟨_, rfl, w⟩
set_option maxRecDepth 100000 in
set_option maxHeartbeats 4000000 in
theorem kX4_makeLink {a0 : Nat} {a1 : Int32} {a2 : Int32} {h : AH} {K : Int32 → AH → Prop} (w : wX4_makeLink a0 a1 a2 h K) : Cn mX4_makeLink (cwd mX4_makeLink) 5 0 0 [.ref a0, .int a1, .int a2] h (KI K) T0 := by
  refine Cn_of (by decide +kernel) rfl (Nat.le_of_ble_eq_true rfl) ?_
  show X mX4_makeLink 5 (KI K) T0 0 0 0 [(0, .ref a0), (1, .int a1), (2, .int a2)] [] h
  unfold wX4_makeLink at w
  refine X_aload_n (j := 0) (show decode cX4_makeLink 0 = .ok (.aload_n 0, 1) by decide +kernel) rfl rfl ?_
  refine X_iload_n (j := 1) (show decode cX4_makeLink 1 = .ok (.iload_n 1, 1) by decide +kernel) rfl rfl ?_
  obtain ⟨s26, w⟩ := w
  refine X_vI (rc' := 0) (rs' := 0) (as := [.int _]) mv_X4_57 (show decode cX4_makeLink 2 = .ok (.invokevirtual 57, 3) by decide +kernel) (by decide) (Nat.le_of_ble_eq_true rfl) (Nat.le_of_ble_eq_true rfl) rfl rfl (Nat.le_of_ble_eq_true rfl) (rcvD s26 (by decide) rfl) (kX4_has w) (fun E h hk => hk.elim) (fun r2 h1 w => ?_)
  refine X_if_eq (tgt := 16) (show decode cX4_makeLink 5 = .ok (.ifCond .eq 11, 3) by decide +kernel) (by decide) ⟨fun c3 => ?_, fun c3 => ?_⟩
  · have w := w.1 c3
    refine X_iconst (v := (-1)) (show decode cX4_makeLink 16 = .ok (.iconst (-1), 1) by decide +kernel) (by decide) ?_
    exact X_iret ⟨(show decode cX4_makeLink 17 = .ok (.ireturn, 1) by decide +kernel), .int, rfl, rfl⟩ ⟨_, rfl, w⟩
  · have w := w.2 c3
    refine X_aload_n (j := 0) (show decode cX4_makeLink 8 = .ok (.aload_n 0, 1) by decide +kernel) rfl rfl ?_
    refine X_iload_n (j := 2) (show decode cX4_makeLink 9 = .ok (.iload_n 2, 1) by decide +kernel) rfl rfl ?_
    obtain ⟨s25, w⟩ := w
    refine X_vI (rc' := 0) (rs' := 0) (as := [.int _]) mv_X4_57 (show decode cX4_makeLink 10 = .ok (.invokevirtual 57, 3) by decide +kernel) (by decide) (Nat.le_of_ble_eq_true rfl) (Nat.le_of_ble_eq_true rfl) rfl rfl (Nat.le_of_ble_eq_true rfl) (rcvD s25 (by decide) rfl) (kX4_has w) (fun E h hk => hk.elim) (fun r5 h4 w => ?_)
    refine X_if_ne (tgt := 18) (show decode cX4_makeLink 13 = .ok (.ifCond .ne 5, 3) by decide +kernel) (by decide) ⟨fun c6 => ?_, fun c6 => ?_⟩
    · have w := w.1 c6
      refine X_iload_n (j := 1) (show decode cX4_makeLink 18 = .ok (.iload_n 1, 1) by decide +kernel) rfl rfl ?_
      refine X_iload_n (j := 2) (show decode cX4_makeLink 19 = .ok (.iload_n 2, 1) by decide +kernel) rfl rfl ?_
      refine X_icmp_ne (tgt := 26) (show decode cX4_makeLink 20 = .ok (.if_icmp .ne 6, 3) by decide +kernel) (by decide) ⟨fun c7 => ?_, fun c7 => ?_⟩
      · have w := w.1 c7
        refine X_aload_n (j := 0) (show decode cX4_makeLink 26 = .ok (.aload_n 0, 1) by decide +kernel) rfl rfl ?_
        refine X_iload_n (j := 1) (show decode cX4_makeLink 27 = .ok (.iload_n 1, 1) by decide +kernel) rfl rfl ?_
        obtain ⟨s24, w⟩ := w
        refine X_vI (rc' := 0) (rs' := 0) (as := [.int _]) mv_X4_75 (show decode cX4_makeLink 28 = .ok (.invokevirtual 75, 3) by decide +kernel) (by decide) (Nat.le_of_ble_eq_true rfl) (Nat.le_of_ble_eq_true rfl) rfl rfl (Nat.le_of_ble_eq_true rfl) (rcvD s24 (by decide) rfl) (kX4_hasExit w) (fun E h hk => hk.elim) (fun r9 h8 w => ?_)
        refine X_if_eq (tgt := 37) (show decode cX4_makeLink 31 = .ok (.ifCond .eq 6, 3) by decide +kernel) (by decide) ⟨fun c10 => ?_, fun c10 => ?_⟩
        · have w := w.1 c10
          refine X_aload_n (j := 0) (show decode cX4_makeLink 37 = .ok (.aload_n 0, 1) by decide +kernel) rfl rfl ?_
          obtain ⟨s11, w⟩ := w
          refine X_getR fl_X4_31 (show decode cX4_makeLink 38 = .ok (.getfield 31, 3) by decide +kernel) s11 ?_
          refine X_iload_n (j := 1) (show decode cX4_makeLink 41 = .ok (.iload_n 1, 1) by decide +kernel) rfl rfl ?_
          refine X_iload_n (j := 2) (show decode cX4_makeLink 42 = .ok (.iload_n 2, 1) by decide +kernel) rfl rfl ?_
          obtain ⟨s12, w⟩ := w
          obtain ⟨s13, w⟩ := w
          obtain ⟨s14, w⟩ := w
          refine X_iast (show decode cX4_makeLink 43 = .ok (.iastore, 1) by decide +kernel) (isA_eq s12) s13 s14 ?_
          have w := w _ rfl
          refine X_aload_n (j := 0) (show decode cX4_makeLink 44 = .ok (.aload_n 0, 1) by decide +kernel) rfl rfl ?_
          refine X_getR fl_X4_34 (show decode cX4_makeLink 45 = .ok (.getfield 34, 3) by decide +kernel) s11 ?_
          refine X_iload_n (j := 1) (show decode cX4_makeLink 48 = .ok (.iload_n 1, 1) by decide +kernel) rfl rfl ?_
          refine X_iload_n (j := 2) (show decode cX4_makeLink 49 = .ok (.iload_n 2, 1) by decide +kernel) rfl rfl ?_
          obtain ⟨s16, w⟩ := w
          obtain ⟨s17, w⟩ := w
          obtain ⟨s18, w⟩ := w
          refine X_iast (show decode cX4_makeLink 50 = .ok (.iastore, 1) by decide +kernel) (isA_eq s16) s17 s18 ?_
          have w := w _ rfl
          refine X_aload_n (j := 0) (show decode cX4_makeLink 51 = .ok (.aload_n 0, 1) by decide +kernel) rfl rfl ?_
          refine X_dup (show decode cX4_makeLink 52 = .ok (.dup, 1) by decide +kernel) rfl ?_
          refine X_getI fl_X4_18 (show decode cX4_makeLink 53 = .ok (.getfield 18, 3) by decide +kernel) s11 ?_
          refine X_iconst (v := (nI 1)) (show decode cX4_makeLink 56 = .ok (.iconst 1, 1) by decide +kernel) (by decide) ?_
          refine X_iadd (show decode cX4_makeLink 57 = .ok (.iadd, 1) by decide +kernel) ?_
          refine X_putI fp_X4_18 (show decode cX4_makeLink 58 = .ok (.putfield 18, 3) by decide +kernel) (fun z => nomatch z) s11 rfl rfl ?_
          have w := w _ rfl
          refine X_aload_n (j := 0) (show decode cX4_makeLink 61 = .ok (.aload_n 0, 1) by decide +kernel) rfl rfl ?_
          refine X_vV (rc' := 0) (rs' := 0) (as := []) mv_X4_72 (show decode cX4_makeLink 62 = .ok (.invokevirtual 72, 3) by decide +kernel) (by decide) (Nat.le_of_ble_eq_true rfl) (Nat.le_of_ble_eq_true rfl) rfl rfl (Nat.le_of_ble_eq_true rfl) (rcvD s11 (by decide) rfl) (kX4_learnRoutes w) (fun E h hk => hk.elim) (fun h21 w => ?_)
          refine X_aload_n (j := 0) (show decode cX4_makeLink 65 = .ok (.aload_n 0, 1) by decide +kernel) rfl rfl ?_
          obtain ⟨s23, w⟩ := w
          refine X_getI fl_X4_18 (show decode cX4_makeLink 66 = .ok (.getfield 18, 3) by decide +kernel) s23 ?_
          exact X_iret ⟨(show decode cX4_makeLink 69 = .ok (.ireturn, 1) by decide +kernel), .int, rfl, rfl⟩ ⟨_, rfl, w⟩
        · have w := w.2 c10
          refine X_bipush (v := (-3)) (show decode cX4_makeLink 34 = .ok (.bipush (-3), 2) by decide +kernel) (by decide) ?_
          exact X_iret ⟨(show decode cX4_makeLink 36 = .ok (.ireturn, 1) by decide +kernel), .int, rfl, rfl⟩ ⟨_, rfl, w⟩
      · have w := w.2 c7
        refine X_bipush (v := (-2)) (show decode cX4_makeLink 23 = .ok (.bipush (-2), 2) by decide +kernel) (by decide) ?_
        exact X_iret ⟨(show decode cX4_makeLink 25 = .ok (.ireturn, 1) by decide +kernel), .int, rfl, rfl⟩ ⟨_, rfl, w⟩
    · have w := w.2 c6
      refine X_iconst (v := (-1)) (show decode cX4_makeLink 16 = .ok (.iconst (-1), 1) by decide +kernel) (by decide) ?_
      exact X_iret ⟨(show decode cX4_makeLink 17 = .ok (.ireturn, 1) by decide +kernel), .int, rfl, rfl⟩ ⟨_, rfl, w⟩
set_option maxRecDepth 100000 in
set_option maxHeartbeats 4000000 in
theorem kX9_addLink {a0 : Nat} {a1 : Int32} {a2 : Int32} {h : AH} {K : Int32 → AH → Prop} {T : String → AH → Prop} (w : wX9_addLink a0 a1 a2 h K T) : Cn mX9_addLink (cwd mX9_addLink) 10 1 6 [.ref a0, .int a1, .int a2] h (KI K) T := by
  refine Cn_of (by decide +kernel) rfl (Nat.le_of_ble_eq_true rfl) ?_
  show X mX9_addLink 10 (KI K) T 1 6 0 [(0, .ref a0), (1, .int a1), (2, .int a2)] [] h
  unfold wX9_addLink at w
  refine X_aload_n (j := 0) (show decode cX9_addLink 0 = .ok (.aload_n 0, 1) by decide +kernel) rfl rfl ?_
  obtain ⟨s1, w⟩ := w
  refine X_getR fl_X9_25 (show decode cX9_addLink 1 = .ok (.getfield 25, 3) by decide +kernel) s1 ?_
  refine X_aload_n (j := 0) (show decode cX9_addLink 4 = .ok (.aload_n 0, 1) by decide +kernel) rfl rfl ?_
  refine X_getR fl_X9_12 (show decode cX9_addLink 5 = .ok (.getfield 12, 3) by decide +kernel) s1 ?_
  obtain ⟨s12, w⟩ := w
  refine X_vV (rc' := 1) (rs' := 6) (as := [.ref _]) mv_X9_68 (show decode cX9_addLink 8 = .ok (.invokevirtual 68, 3) by decide +kernel) (by decide) (Nat.le_of_ble_eq_true rfl) (Nat.le_of_ble_eq_true rfl) rfl rfl (Nat.le_of_ble_eq_true rfl) (rcvD s12 (by decide) rfl) (kX2_keep w) (fun E h hk => hk.elim) (fun h2 w => ?_)
  refine X_aload_n (j := 0) (show decode cX9_addLink 11 = .ok (.aload_n 0, 1) by decide +kernel) rfl rfl ?_
  refine X_aload_n (j := 0) (show decode cX9_addLink 12 = .ok (.aload_n 0, 1) by decide +kernel) rfl rfl ?_
  obtain ⟨s4, w⟩ := w
  refine X_getR fl_X9_12 (show decode cX9_addLink 13 = .ok (.getfield 12, 3) by decide +kernel) s4 ?_
  obtain ⟨s5, w⟩ := w
  refine X_getR fl_X9_72 (show decode cX9_addLink 16 = .ok (.getfield 72, 3) by decide +kernel) s5 ?_
  refine X_iload_n (j := 1) (show decode cX9_addLink 19 = .ok (.iload_n 1, 1) by decide +kernel) rfl rfl ?_
  refine X_iload_n (j := 2) (show decode cX9_addLink 20 = .ok (.iload_n 2, 1) by decide +kernel) rfl rfl ?_
  obtain ⟨s11, w⟩ := w
  refine X_vI (rc' := 1) (rs' := 6) (as := [.int _, .int _]) mv_X9_89 (show decode cX9_addLink 21 = .ok (.invokevirtual 89, 3) by decide +kernel) (by decide) (Nat.le_of_ble_eq_true rfl) (Nat.le_of_ble_eq_true rfl) rfl rfl (Nat.le_of_ble_eq_true rfl) (rcvD s11 (by decide) rfl) (kX4_makeLink w) (fun E h hk => hk.elim) (fun r7 h6 w => ?_)
  obtain ⟨s10, w⟩ := w
  refine X_vI (rc' := 0) (rs' := 0) (as := [.int _]) mv_X9_82 (show decode cX9_addLink 24 = .ok (.invokevirtual 82, 3) by decide +kernel) (by decide) (Nat.le_of_ble_eq_true rfl) (Nat.le_of_ble_eq_true rfl) rfl rfl (Nat.le_of_ble_eq_true rfl) (rcvD s10 (by decide) rfl) (kX9_settle w) (fun E h hk => XT_out hk (fun x hx => absurd hx List.not_mem_nil)) (fun r9 h8 w => ?_)
  exact X_iret ⟨(show decode cX9_addLink 27 = .ok (.ireturn, 1) by decide +kernel), .int, rfl, rfl⟩ ⟨_, rfl, w⟩
set_option maxRecDepth 100000 in
set_option maxHeartbeats 4000000 in
theorem kX7_isReserved_L2 {K : Int32 → AH → Prop}    : ∀ (n : Nat) (x0 : Nat) (x1 : Int32) (x2 : Int32) (h : AH), wX7_isReserved_L2 K   n x0 x1 x2 h → X mX7_isReserved 2 (KI K) T0 0 0 2 [(0, .ref x0), (1, .int x1), (2, .int x2)] [] h := by
  intro n
  induction n with
  | zero => intro _ _ _ _ w; exact w.elim
  | succ n ih =>
    intro x0 x1 x2 h w
    rw [wX7_isReserved_L2] at w
    refine X_iload_n (j := 2) (show decode cX7_isReserved 2 = .ok (.iload_n 2, 1) by decide +kernel) rfl rfl ?_
    refine X_aload_n (j := 0) (show decode cX7_isReserved 3 = .ok (.aload_n 0, 1) by decide +kernel) rfl rfl ?_
    obtain ⟨s1, w⟩ := w
    refine X_getI fl_X7_28 (show decode cX7_isReserved 4 = .ok (.getfield 28, 3) by decide +kernel) s1 ?_
    refine X_icmp_ge (tgt := 34) (show decode cX7_isReserved 7 = .ok (.if_icmp .ge 27, 3) by decide +kernel) (by decide) ⟨fun c2 => ?_, fun c2 => ?_⟩
    · have w := w.1 c2
      refine X_iconst (v := (nI 0)) (show decode cX7_isReserved 34 = .ok (.iconst 0, 1) by decide +kernel) (by decide) ?_
      exact X_iret ⟨(show decode cX7_isReserved 35 = .ok (.ireturn, 1) by decide +kernel), .boolean, rfl, (by decide)⟩ ⟨_, rfl, w⟩
    · have w := w.2 c2
      refine X_aload_n (j := 0) (show decode cX7_isReserved 10 = .ok (.aload_n 0, 1) by decide +kernel) rfl rfl ?_
      refine X_getR fl_X7_20 (show decode cX7_isReserved 11 = .ok (.getfield 20, 3) by decide +kernel) s1 ?_
      refine X_iload_n (j := 2) (show decode cX7_isReserved 14 = .ok (.iload_n 2, 1) by decide +kernel) rfl rfl ?_
      obtain ⟨s3, w⟩ := w
      obtain ⟨s4, w⟩ := w
      refine X_aaldT (show decode cX7_isReserved 15 = .ok (.aaload, 1) by decide +kernel) (isA_eq s3) s4 ?_
      obtain ⟨s5, w⟩ := w
      refine X_getI fl_X7_81 (show decode cX7_isReserved 16 = .ok (.getfield 81, 3) by decide +kernel) s5 ?_
      refine X_iload_n (j := 1) (show decode cX7_isReserved 19 = .ok (.iload_n 1, 1) by decide +kernel) rfl rfl ?_
      refine X_nI (rc' := 0) (rs' := 0) (as := [.int _, .int _]) msn_X7_69 (show decode cX7_isReserved 20 = .ok (.invokestatic 69, 3) by decide +kernel) (by decide) (Nat.le_of_ble_eq_true rfl) (Nat.le_of_ble_eq_true rfl) rfl rfl (Nat.le_of_ble_eq_true rfl) (kX9_contains w) (fun r7 h6 w => ?_)
      refine X_if_eq (tgt := 28) (show decode cX7_isReserved 23 = .ok (.ifCond .eq 5, 3) by decide +kernel) (by decide) ⟨fun c8 => ?_, fun c8 => ?_⟩
      · have w := w.1 c8
        refine X_iinc (j := 2) (v := _ + (nI 1)) (ls' := [(0, .ref _), (1, .int _), (2, .int _)]) (show decode cX7_isReserved 28 = .ok (.iinc 2 1, 3) by decide +kernel) rfl rfl (Nat.le_of_ble_eq_true rfl) rfl ?_
        refine X_goto (tgt := 2) (show decode cX7_isReserved 31 = .ok (.goto (-29), 3) by decide +kernel) (by decide) ?_
        exact ih _ _ _ _ w
      · have w := w.2 c8
        refine X_iconst (v := (nI 1)) (show decode cX7_isReserved 26 = .ok (.iconst 1, 1) by decide +kernel) (by decide) ?_
        exact X_iret ⟨(show decode cX7_isReserved 27 = .ok (.ireturn, 1) by decide +kernel), .boolean, rfl, (by decide)⟩ ⟨_, rfl, w⟩
set_option maxRecDepth 100000 in
set_option maxHeartbeats 4000000 in
theorem kX7_isReserved {a0 : Nat} {a1 : Int32} {h : AH} {K : Int32 → AH → Prop} (w : wX7_isReserved a0 a1 h K) : Cn mX7_isReserved (cwd mX7_isReserved) 2 0 0 [.ref a0, .int a1] h (KI K) T0 := by
  refine Cn_of (by decide +kernel) rfl (Nat.le_of_ble_eq_true rfl) ?_
  show X mX7_isReserved 2 (KI K) T0 0 0 0 [(0, .ref a0), (1, .int a1)] [] h
  unfold wX7_isReserved at w
  refine X_iconst (v := (nI 0)) (show decode cX7_isReserved 0 = .ok (.iconst 0, 1) by decide +kernel) (by decide) ?_
  refine X_istore_n (ls' := [(0, .ref _), (1, .int _), (2, .int _)]) (show decode cX7_isReserved 1 = .ok (.istore_n 2, 1) by decide +kernel) rfl (by decide) rfl ?_
  obtain ⟨n9, w⟩ := w
  exact kX7_isReserved_L2  n9 _ _ _ _ w
set_option maxRecDepth 100000 in
set_option maxHeartbeats 4000000 in
theorem kJ6_bitCount_0f7a4 {a0 : Int32} {h : AH} {K : Int32 → AH → Prop} (w : wJ6_bitCount_0f7a4 a0 h K) : Cn mJ6_bitCount_0f7a4 (cwd mJ6_bitCount_0f7a4) 1 0 0 [.int a0] h (KI K) T0 := by
  refine Cn_of (by decide +kernel) rfl (Nat.le_of_ble_eq_true rfl) ?_
  show X mJ6_bitCount_0f7a4 1 (KI K) T0 0 0 0 [(0, .int a0)] [] h
  unfold wJ6_bitCount_0f7a4 at w
  refine X_iload_n (j := 0) (show decode cJ6_bitCount_0f7a4 0 = .ok (.iload_n 0, 1) by decide +kernel) rfl rfl ?_
  refine X_iload_n (j := 0) (show decode cJ6_bitCount_0f7a4 1 = .ok (.iload_n 0, 1) by decide +kernel) rfl rfl ?_
  refine X_iconst (v := (nI 1)) (show decode cJ6_bitCount_0f7a4 2 = .ok (.iconst 1, 1) by decide +kernel) (by decide) ?_
  refine X_iushr (show decode cJ6_bitCount_0f7a4 3 = .ok (.iushr, 1) by decide +kernel) rfl ?_
  refine X_ldcw (v := (nI 1431655765)) (show decode cJ6_bitCount_0f7a4 4 = .ok (.ldc_w 265, 3) by decide +kernel) gc_J6_265 ?_
  refine X_iand (show decode cJ6_bitCount_0f7a4 7 = .ok (.iand, 1) by decide +kernel) ?_
  refine X_isub (show decode cJ6_bitCount_0f7a4 8 = .ok (.isub, 1) by decide +kernel) ?_
  refine X_topi (fun v1 e2 => ?_)
  have w := w v1 e2
  refine X_istore_n (ls' := [(0, .int _)]) (show decode cJ6_bitCount_0f7a4 9 = .ok (.istore_n 0, 1) by decide +kernel) rfl (by decide) rfl ?_
  refine X_iload_n (j := 0) (show decode cJ6_bitCount_0f7a4 10 = .ok (.iload_n 0, 1) by decide +kernel) rfl rfl ?_
  refine X_ldcw (v := (nI 858993459)) (show decode cJ6_bitCount_0f7a4 11 = .ok (.ldc_w 266, 3) by decide +kernel) gc_J6_266 ?_
  refine X_iand (show decode cJ6_bitCount_0f7a4 14 = .ok (.iand, 1) by decide +kernel) ?_
  refine X_iload_n (j := 0) (show decode cJ6_bitCount_0f7a4 15 = .ok (.iload_n 0, 1) by decide +kernel) rfl rfl ?_
  refine X_iconst (v := (nI 2)) (show decode cJ6_bitCount_0f7a4 16 = .ok (.iconst 2, 1) by decide +kernel) (by decide) ?_
  refine X_iushr (show decode cJ6_bitCount_0f7a4 17 = .ok (.iushr, 1) by decide +kernel) rfl ?_
  refine X_ldcw (v := (nI 858993459)) (show decode cJ6_bitCount_0f7a4 18 = .ok (.ldc_w 266, 3) by decide +kernel) gc_J6_266 ?_
  refine X_iand (show decode cJ6_bitCount_0f7a4 21 = .ok (.iand, 1) by decide +kernel) ?_
  refine X_iadd (show decode cJ6_bitCount_0f7a4 22 = .ok (.iadd, 1) by decide +kernel) ?_
  refine X_topi (fun v3 e4 => ?_)
  have w := w v3 e4
  refine X_istore_n (ls' := [(0, .int _)]) (show decode cJ6_bitCount_0f7a4 23 = .ok (.istore_n 0, 1) by decide +kernel) rfl (by decide) rfl ?_
  refine X_iload_n (j := 0) (show decode cJ6_bitCount_0f7a4 24 = .ok (.iload_n 0, 1) by decide +kernel) rfl rfl ?_
  refine X_iload_n (j := 0) (show decode cJ6_bitCount_0f7a4 25 = .ok (.iload_n 0, 1) by decide +kernel) rfl rfl ?_
  refine X_iconst (v := (nI 4)) (show decode cJ6_bitCount_0f7a4 26 = .ok (.iconst 4, 1) by decide +kernel) (by decide) ?_
  refine X_iushr (show decode cJ6_bitCount_0f7a4 27 = .ok (.iushr, 1) by decide +kernel) rfl ?_
  refine X_iadd (show decode cJ6_bitCount_0f7a4 28 = .ok (.iadd, 1) by decide +kernel) ?_
  refine X_ldcw (v := (nI 252645135)) (show decode cJ6_bitCount_0f7a4 29 = .ok (.ldc_w 267, 3) by decide +kernel) gc_J6_267 ?_
  refine X_iand (show decode cJ6_bitCount_0f7a4 32 = .ok (.iand, 1) by decide +kernel) ?_
  refine X_topi (fun v5 e6 => ?_)
  have w := w v5 e6
  refine X_istore_n (ls' := [(0, .int _)]) (show decode cJ6_bitCount_0f7a4 33 = .ok (.istore_n 0, 1) by decide +kernel) rfl (by decide) rfl ?_
  refine X_iload_n (j := 0) (show decode cJ6_bitCount_0f7a4 34 = .ok (.iload_n 0, 1) by decide +kernel) rfl rfl ?_
  refine X_iload_n (j := 0) (show decode cJ6_bitCount_0f7a4 35 = .ok (.iload_n 0, 1) by decide +kernel) rfl rfl ?_
  refine X_bipush (v := (nI 8)) (show decode cJ6_bitCount_0f7a4 36 = .ok (.bipush 8, 2) by decide +kernel) (by decide) ?_
  refine X_iushr (show decode cJ6_bitCount_0f7a4 38 = .ok (.iushr, 1) by decide +kernel) rfl ?_
  refine X_iadd (show decode cJ6_bitCount_0f7a4 39 = .ok (.iadd, 1) by decide +kernel) ?_
  refine X_topi (fun v7 e8 => ?_)
  have w := w v7 e8
  refine X_istore_n (ls' := [(0, .int _)]) (show decode cJ6_bitCount_0f7a4 40 = .ok (.istore_n 0, 1) by decide +kernel) rfl (by decide) rfl ?_
  refine X_iload_n (j := 0) (show decode cJ6_bitCount_0f7a4 41 = .ok (.iload_n 0, 1) by decide +kernel) rfl rfl ?_
  refine X_iload_n (j := 0) (show decode cJ6_bitCount_0f7a4 42 = .ok (.iload_n 0, 1) by decide +kernel) rfl rfl ?_
  refine X_bipush (v := (nI 16)) (show decode cJ6_bitCount_0f7a4 43 = .ok (.bipush 16, 2) by decide +kernel) (by decide) ?_
  refine X_iushr (show decode cJ6_bitCount_0f7a4 45 = .ok (.iushr, 1) by decide +kernel) rfl ?_
  refine X_iadd (show decode cJ6_bitCount_0f7a4 46 = .ok (.iadd, 1) by decide +kernel) ?_
  refine X_topi (fun v9 e10 => ?_)
  have w := w v9 e10
  refine X_istore_n (ls' := [(0, .int _)]) (show decode cJ6_bitCount_0f7a4 47 = .ok (.istore_n 0, 1) by decide +kernel) rfl (by decide) rfl ?_
  refine X_iload_n (j := 0) (show decode cJ6_bitCount_0f7a4 48 = .ok (.iload_n 0, 1) by decide +kernel) rfl rfl ?_
  refine X_bipush (v := (nI 63)) (show decode cJ6_bitCount_0f7a4 49 = .ok (.bipush 63, 2) by decide +kernel) (by decide) ?_
  refine X_iand (show decode cJ6_bitCount_0f7a4 51 = .ok (.iand, 1) by decide +kernel) ?_
  exact X_iret ⟨(show decode cJ6_bitCount_0f7a4 52 = .ok (.ireturn, 1) by decide +kernel), .int, rfl, rfl⟩ ⟨_, rfl, w⟩
set_option maxRecDepth 100000 in
set_option maxHeartbeats 4000000 in
theorem kX7_shutBlock {a0 : Nat} {a1 : Int32} {h : AH} {K : Int32 → AH → Prop} (w : wX7_shutBlock a0 a1 h K) : Cn mX7_shutBlock (cwd mX7_shutBlock) 3 0 0 [.ref a0, .int a1] h (KI K) T0 := by
  refine Cn_of (by decide +kernel) rfl (Nat.le_of_ble_eq_true rfl) ?_
  show X mX7_shutBlock 3 (KI K) T0 0 0 0 [(0, .ref a0), (1, .int a1)] [] h
  unfold wX7_shutBlock at w
  refine X_aload_n (j := 0) (show decode cX7_shutBlock 0 = .ok (.aload_n 0, 1) by decide +kernel) rfl rfl ?_
  obtain ⟨s1, w⟩ := w
  refine X_getR fl_X7_12 (show decode cX7_shutBlock 1 = .ok (.getfield 12, 3) by decide +kernel) s1 ?_
  refine X_iload_n (j := 1) (show decode cX7_shutBlock 4 = .ok (.iload_n 1, 1) by decide +kernel) rfl rfl ?_
  obtain ⟨s19, w⟩ := w
  refine X_vI (rc' := 0) (rs' := 0) (as := [.int _]) mv_X7_91 (show decode cX7_shutBlock 5 = .ok (.invokevirtual 91, 3) by decide +kernel) (by decide) (Nat.le_of_ble_eq_true rfl) (Nat.le_of_ble_eq_true rfl) rfl rfl (Nat.le_of_ble_eq_true rfl) (rcvD s19 (by decide) rfl) (kX4_has w) (fun E h hk => hk.elim) (fun r3 h2 w => ?_)
  refine X_if_ne (tgt := 13) (show decode cX7_shutBlock 8 = .ok (.ifCond .ne 5, 3) by decide +kernel) (by decide) ⟨fun c4 => ?_, fun c4 => ?_⟩
  · have w := w.1 c4
    refine X_aload_n (j := 0) (show decode cX7_shutBlock 13 = .ok (.aload_n 0, 1) by decide +kernel) rfl rfl ?_
    obtain ⟨s5, w⟩ := w
    refine X_getR fl_X7_12 (show decode cX7_shutBlock 14 = .ok (.getfield 12, 3) by decide +kernel) s5 ?_
    obtain ⟨s6, w⟩ := w
    refine X_getI fl_X7_84 (show decode cX7_shutBlock 17 = .ok (.getfield 84, 3) by decide +kernel) s6 ?_
    refine X_iload_n (j := 1) (show decode cX7_shutBlock 20 = .ok (.iload_n 1, 1) by decide +kernel) rfl rfl ?_
    refine X_nI (rc' := 0) (rs' := 0) (as := [.int _, .int _]) msn_X7_69 (show decode cX7_shutBlock 21 = .ok (.invokestatic 69, 3) by decide +kernel) (by decide) (Nat.le_of_ble_eq_true rfl) (Nat.le_of_ble_eq_true rfl) rfl rfl (Nat.le_of_ble_eq_true rfl) (kX9_contains w) (fun r8 h7 w => ?_)
    refine X_if_ne (tgt := 35) (show decode cX7_shutBlock 24 = .ok (.ifCond .ne 11, 3) by decide +kernel) (by decide) ⟨fun c9 => ?_, fun c9 => ?_⟩
    · have w := w.1 c9
      refine X_bipush (v := (-3)) (show decode cX7_shutBlock 35 = .ok (.bipush (-3), 2) by decide +kernel) (by decide) ?_
      exact X_iret ⟨(show decode cX7_shutBlock 37 = .ok (.ireturn, 1) by decide +kernel), .int, rfl, rfl⟩ ⟨_, rfl, w⟩
    · have w := w.2 c9
      refine X_aload_n (j := 0) (show decode cX7_shutBlock 27 = .ok (.aload_n 0, 1) by decide +kernel) rfl rfl ?_
      refine X_iload_n (j := 1) (show decode cX7_shutBlock 28 = .ok (.iload_n 1, 1) by decide +kernel) rfl rfl ?_
      obtain ⟨s18, w⟩ := w
      refine X_vI (rc' := 0) (rs' := 0) (as := [.int _]) mv_X7_87 (show decode cX7_shutBlock 29 = .ok (.invokevirtual 87, 3) by decide +kernel) (by decide) (Nat.le_of_ble_eq_true rfl) (Nat.le_of_ble_eq_true rfl) rfl rfl (Nat.le_of_ble_eq_true rfl) (rcvD s18 (by decide) rfl) (kX7_isReserved w) (fun E h hk => hk.elim) (fun r11 h10 w => ?_)
      refine X_if_eq (tgt := 38) (show decode cX7_shutBlock 32 = .ok (.ifCond .eq 6, 3) by decide +kernel) (by decide) ⟨fun c12 => ?_, fun c12 => ?_⟩
      · have w := w.1 c12
        refine X_aload_n (j := 0) (show decode cX7_shutBlock 38 = .ok (.aload_n 0, 1) by decide +kernel) rfl rfl ?_
        obtain ⟨s13, w⟩ := w
        refine X_getR fl_X7_12 (show decode cX7_shutBlock 39 = .ok (.getfield 12, 3) by decide +kernel) s13 ?_
        refine X_dup (show decode cX7_shutBlock 42 = .ok (.dup, 1) by decide +kernel) rfl ?_
        obtain ⟨s14, w⟩ := w
        refine X_getI fl_X7_84 (show decode cX7_shutBlock 43 = .ok (.getfield 84, 3) by decide +kernel) s14 ?_
        refine X_iconst (v := (nI 1)) (show decode cX7_shutBlock 46 = .ok (.iconst 1, 1) by decide +kernel) (by decide) ?_
        refine X_iload_n (j := 1) (show decode cX7_shutBlock 47 = .ok (.iload_n 1, 1) by decide +kernel) rfl rfl ?_
        refine X_ishl (show decode cX7_shutBlock 48 = .ok (.ishl, 1) by decide +kernel) ?_
        refine X_ior (show decode cX7_shutBlock 49 = .ok (.ior, 1) by decide +kernel) ?_
        refine X_putI fp_X7_84 (show decode cX7_shutBlock 50 = .ok (.putfield 84, 3) by decide +kernel) (fun z => nomatch z) s14 rfl rfl ?_
        have w := w _ rfl
        refine X_aload_n (j := 0) (show decode cX7_shutBlock 53 = .ok (.aload_n 0, 1) by decide +kernel) rfl rfl ?_
        refine X_getR fl_X7_12 (show decode cX7_shutBlock 54 = .ok (.getfield 12, 3) by decide +kernel) s13 ?_
        refine X_getI fl_X7_84 (show decode cX7_shutBlock 57 = .ok (.getfield 84, 3) by decide +kernel) s14 ?_
        refine X_sI (rc' := 0) (rs' := 0) (as := [.int _]) ms_X7_94 (show decode cX7_shutBlock 60 = .ok (.invokestatic 94, 3) by decide +kernel) (by decide) (Nat.le_of_ble_eq_true rfl) (Nat.le_of_ble_eq_true rfl) rfl rfl (Nat.le_of_ble_eq_true rfl) (kJ6_bitCount_0f7a4 w) (fun E h hk => hk.elim) (fun r17 h16 w => ?_)
        exact X_iret ⟨(show decode cX7_shutBlock 63 = .ok (.ireturn, 1) by decide +kernel), .int, rfl, rfl⟩ ⟨_, rfl, w⟩
      · have w := w.2 c12
        refine X_bipush (v := (-3)) (show decode cX7_shutBlock 35 = .ok (.bipush (-3), 2) by decide +kernel) (by decide) ?_
        exact X_iret ⟨(show decode cX7_shutBlock 37 = .ok (.ireturn, 1) by decide +kernel), .int, rfl, rfl⟩ ⟨_, rfl, w⟩
  · have w := w.2 c4
    refine X_iconst (v := (-1)) (show decode cX7_shutBlock 11 = .ok (.iconst (-1), 1) by decide +kernel) (by decide) ?_
    exact X_iret ⟨(show decode cX7_shutBlock 12 = .ok (.ireturn, 1) by decide +kernel), .int, rfl, rfl⟩ ⟨_, rfl, w⟩
set_option maxRecDepth 100000 in
set_option maxHeartbeats 4000000 in
theorem kX9_shut {a0 : Nat} {a1 : Int32} {h : AH} {K : Int32 → AH → Prop} {T : String → AH → Prop} (w : wX9_shut a0 a1 h K T) : Cn mX9_shut (cwd mX9_shut) 10 1 6 [.ref a0, .int a1] h (KI K) T := by
  refine Cn_of (by decide +kernel) rfl (Nat.le_of_ble_eq_true rfl) ?_
  show X mX9_shut 10 (KI K) T 1 6 0 [(0, .ref a0), (1, .int a1)] [] h
  unfold wX9_shut at w
  refine X_aload_n (j := 0) (show decode cX9_shut 0 = .ok (.aload_n 0, 1) by decide +kernel) rfl rfl ?_
  obtain ⟨s1, w⟩ := w
  refine X_getR fl_X9_25 (show decode cX9_shut 1 = .ok (.getfield 25, 3) by decide +kernel) s1 ?_
  refine X_aload_n (j := 0) (show decode cX9_shut 4 = .ok (.aload_n 0, 1) by decide +kernel) rfl rfl ?_
  refine X_getR fl_X9_12 (show decode cX9_shut 5 = .ok (.getfield 12, 3) by decide +kernel) s1 ?_
  obtain ⟨s11, w⟩ := w
  refine X_vV (rc' := 1) (rs' := 6) (as := [.ref _]) mv_X9_68 (show decode cX9_shut 8 = .ok (.invokevirtual 68, 3) by decide +kernel) (by decide) (Nat.le_of_ble_eq_true rfl) (Nat.le_of_ble_eq_true rfl) rfl rfl (Nat.le_of_ble_eq_true rfl) (rcvD s11 (by decide) rfl) (kX2_keep w) (fun E h hk => hk.elim) (fun h2 w => ?_)
  refine X_aload_n (j := 0) (show decode cX9_shut 11 = .ok (.aload_n 0, 1) by decide +kernel) rfl rfl ?_
  refine X_aload_n (j := 0) (show decode cX9_shut 12 = .ok (.aload_n 0, 1) by decide +kernel) rfl rfl ?_
  obtain ⟨s4, w⟩ := w
  refine X_getR fl_X9_12 (show decode cX9_shut 13 = .ok (.getfield 12, 3) by decide +kernel) s4 ?_
  refine X_iload_n (j := 1) (show decode cX9_shut 16 = .ok (.iload_n 1, 1) by decide +kernel) rfl rfl ?_
  obtain ⟨s10, w⟩ := w
  refine X_vI (rc' := 1) (rs' := 6) (as := [.int _]) mv_X9_93 (show decode cX9_shut 17 = .ok (.invokevirtual 93, 3) by decide +kernel) (by decide) (Nat.le_of_ble_eq_true rfl) (Nat.le_of_ble_eq_true rfl) rfl rfl (Nat.le_of_ble_eq_true rfl) (rcvD s10 (by decide) rfl) (kX7_shutBlock w) (fun E h hk => hk.elim) (fun r6 h5 w => ?_)
  obtain ⟨s9, w⟩ := w
  refine X_vI (rc' := 0) (rs' := 0) (as := [.int _]) mv_X9_82 (show decode cX9_shut 20 = .ok (.invokevirtual 82, 3) by decide +kernel) (by decide) (Nat.le_of_ble_eq_true rfl) (Nat.le_of_ble_eq_true rfl) rfl rfl (Nat.le_of_ble_eq_true rfl) (rcvD s9 (by decide) rfl) (kX9_settle w) (fun E h hk => XT_out hk (fun x hx => absurd hx List.not_mem_nil)) (fun r8 h7 w => ?_)
  exact X_iret ⟨(show decode cX9_shut 23 = .ok (.ireturn, 1) by decide +kernel), .int, rfl, rfl⟩ ⟨_, rfl, w⟩
set_option maxRecDepth 100000 in
set_option maxHeartbeats 4000000 in
theorem kX7_openBlock {a0 : Nat} {a1 : Int32} {h : AH} {K : Int32 → AH → Prop} (w : wX7_openBlock a0 a1 h K) : Cn mX7_openBlock (cwd mX7_openBlock) 2 0 0 [.ref a0, .int a1] h (KI K) T0 := by
  refine Cn_of (by decide +kernel) rfl (Nat.le_of_ble_eq_true rfl) ?_
  show X mX7_openBlock 2 (KI K) T0 0 0 0 [(0, .ref a0), (1, .int a1)] [] h
  unfold wX7_openBlock at w
  refine X_aload_n (j := 0) (show decode cX7_openBlock 0 = .ok (.aload_n 0, 1) by decide +kernel) rfl rfl ?_
  obtain ⟨s1, w⟩ := w
  refine X_getR fl_X7_12 (show decode cX7_openBlock 1 = .ok (.getfield 12, 3) by decide +kernel) s1 ?_
  refine X_iload_n (j := 1) (show decode cX7_openBlock 4 = .ok (.iload_n 1, 1) by decide +kernel) rfl rfl ?_
  obtain ⟨s15, w⟩ := w
  refine X_vI (rc' := 0) (rs' := 0) (as := [.int _]) mv_X7_91 (show decode cX7_openBlock 5 = .ok (.invokevirtual 91, 3) by decide +kernel) (by decide) (Nat.le_of_ble_eq_true rfl) (Nat.le_of_ble_eq_true rfl) rfl rfl (Nat.le_of_ble_eq_true rfl) (rcvD s15 (by decide) rfl) (kX4_has w) (fun E h hk => hk.elim) (fun r3 h2 w => ?_)
  refine X_if_ne (tgt := 13) (show decode cX7_openBlock 8 = .ok (.ifCond .ne 5, 3) by decide +kernel) (by decide) ⟨fun c4 => ?_, fun c4 => ?_⟩
  · have w := w.1 c4
    refine X_aload_n (j := 0) (show decode cX7_openBlock 13 = .ok (.aload_n 0, 1) by decide +kernel) rfl rfl ?_
    obtain ⟨s5, w⟩ := w
    refine X_getR fl_X7_12 (show decode cX7_openBlock 14 = .ok (.getfield 12, 3) by decide +kernel) s5 ?_
    obtain ⟨s6, w⟩ := w
    refine X_getI fl_X7_84 (show decode cX7_openBlock 17 = .ok (.getfield 84, 3) by decide +kernel) s6 ?_
    refine X_iload_n (j := 1) (show decode cX7_openBlock 20 = .ok (.iload_n 1, 1) by decide +kernel) rfl rfl ?_
    refine X_nI (rc' := 0) (rs' := 0) (as := [.int _, .int _]) msn_X7_69 (show decode cX7_openBlock 21 = .ok (.invokestatic 69, 3) by decide +kernel) (by decide) (Nat.le_of_ble_eq_true rfl) (Nat.le_of_ble_eq_true rfl) rfl rfl (Nat.le_of_ble_eq_true rfl) (kX9_contains w) (fun r8 h7 w => ?_)
    refine X_if_ne (tgt := 30) (show decode cX7_openBlock 24 = .ok (.ifCond .ne 6, 3) by decide +kernel) (by decide) ⟨fun c9 => ?_, fun c9 => ?_⟩
    · have w := w.1 c9
      refine X_aload_n (j := 0) (show decode cX7_openBlock 30 = .ok (.aload_n 0, 1) by decide +kernel) rfl rfl ?_
      obtain ⟨s10, w⟩ := w
      refine X_getR fl_X7_12 (show decode cX7_openBlock 31 = .ok (.getfield 12, 3) by decide +kernel) s10 ?_
      refine X_dup (show decode cX7_openBlock 34 = .ok (.dup, 1) by decide +kernel) rfl ?_
      obtain ⟨s11, w⟩ := w
      refine X_getI fl_X7_84 (show decode cX7_openBlock 35 = .ok (.getfield 84, 3) by decide +kernel) s11 ?_
      refine X_iconst (v := (nI 1)) (show decode cX7_openBlock 38 = .ok (.iconst 1, 1) by decide +kernel) (by decide) ?_
      refine X_iload_n (j := 1) (show decode cX7_openBlock 39 = .ok (.iload_n 1, 1) by decide +kernel) rfl rfl ?_
      refine X_ishl (show decode cX7_openBlock 40 = .ok (.ishl, 1) by decide +kernel) ?_
      refine X_iconst (v := (-1)) (show decode cX7_openBlock 41 = .ok (.iconst (-1), 1) by decide +kernel) (by decide) ?_
      refine X_ixor (show decode cX7_openBlock 42 = .ok (.ixor, 1) by decide +kernel) ?_
      refine X_iand (show decode cX7_openBlock 43 = .ok (.iand, 1) by decide +kernel) ?_
      refine X_putI fp_X7_84 (show decode cX7_openBlock 44 = .ok (.putfield 84, 3) by decide +kernel) (fun z => nomatch z) s11 rfl rfl ?_
      have w := w _ rfl
      refine X_aload_n (j := 0) (show decode cX7_openBlock 47 = .ok (.aload_n 0, 1) by decide +kernel) rfl rfl ?_
      refine X_getR fl_X7_12 (show decode cX7_openBlock 48 = .ok (.getfield 12, 3) by decide +kernel) s10 ?_
      refine X_getI fl_X7_84 (show decode cX7_openBlock 51 = .ok (.getfield 84, 3) by decide +kernel) s11 ?_
      refine X_sI (rc' := 0) (rs' := 0) (as := [.int _]) ms_X7_94 (show decode cX7_openBlock 54 = .ok (.invokestatic 94, 3) by decide +kernel) (by decide) (Nat.le_of_ble_eq_true rfl) (Nat.le_of_ble_eq_true rfl) rfl rfl (Nat.le_of_ble_eq_true rfl) (kJ6_bitCount_0f7a4 w) (fun E h hk => hk.elim) (fun r14 h13 w => ?_)
      exact X_iret ⟨(show decode cX7_openBlock 57 = .ok (.ireturn, 1) by decide +kernel), .int, rfl, rfl⟩ ⟨_, rfl, w⟩
    · have w := w.2 c9
      refine X_bipush (v := (-3)) (show decode cX7_openBlock 27 = .ok (.bipush (-3), 2) by decide +kernel) (by decide) ?_
      exact X_iret ⟨(show decode cX7_openBlock 29 = .ok (.ireturn, 1) by decide +kernel), .int, rfl, rfl⟩ ⟨_, rfl, w⟩
  · have w := w.2 c4
    refine X_iconst (v := (-1)) (show decode cX7_openBlock 11 = .ok (.iconst (-1), 1) by decide +kernel) (by decide) ?_
    exact X_iret ⟨(show decode cX7_openBlock 12 = .ok (.ireturn, 1) by decide +kernel), .int, rfl, rfl⟩ ⟨_, rfl, w⟩
set_option maxRecDepth 100000 in
set_option maxHeartbeats 4000000 in
theorem kX9_open {a0 : Nat} {a1 : Int32} {h : AH} {K : Int32 → AH → Prop} {T : String → AH → Prop} (w : wX9_open a0 a1 h K T) : Cn mX9_open (cwd mX9_open) 10 1 6 [.ref a0, .int a1] h (KI K) T := by
  refine Cn_of (by decide +kernel) rfl (Nat.le_of_ble_eq_true rfl) ?_
  show X mX9_open 10 (KI K) T 1 6 0 [(0, .ref a0), (1, .int a1)] [] h
  unfold wX9_open at w
  refine X_aload_n (j := 0) (show decode cX9_open 0 = .ok (.aload_n 0, 1) by decide +kernel) rfl rfl ?_
  obtain ⟨s1, w⟩ := w
  refine X_getR fl_X9_25 (show decode cX9_open 1 = .ok (.getfield 25, 3) by decide +kernel) s1 ?_
  refine X_aload_n (j := 0) (show decode cX9_open 4 = .ok (.aload_n 0, 1) by decide +kernel) rfl rfl ?_
  refine X_getR fl_X9_12 (show decode cX9_open 5 = .ok (.getfield 12, 3) by decide +kernel) s1 ?_
  obtain ⟨s11, w⟩ := w
  refine X_vV (rc' := 1) (rs' := 6) (as := [.ref _]) mv_X9_68 (show decode cX9_open 8 = .ok (.invokevirtual 68, 3) by decide +kernel) (by decide) (Nat.le_of_ble_eq_true rfl) (Nat.le_of_ble_eq_true rfl) rfl rfl (Nat.le_of_ble_eq_true rfl) (rcvD s11 (by decide) rfl) (kX2_keep w) (fun E h hk => hk.elim) (fun h2 w => ?_)
  refine X_aload_n (j := 0) (show decode cX9_open 11 = .ok (.aload_n 0, 1) by decide +kernel) rfl rfl ?_
  refine X_aload_n (j := 0) (show decode cX9_open 12 = .ok (.aload_n 0, 1) by decide +kernel) rfl rfl ?_
  obtain ⟨s4, w⟩ := w
  refine X_getR fl_X9_12 (show decode cX9_open 13 = .ok (.getfield 12, 3) by decide +kernel) s4 ?_
  refine X_iload_n (j := 1) (show decode cX9_open 16 = .ok (.iload_n 1, 1) by decide +kernel) rfl rfl ?_
  obtain ⟨s10, w⟩ := w
  refine X_vI (rc' := 1) (rs' := 6) (as := [.int _]) mv_X9_96 (show decode cX9_open 17 = .ok (.invokevirtual 96, 3) by decide +kernel) (by decide) (Nat.le_of_ble_eq_true rfl) (Nat.le_of_ble_eq_true rfl) rfl rfl (Nat.le_of_ble_eq_true rfl) (rcvD s10 (by decide) rfl) (kX7_openBlock w) (fun E h hk => hk.elim) (fun r6 h5 w => ?_)
  obtain ⟨s9, w⟩ := w
  refine X_vI (rc' := 0) (rs' := 0) (as := [.int _]) mv_X9_82 (show decode cX9_open 20 = .ok (.invokevirtual 82, 3) by decide +kernel) (by decide) (Nat.le_of_ble_eq_true rfl) (Nat.le_of_ble_eq_true rfl) rfl rfl (Nat.le_of_ble_eq_true rfl) (rcvD s9 (by decide) rfl) (kX9_settle w) (fun E h hk => XT_out hk (fun x hx => absurd hx List.not_mem_nil)) (fun r8 h7 w => ?_)
  exact X_iret ⟨(show decode cX9_open 23 = .ok (.ireturn, 1) by decide +kernel), .int, rfl, rfl⟩ ⟨_, rfl, w⟩
set_option maxRecDepth 100000 in
set_option maxHeartbeats 4000000 in
theorem kX4_hasPoint {a0 : Nat} {a1 : Int32} {h : AH} {K : Int32 → AH → Prop} (w : wX4_hasPoint a0 a1 h K) : Cn mX4_hasPoint (cwd mX4_hasPoint) 1 0 0 [.ref a0, .int a1] h (KI K) T0 := by
  refine Cn_of (by decide +kernel) rfl (Nat.le_of_ble_eq_true rfl) ?_
  show X mX4_hasPoint 1 (KI K) T0 0 0 0 [(0, .ref a0), (1, .int a1)] [] h
  unfold wX4_hasPoint at w
  refine X_iload_n (j := 1) (show decode cX4_hasPoint 0 = .ok (.iload_n 1, 1) by decide +kernel) rfl rfl ?_
  refine X_if_lt (tgt := 16) (show decode cX4_hasPoint 1 = .ok (.ifCond .lt 15, 3) by decide +kernel) (by decide) ⟨fun c1 => ?_, fun c1 => ?_⟩
  · have w := w.1 c1
    refine X_iconst (v := (nI 0)) (show decode cX4_hasPoint 16 = .ok (.iconst 0, 1) by decide +kernel) (by decide) ?_
    exact X_iret ⟨(show decode cX4_hasPoint 17 = .ok (.ireturn, 1) by decide +kernel), .boolean, rfl, (by decide)⟩ ⟨_, rfl, w⟩
  · have w := w.2 c1
    refine X_iload_n (j := 1) (show decode cX4_hasPoint 4 = .ok (.iload_n 1, 1) by decide +kernel) rfl rfl ?_
    refine X_aload_n (j := 0) (show decode cX4_hasPoint 5 = .ok (.aload_n 0, 1) by decide +kernel) rfl rfl ?_
    obtain ⟨s2, w⟩ := w
    refine X_getI fl_X4_15 (show decode cX4_hasPoint 6 = .ok (.getfield 15, 3) by decide +kernel) s2 ?_
    refine X_icmp_ge (tgt := 16) (show decode cX4_hasPoint 9 = .ok (.if_icmp .ge 7, 3) by decide +kernel) (by decide) ⟨fun c3 => ?_, fun c3 => ?_⟩
    · have w := w.1 c3
      refine X_iconst (v := (nI 0)) (show decode cX4_hasPoint 16 = .ok (.iconst 0, 1) by decide +kernel) (by decide) ?_
      exact X_iret ⟨(show decode cX4_hasPoint 17 = .ok (.ireturn, 1) by decide +kernel), .boolean, rfl, (by decide)⟩ ⟨_, rfl, w⟩
    · have w := w.2 c3
      refine X_iconst (v := (nI 1)) (show decode cX4_hasPoint 12 = .ok (.iconst 1, 1) by decide +kernel) (by decide) ?_
      refine X_goto (tgt := 17) (show decode cX4_hasPoint 13 = .ok (.goto 4, 3) by decide +kernel) (by decide) ?_
      exact X_iret ⟨(show decode cX4_hasPoint 17 = .ok (.ireturn, 1) by decide +kernel), .boolean, rfl, (by decide)⟩ ⟨_, rfl, w⟩
set_option maxRecDepth 100000 in
set_option maxHeartbeats 4000000 in
theorem kX4_stemOf {a0 : Nat} {a1 : Int32} {h : AH} {K : Int32 → AH → Prop} (w : wX4_stemOf a0 a1 h K) : Cn mX4_stemOf (cwd mX4_stemOf) 2 0 0 [.ref a0, .int a1] h (KI K) T0 := by
  refine Cn_of (by decide +kernel) rfl (Nat.le_of_ble_eq_true rfl) ?_
  show X mX4_stemOf 2 (KI K) T0 0 0 0 [(0, .ref a0), (1, .int a1)] [] h
  unfold wX4_stemOf at w
  refine X_aload_n (j := 0) (show decode cX4_stemOf 0 = .ok (.aload_n 0, 1) by decide +kernel) rfl rfl ?_
  refine X_iload_n (j := 1) (show decode cX4_stemOf 1 = .ok (.iload_n 1, 1) by decide +kernel) rfl rfl ?_
  obtain ⟨s7, w⟩ := w
  refine X_vI (rc' := 0) (rs' := 0) (as := [.int _]) mv_X4_61 (show decode cX4_stemOf 2 = .ok (.invokevirtual 61, 3) by decide +kernel) (by decide) (Nat.le_of_ble_eq_true rfl) (Nat.le_of_ble_eq_true rfl) rfl rfl (Nat.le_of_ble_eq_true rfl) (rcvD s7 (by decide) rfl) (kX4_hasPoint w) (fun E h hk => hk.elim) (fun r2 h1 w => ?_)
  refine X_if_eq (tgt := 17) (show decode cX4_stemOf 5 = .ok (.ifCond .eq 12, 3) by decide +kernel) (by decide) ⟨fun c3 => ?_, fun c3 => ?_⟩
  · have w := w.1 c3
    refine X_iconst (v := (-1)) (show decode cX4_stemOf 17 = .ok (.iconst (-1), 1) by decide +kernel) (by decide) ?_
    exact X_iret ⟨(show decode cX4_stemOf 18 = .ok (.ireturn, 1) by decide +kernel), .int, rfl, rfl⟩ ⟨_, rfl, w⟩
  · have w := w.2 c3
    refine X_aload_n (j := 0) (show decode cX4_stemOf 8 = .ok (.aload_n 0, 1) by decide +kernel) rfl rfl ?_
    obtain ⟨s4, w⟩ := w
    refine X_getR fl_X4_37 (show decode cX4_stemOf 9 = .ok (.getfield 37, 3) by decide +kernel) s4 ?_
    refine X_iload_n (j := 1) (show decode cX4_stemOf 12 = .ok (.iload_n 1, 1) by decide +kernel) rfl rfl ?_
    obtain ⟨s5, w⟩ := w
    obtain ⟨s6, w⟩ := w
    refine X_iald (show decode cX4_stemOf 13 = .ok (.iaload, 1) by decide +kernel) (isA_eq s5) s6 ?_
    refine X_goto (tgt := 18) (show decode cX4_stemOf 14 = .ok (.goto 4, 3) by decide +kernel) (by decide) ?_
    exact X_iret ⟨(show decode cX4_stemOf 18 = .ok (.ireturn, 1) by decide +kernel), .int, rfl, rfl⟩ ⟨_, rfl, w⟩
set_option maxRecDepth 100000 in
set_option maxHeartbeats 4000000 in
theorem kX8_isRouted {a0 : Nat} {h : AH} {K : Int32 → AH → Prop} (w : wX8_isRouted a0 h K) : Cn mX8_isRouted (cwd mX8_isRouted) 1 0 0 [.ref a0] h (KI K) T0 := by
  refine Cn_of (by decide +kernel) rfl (Nat.le_of_ble_eq_true rfl) ?_
  show X mX8_isRouted 1 (KI K) T0 0 0 0 [(0, .ref a0)] [] h
  unfold wX8_isRouted at w
  refine X_aload_n (j := 0) (show decode cX8_isRouted 0 = .ok (.aload_n 0, 1) by decide +kernel) rfl rfl ?_
  obtain ⟨s1, w⟩ := w
  refine X_getI fl_X8_19 (show decode cX8_isRouted 1 = .ok (.getfield 19, 3) by decide +kernel) s1 ?_
  refine X_if_eq (tgt := 11) (show decode cX8_isRouted 4 = .ok (.ifCond .eq 7, 3) by decide +kernel) (by decide) ⟨fun c2 => ?_, fun c2 => ?_⟩
  · have w := w.1 c2
    refine X_iconst (v := (nI 0)) (show decode cX8_isRouted 11 = .ok (.iconst 0, 1) by decide +kernel) (by decide) ?_
    exact X_iret ⟨(show decode cX8_isRouted 12 = .ok (.ireturn, 1) by decide +kernel), .boolean, rfl, (by decide)⟩ ⟨_, rfl, w⟩
  · have w := w.2 c2
    refine X_iconst (v := (nI 1)) (show decode cX8_isRouted 7 = .ok (.iconst 1, 1) by decide +kernel) (by decide) ?_
    refine X_goto (tgt := 12) (show decode cX8_isRouted 8 = .ok (.goto 4, 3) by decide +kernel) (by decide) ?_
    exact X_iret ⟨(show decode cX8_isRouted 12 = .ok (.ireturn, 1) by decide +kernel), .boolean, rfl, (by decide)⟩ ⟨_, rfl, w⟩
set_option maxRecDepth 100000 in
set_option maxHeartbeats 4000000 in
theorem kX8_held {a0 : Nat} {h : AH} {K : Int32 → AH → Prop} (w : wX8_held a0 h K) : Cn mX8_held (cwd mX8_held) 1 0 0 [.ref a0] h (KI K) T0 := by
  refine Cn_of (by decide +kernel) rfl (Nat.le_of_ble_eq_true rfl) ?_
  show X mX8_held 1 (KI K) T0 0 0 0 [(0, .ref a0)] [] h
  unfold wX8_held at w
  refine X_aload_n (j := 0) (show decode cX8_held 0 = .ok (.aload_n 0, 1) by decide +kernel) rfl rfl ?_
  obtain ⟨s1, w⟩ := w
  refine X_getI fl_X8_19 (show decode cX8_held 1 = .ok (.getfield 19, 3) by decide +kernel) s1 ?_
  refine X_iconst (v := (nI 1)) (show decode cX8_held 4 = .ok (.iconst 1, 1) by decide +kernel) (by decide) ?_
  refine X_aload_n (j := 0) (show decode cX8_held 5 = .ok (.aload_n 0, 1) by decide +kernel) rfl rfl ?_
  refine X_getI fl_X8_13 (show decode cX8_held 6 = .ok (.getfield 13, 3) by decide +kernel) s1 ?_
  refine X_ishl (show decode cX8_held 9 = .ok (.ishl, 1) by decide +kernel) ?_
  refine X_ior (show decode cX8_held 10 = .ok (.ior, 1) by decide +kernel) ?_
  exact X_iret ⟨(show decode cX8_held 11 = .ok (.ireturn, 1) by decide +kernel), .int, rfl, rfl⟩ ⟨_, rfl, w⟩
set_option maxRecDepth 100000 in
set_option maxHeartbeats 4000000 in
theorem kX8_locks {a0 : Nat} {a1 : Int32} {h : AH} {K : Int32 → AH → Prop} (w : wX8_locks a0 a1 h K) : Cn mX8_locks (cwd mX8_locks) 2 0 0 [.ref a0, .int a1] h (KI K) T0 := by
  refine Cn_of (by decide +kernel) rfl (Nat.le_of_ble_eq_true rfl) ?_
  show X mX8_locks 2 (KI K) T0 0 0 0 [(0, .ref a0), (1, .int a1)] [] h
  unfold wX8_locks at w
  refine X_aload_n (j := 0) (show decode cX8_locks 0 = .ok (.aload_n 0, 1) by decide +kernel) rfl rfl ?_
  obtain ⟨s11, w⟩ := w
  refine X_vI (rc' := 0) (rs' := 0) (as := []) mv_X8_28 (show decode cX8_locks 1 = .ok (.invokevirtual 28, 3) by decide +kernel) (by decide) (Nat.le_of_ble_eq_true rfl) (Nat.le_of_ble_eq_true rfl) rfl rfl (Nat.le_of_ble_eq_true rfl) (rcvD s11 (by decide) rfl) (kX8_isRouted w) (fun E h hk => hk.elim) (fun r2 h1 w => ?_)
  refine X_if_eq (tgt := 30) (show decode cX8_locks 4 = .ok (.ifCond .eq 26, 3) by decide +kernel) (by decide) ⟨fun c3 => ?_, fun c3 => ?_⟩
  · have w := w.1 c3
    refine X_iconst (v := (nI 0)) (show decode cX8_locks 30 = .ok (.iconst 0, 1) by decide +kernel) (by decide) ?_
    exact X_iret ⟨(show decode cX8_locks 31 = .ok (.ireturn, 1) by decide +kernel), .boolean, rfl, (by decide)⟩ ⟨_, rfl, w⟩
  · have w := w.2 c3
    refine X_iload_n (j := 1) (show decode cX8_locks 7 = .ok (.iload_n 1, 1) by decide +kernel) rfl rfl ?_
    refine X_aload_n (j := 0) (show decode cX8_locks 8 = .ok (.aload_n 0, 1) by decide +kernel) rfl rfl ?_
    obtain ⟨s4, w⟩ := w
    refine X_getI fl_X8_16 (show decode cX8_locks 9 = .ok (.getfield 16, 3) by decide +kernel) s4 ?_
    refine X_icmp_eq (tgt := 30) (show decode cX8_locks 12 = .ok (.if_icmp .eq 18, 3) by decide +kernel) (by decide) ⟨fun c5 => ?_, fun c5 => ?_⟩
    · have w := w.1 c5
      refine X_iconst (v := (nI 0)) (show decode cX8_locks 30 = .ok (.iconst 0, 1) by decide +kernel) (by decide) ?_
      exact X_iret ⟨(show decode cX8_locks 31 = .ok (.ireturn, 1) by decide +kernel), .boolean, rfl, (by decide)⟩ ⟨_, rfl, w⟩
    · have w := w.2 c5
      refine X_aload_n (j := 0) (show decode cX8_locks 15 = .ok (.aload_n 0, 1) by decide +kernel) rfl rfl ?_
      refine X_vI (rc' := 0) (rs' := 0) (as := []) mv_X8_32 (show decode cX8_locks 16 = .ok (.invokevirtual 32, 3) by decide +kernel) (by decide) (Nat.le_of_ble_eq_true rfl) (Nat.le_of_ble_eq_true rfl) rfl rfl (Nat.le_of_ble_eq_true rfl) (rcvD s4 (by decide) rfl) (kX8_held w) (fun E h hk => hk.elim) (fun r7 h6 w => ?_)
      refine X_iload_n (j := 1) (show decode cX8_locks 19 = .ok (.iload_n 1, 1) by decide +kernel) rfl rfl ?_
      refine X_nI (rc' := 0) (rs' := 0) (as := [.int _, .int _]) msn_X8_36 (show decode cX8_locks 20 = .ok (.invokestatic 36, 3) by decide +kernel) (by decide) (Nat.le_of_ble_eq_true rfl) (Nat.le_of_ble_eq_true rfl) rfl rfl (Nat.le_of_ble_eq_true rfl) (kX9_contains w) (fun r9 h8 w => ?_)
      refine X_if_eq (tgt := 30) (show decode cX8_locks 23 = .ok (.ifCond .eq 7, 3) by decide +kernel) (by decide) ⟨fun c10 => ?_, fun c10 => ?_⟩
      · have w := w.1 c10
        refine X_iconst (v := (nI 0)) (show decode cX8_locks 30 = .ok (.iconst 0, 1) by decide +kernel) (by decide) ?_
        exact X_iret ⟨(show decode cX8_locks 31 = .ok (.ireturn, 1) by decide +kernel), .boolean, rfl, (by decide)⟩ ⟨_, rfl, w⟩
      · have w := w.2 c10
        refine X_iconst (v := (nI 1)) (show decode cX8_locks 26 = .ok (.iconst 1, 1) by decide +kernel) (by decide) ?_
        refine X_goto (tgt := 31) (show decode cX8_locks 27 = .ok (.goto 4, 3) by decide +kernel) (by decide) ?_
        exact X_iret ⟨(show decode cX8_locks 31 = .ok (.ireturn, 1) by decide +kernel), .boolean, rfl, (by decide)⟩ ⟨_, rfl, w⟩
set_option maxRecDepth 100000 in
set_option maxHeartbeats 4000000 in
theorem kX7_lockerOf_L11 {K : Int32 → AH → Prop}    : ∀ (n : Nat) (x0 : Nat) (x2 : Int32) (x3 : Int32) (h : AH), wX7_lockerOf_L11 K   n x0 x2 x3 h → X mX7_lockerOf 3 (KI K) T0 0 0 11 [(0, .ref x0), (2, .int x2), (3, .int x3)] [] h := by
  intro n
  induction n with
  | zero => intro _ _ _ _ w; exact w.elim
  | succ n ih =>
    intro x0 x2 x3 h w
    rw [wX7_lockerOf_L11] at w
    refine X_iload_n (j := 2) (show decode cX7_lockerOf 11 = .ok (.iload_n 3, 1) by decide +kernel) rfl rfl ?_
    refine X_aload_n (j := 0) (show decode cX7_lockerOf 12 = .ok (.aload_n 0, 1) by decide +kernel) rfl rfl ?_
    obtain ⟨s4, w⟩ := w
    refine X_getI fl_X7_28 (show decode cX7_lockerOf 13 = .ok (.getfield 28, 3) by decide +kernel) s4 ?_
    refine X_icmp_ge (tgt := 48) (show decode cX7_lockerOf 16 = .ok (.if_icmp .ge 32, 3) by decide +kernel) (by decide) ⟨fun c5 => ?_, fun c5 => ?_⟩
    · have w := w.1 c5
      refine X_iconst (v := (-1)) (show decode cX7_lockerOf 48 = .ok (.iconst (-1), 1) by decide +kernel) (by decide) ?_
      exact X_iret ⟨(show decode cX7_lockerOf 49 = .ok (.ireturn, 1) by decide +kernel), .int, rfl, rfl⟩ ⟨_, rfl, w⟩
    · have w := w.2 c5
      refine X_aload_n (j := 0) (show decode cX7_lockerOf 19 = .ok (.aload_n 0, 1) by decide +kernel) rfl rfl ?_
      refine X_getR fl_X7_20 (show decode cX7_lockerOf 20 = .ok (.getfield 20, 3) by decide +kernel) s4 ?_
      refine X_iload_n (j := 2) (show decode cX7_lockerOf 23 = .ok (.iload_n 3, 1) by decide +kernel) rfl rfl ?_
      obtain ⟨s6, w⟩ := w
      obtain ⟨s7, w⟩ := w
      refine X_aaldT (show decode cX7_lockerOf 24 = .ok (.aaload, 1) by decide +kernel) (isA_eq s6) s7 ?_
      refine X_iload_n (j := 1) (show decode cX7_lockerOf 25 = .ok (.iload_n 2, 1) by decide +kernel) rfl rfl ?_
      obtain ⟨s15, w⟩ := w
      refine X_vI (rc' := 0) (rs' := 0) (as := [.int _]) mv_X7_77 (show decode cX7_lockerOf 26 = .ok (.invokevirtual 77, 3) by decide +kernel) (by decide) (Nat.le_of_ble_eq_true rfl) (Nat.le_of_ble_eq_true rfl) rfl rfl (Nat.le_of_ble_eq_true rfl) (rcvD s15 (by decide) rfl) (kX8_locks w) (fun E h hk => hk.elim) (fun r9 h8 w => ?_)
      refine X_if_eq (tgt := 42) (show decode cX7_lockerOf 29 = .ok (.ifCond .eq 13, 3) by decide +kernel) (by decide) ⟨fun c10 => ?_, fun c10 => ?_⟩
      · have w := w.1 c10
        refine X_iinc (j := 2) (v := _ + (nI 1)) (ls' := [(0, .ref _), (2, .int _), (3, .int _)]) (show decode cX7_lockerOf 42 = .ok (.iinc 3 1, 3) by decide +kernel) rfl rfl (Nat.le_of_ble_eq_true rfl) rfl ?_
        refine X_goto (tgt := 11) (show decode cX7_lockerOf 45 = .ok (.goto (-34), 3) by decide +kernel) (by decide) ?_
        exact ih _ _ _ _ w
      · have w := w.2 c10
        refine X_aload_n (j := 0) (show decode cX7_lockerOf 32 = .ok (.aload_n 0, 1) by decide +kernel) rfl rfl ?_
        obtain ⟨s11, w⟩ := w
        refine X_getR fl_X7_20 (show decode cX7_lockerOf 33 = .ok (.getfield 20, 3) by decide +kernel) s11 ?_
        refine X_iload_n (j := 2) (show decode cX7_lockerOf 36 = .ok (.iload_n 3, 1) by decide +kernel) rfl rfl ?_
        obtain ⟨s12, w⟩ := w
        obtain ⟨s13, w⟩ := w
        refine X_aaldT (show decode cX7_lockerOf 37 = .ok (.aaload, 1) by decide +kernel) (isA_eq s12) s13 ?_
        obtain ⟨s14, w⟩ := w
        refine X_getI fl_X7_62 (show decode cX7_lockerOf 38 = .ok (.getfield 62, 3) by decide +kernel) s14 ?_
        exact X_iret ⟨(show decode cX7_lockerOf 41 = .ok (.ireturn, 1) by decide +kernel), .int, rfl, rfl⟩ ⟨_, rfl, w⟩
set_option maxRecDepth 100000 in
set_option maxHeartbeats 4000000 in
theorem kX7_lockerOf {a0 : Nat} {a1 : Int32} {h : AH} {K : Int32 → AH → Prop} (w : wX7_lockerOf a0 a1 h K) : Cn mX7_lockerOf (cwd mX7_lockerOf) 3 0 0 [.ref a0, .int a1] h (KI K) T0 := by
  refine Cn_of (by decide +kernel) rfl (Nat.le_of_ble_eq_true rfl) ?_
  show X mX7_lockerOf 3 (KI K) T0 0 0 0 [(0, .ref a0), (1, .int a1)] [] h
  unfold wX7_lockerOf at w
  refine X_aload_n (j := 0) (show decode cX7_lockerOf 0 = .ok (.aload_n 0, 1) by decide +kernel) rfl rfl ?_
  obtain ⟨s1, w⟩ := w
  refine X_getR fl_X7_12 (show decode cX7_lockerOf 1 = .ok (.getfield 12, 3) by decide +kernel) s1 ?_
  refine X_iload_n (j := 1) (show decode cX7_lockerOf 4 = .ok (.iload_n 1, 1) by decide +kernel) rfl rfl ?_
  obtain ⟨s17, w⟩ := w
  refine X_vI (rc' := 0) (rs' := 0) (as := [.int _]) mv_X7_73 (show decode cX7_lockerOf 5 = .ok (.invokevirtual 73, 3) by decide +kernel) (by decide) (Nat.le_of_ble_eq_true rfl) (Nat.le_of_ble_eq_true rfl) rfl rfl (Nat.le_of_ble_eq_true rfl) (rcvD s17 (by decide) rfl) (kX4_stemOf w) (fun E h hk => hk.elim) (fun r3 h2 w => ?_)
  refine X_istore_n (ls' := [(0, .ref _), (1, .int _), (2, .int _)]) (show decode cX7_lockerOf 8 = .ok (.istore_n 2, 1) by decide +kernel) rfl (by decide) rfl ?_
  refine X_iconst (v := (nI 0)) (show decode cX7_lockerOf 9 = .ok (.iconst 0, 1) by decide +kernel) (by decide) ?_
  refine X_istore_n (ls' := [(0, .ref _), (1, .int _), (2, .int _), (3, .int _)]) (show decode cX7_lockerOf 10 = .ok (.istore_n 3, 1) by decide +kernel) rfl (by decide) rfl ?_
  refine X_pick (ls' := [(0, .ref _), (2, .int _), (3, .int _)]) [0, 2, 3] rfl ?_
  obtain ⟨n16, w⟩ := w
  exact kX7_lockerOf_L11  n16 _ _ _ _ w
set_option maxRecDepth 100000 in
set_option maxHeartbeats 4000000 in
theorem kX4_turn {a0 : Nat} {a1 : Int32} {h : AH} {K : AH → Prop} (w : wX4_turn a0 a1 h K) : Cn mX4_turn (cwd mX4_turn) 3 0 0 [.ref a0, .int a1] h (KV K) T0 := by
  refine Cn_of (by decide +kernel) rfl (Nat.le_of_ble_eq_true rfl) ?_
  show X mX4_turn 3 (KV K) T0 0 0 0 [(0, .ref a0), (1, .int a1)] [] h
  unfold wX4_turn at w
  refine X_aload_n (j := 0) (show decode cX4_turn 0 = .ok (.aload_n 0, 1) by decide +kernel) rfl rfl ?_
  refine X_iload_n (j := 1) (show decode cX4_turn 1 = .ok (.iload_n 1, 1) by decide +kernel) rfl rfl ?_
  obtain ⟨s9, w⟩ := w
  refine X_vI (rc' := 0) (rs' := 0) (as := [.int _]) mv_X4_61 (show decode cX4_turn 2 = .ok (.invokevirtual 61, 3) by decide +kernel) (by decide) (Nat.le_of_ble_eq_true rfl) (Nat.le_of_ble_eq_true rfl) rfl rfl (Nat.le_of_ble_eq_true rfl) (rcvD s9 (by decide) rfl) (kX4_hasPoint w) (fun E h hk => hk.elim) (fun r2 h1 w => ?_)
  refine X_if_eq (tgt := 24) (show decode cX4_turn 5 = .ok (.ifCond .eq 19, 3) by decide +kernel) (by decide) ⟨fun c3 => ?_, fun c3 => ?_⟩
  · have w := w.1 c3
    exact X_vret ⟨(show decode cX4_turn 24 = .ok (.return_, 1) by decide +kernel), rfl⟩ ⟨rfl, w⟩
  · have w := w.2 c3
    refine X_aload_n (j := 0) (show decode cX4_turn 8 = .ok (.aload_n 0, 1) by decide +kernel) rfl rfl ?_
    refine X_dup (show decode cX4_turn 9 = .ok (.dup, 1) by decide +kernel) rfl ?_
    obtain ⟨s4, w⟩ := w
    refine X_getI fl_X4_24 (show decode cX4_turn 10 = .ok (.getfield 24, 3) by decide +kernel) s4 ?_
    refine X_iconst (v := (nI 1)) (show decode cX4_turn 13 = .ok (.iconst 1, 1) by decide +kernel) (by decide) ?_
    refine X_aload_n (j := 0) (show decode cX4_turn 14 = .ok (.aload_n 0, 1) by decide +kernel) rfl rfl ?_
    refine X_iload_n (j := 1) (show decode cX4_turn 15 = .ok (.iload_n 1, 1) by decide +kernel) rfl rfl ?_
    refine X_vI (rc' := 0) (rs' := 0) (as := [.int _]) mv_X4_64 (show decode cX4_turn 16 = .ok (.invokevirtual 64, 3) by decide +kernel) (by decide) (Nat.le_of_ble_eq_true rfl) (Nat.le_of_ble_eq_true rfl) rfl rfl (Nat.le_of_ble_eq_true rfl) (rcvD s4 (by decide) rfl) (kX4_stemOf w) (fun E h hk => hk.elim) (fun r6 h5 w => ?_)
    refine X_ishl (show decode cX4_turn 19 = .ok (.ishl, 1) by decide +kernel) ?_
    refine X_ixor (show decode cX4_turn 20 = .ok (.ixor, 1) by decide +kernel) ?_
    obtain ⟨s7, w⟩ := w
    refine X_putI fp_X4_24 (show decode cX4_turn 21 = .ok (.putfield 24, 3) by decide +kernel) (fun z => nomatch z) s7 rfl rfl ?_
    have w := w _ rfl
    exact X_vret ⟨(show decode cX4_turn 24 = .ok (.return_, 1) by decide +kernel), rfl⟩ ⟨rfl, w⟩
set_option maxRecDepth 100000 in
set_option maxHeartbeats 4000000 in
theorem kX4_pointsLeft {a0 : Nat} {a1 : Int32} {h : AH} {K : Int32 → AH → Prop} (w : wX4_pointsLeft a0 a1 h K) : Cn mX4_pointsLeft (cwd mX4_pointsLeft) 3 0 0 [.ref a0, .int a1] h (KI K) T0 := by
  refine Cn_of (by decide +kernel) rfl (Nat.le_of_ble_eq_true rfl) ?_
  show X mX4_pointsLeft 3 (KI K) T0 0 0 0 [(0, .ref a0), (1, .int a1)] [] h
  unfold wX4_pointsLeft at w
  refine X_aload_n (j := 0) (show decode cX4_pointsLeft 0 = .ok (.aload_n 0, 1) by decide +kernel) rfl rfl ?_
  obtain ⟨s1, w⟩ := w
  refine X_getI fl_X4_24 (show decode cX4_pointsLeft 1 = .ok (.getfield 24, 3) by decide +kernel) s1 ?_
  refine X_aload_n (j := 0) (show decode cX4_pointsLeft 4 = .ok (.aload_n 0, 1) by decide +kernel) rfl rfl ?_
  refine X_iload_n (j := 1) (show decode cX4_pointsLeft 5 = .ok (.iload_n 1, 1) by decide +kernel) rfl rfl ?_
  refine X_vI (rc' := 0) (rs' := 0) (as := [.int _]) mv_X4_64 (show decode cX4_pointsLeft 6 = .ok (.invokevirtual 64, 3) by decide +kernel) (by decide) (Nat.le_of_ble_eq_true rfl) (Nat.le_of_ble_eq_true rfl) rfl rfl (Nat.le_of_ble_eq_true rfl) (rcvD s1 (by decide) rfl) (kX4_stemOf w) (fun E h hk => hk.elim) (fun r3 h2 w => ?_)
  refine X_nI (rc' := 0) (rs' := 0) (as := [.int _, .int _]) msn_X4_68 (show decode cX4_pointsLeft 9 = .ok (.invokestatic 68, 3) by decide +kernel) (by decide) (Nat.le_of_ble_eq_true rfl) (Nat.le_of_ble_eq_true rfl) rfl rfl (Nat.le_of_ble_eq_true rfl) (kX9_contains w) (fun r5 h4 w => ?_)
  refine X_if_ne (tgt := 19) (show decode cX4_pointsLeft 12 = .ok (.ifCond .ne 7, 3) by decide +kernel) (by decide) ⟨fun c6 => ?_, fun c6 => ?_⟩
  · have w := w.1 c6
    refine X_iconst (v := (nI 0)) (show decode cX4_pointsLeft 19 = .ok (.iconst 0, 1) by decide +kernel) (by decide) ?_
    exact X_iret ⟨(show decode cX4_pointsLeft 20 = .ok (.ireturn, 1) by decide +kernel), .boolean, rfl, (by decide)⟩ ⟨_, rfl, w⟩
  · have w := w.2 c6
    refine X_iconst (v := (nI 1)) (show decode cX4_pointsLeft 15 = .ok (.iconst 1, 1) by decide +kernel) (by decide) ?_
    refine X_goto (tgt := 20) (show decode cX4_pointsLeft 16 = .ok (.goto 4, 3) by decide +kernel) (by decide) ?_
    exact X_iret ⟨(show decode cX4_pointsLeft 20 = .ok (.ireturn, 1) by decide +kernel), .boolean, rfl, (by decide)⟩ ⟨_, rfl, w⟩
set_option maxRecDepth 100000 in
set_option maxHeartbeats 4000000 in
theorem kX7_movePoint {a0 : Nat} {a1 : Int32} {h : AH} {K : Int32 → AH → Prop} (w : wX7_movePoint a0 a1 h K) : Cn mX7_movePoint (cwd mX7_movePoint) 4 0 0 [.ref a0, .int a1] h (KI K) T0 := by
  refine Cn_of (by decide +kernel) rfl (Nat.le_of_ble_eq_true rfl) ?_
  show X mX7_movePoint 4 (KI K) T0 0 0 0 [(0, .ref a0), (1, .int a1)] [] h
  unfold wX7_movePoint at w
  refine X_aload_n (j := 0) (show decode cX7_movePoint 0 = .ok (.aload_n 0, 1) by decide +kernel) rfl rfl ?_
  obtain ⟨s1, w⟩ := w
  refine X_getR fl_X7_12 (show decode cX7_movePoint 1 = .ok (.getfield 12, 3) by decide +kernel) s1 ?_
  refine X_iload_n (j := 1) (show decode cX7_movePoint 4 = .ok (.iload_n 1, 1) by decide +kernel) rfl rfl ?_
  obtain ⟨s18, w⟩ := w
  refine X_vI (rc' := 0) (rs' := 0) (as := [.int _]) mv_X7_99 (show decode cX7_movePoint 5 = .ok (.invokevirtual 99, 3) by decide +kernel) (by decide) (Nat.le_of_ble_eq_true rfl) (Nat.le_of_ble_eq_true rfl) rfl rfl (Nat.le_of_ble_eq_true rfl) (rcvD s18 (by decide) rfl) (kX4_hasPoint w) (fun E h hk => hk.elim) (fun r3 h2 w => ?_)
  refine X_if_ne (tgt := 13) (show decode cX7_movePoint 8 = .ok (.ifCond .ne 5, 3) by decide +kernel) (by decide) ⟨fun c4 => ?_, fun c4 => ?_⟩
  · have w := w.1 c4
    refine X_aload_n (j := 0) (show decode cX7_movePoint 13 = .ok (.aload_n 0, 1) by decide +kernel) rfl rfl ?_
    refine X_iload_n (j := 1) (show decode cX7_movePoint 14 = .ok (.iload_n 1, 1) by decide +kernel) rfl rfl ?_
    obtain ⟨s17, w⟩ := w
    refine X_vI (rc' := 0) (rs' := 0) (as := [.int _]) mv_X7_102 (show decode cX7_movePoint 15 = .ok (.invokevirtual 102, 3) by decide +kernel) (by decide) (Nat.le_of_ble_eq_true rfl) (Nat.le_of_ble_eq_true rfl) rfl rfl (Nat.le_of_ble_eq_true rfl) (rcvD s17 (by decide) rfl) (kX7_lockerOf w) (fun E h hk => hk.elim) (fun r6 h5 w => ?_)
    refine X_iconst (v := (-1)) (show decode cX7_movePoint 18 = .ok (.iconst (-1), 1) by decide +kernel) (by decide) ?_
    refine X_icmp_eq (tgt := 25) (show decode cX7_movePoint 19 = .ok (.if_icmp .eq 6, 3) by decide +kernel) (by decide) ⟨fun c7 => ?_, fun c7 => ?_⟩
    · have w := w.1 c7
      refine X_aload_n (j := 0) (show decode cX7_movePoint 25 = .ok (.aload_n 0, 1) by decide +kernel) rfl rfl ?_
      obtain ⟨s8, w⟩ := w
      refine X_getR fl_X7_12 (show decode cX7_movePoint 26 = .ok (.getfield 12, 3) by decide +kernel) s8 ?_
      refine X_iload_n (j := 1) (show decode cX7_movePoint 29 = .ok (.iload_n 1, 1) by decide +kernel) rfl rfl ?_
      obtain ⟨s16, w⟩ := w
      refine X_vV (rc' := 0) (rs' := 0) (as := [.int _]) mv_X7_105 (show decode cX7_movePoint 30 = .ok (.invokevirtual 105, 3) by decide +kernel) (by decide) (Nat.le_of_ble_eq_true rfl) (Nat.le_of_ble_eq_true rfl) rfl rfl (Nat.le_of_ble_eq_true rfl) (rcvD s16 (by decide) rfl) (kX4_turn w) (fun E h hk => hk.elim) (fun h9 w => ?_)
      refine X_aload_n (j := 0) (show decode cX7_movePoint 33 = .ok (.aload_n 0, 1) by decide +kernel) rfl rfl ?_
      obtain ⟨s11, w⟩ := w
      refine X_getR fl_X7_12 (show decode cX7_movePoint 34 = .ok (.getfield 12, 3) by decide +kernel) s11 ?_
      refine X_iload_n (j := 1) (show decode cX7_movePoint 37 = .ok (.iload_n 1, 1) by decide +kernel) rfl rfl ?_
      obtain ⟨s15, w⟩ := w
      refine X_vI (rc' := 0) (rs' := 0) (as := [.int _]) mv_X7_109 (show decode cX7_movePoint 38 = .ok (.invokevirtual 109, 3) by decide +kernel) (by decide) (Nat.le_of_ble_eq_true rfl) (Nat.le_of_ble_eq_true rfl) rfl rfl (Nat.le_of_ble_eq_true rfl) (rcvD s15 (by decide) rfl) (kX4_pointsLeft w) (fun E h hk => hk.elim) (fun r13 h12 w => ?_)
      refine X_if_eq (tgt := 48) (show decode cX7_movePoint 41 = .ok (.ifCond .eq 7, 3) by decide +kernel) (by decide) ⟨fun c14 => ?_, fun c14 => ?_⟩
      · have w := w.1 c14
        refine X_iconst (v := (nI 0)) (show decode cX7_movePoint 48 = .ok (.iconst 0, 1) by decide +kernel) (by decide) ?_
        exact X_iret ⟨(show decode cX7_movePoint 49 = .ok (.ireturn, 1) by decide +kernel), .int, rfl, rfl⟩ ⟨_, rfl, w⟩
      · have w := w.2 c14
        refine X_iconst (v := (nI 1)) (show decode cX7_movePoint 44 = .ok (.iconst 1, 1) by decide +kernel) (by decide) ?_
        refine X_goto (tgt := 49) (show decode cX7_movePoint 45 = .ok (.goto 4, 3) by decide +kernel) (by decide) ?_
        exact X_iret ⟨(show decode cX7_movePoint 49 = .ok (.ireturn, 1) by decide +kernel), .int, rfl, rfl⟩ ⟨_, rfl, w⟩
    · have w := w.2 c7
      refine X_bipush (v := (-3)) (show decode cX7_movePoint 22 = .ok (.bipush (-3), 2) by decide +kernel) (by decide) ?_
      exact X_iret ⟨(show decode cX7_movePoint 24 = .ok (.ireturn, 1) by decide +kernel), .int, rfl, rfl⟩ ⟨_, rfl, w⟩
  · have w := w.2 c4
    refine X_iconst (v := (-1)) (show decode cX7_movePoint 11 = .ok (.iconst (-1), 1) by decide +kernel) (by decide) ?_
    exact X_iret ⟨(show decode cX7_movePoint 12 = .ok (.ireturn, 1) by decide +kernel), .int, rfl, rfl⟩ ⟨_, rfl, w⟩
set_option maxRecDepth 100000 in
set_option maxHeartbeats 4000000 in
theorem kX9_throwPoint {a0 : Nat} {a1 : Int32} {h : AH} {K : Int32 → AH → Prop} {T : String → AH → Prop} (w : wX9_throwPoint a0 a1 h K T) : Cn mX9_throwPoint (cwd mX9_throwPoint) 10 1 6 [.ref a0, .int a1] h (KI K) T := by
  refine Cn_of (by decide +kernel) rfl (Nat.le_of_ble_eq_true rfl) ?_
  show X mX9_throwPoint 10 (KI K) T 1 6 0 [(0, .ref a0), (1, .int a1)] [] h
  unfold wX9_throwPoint at w
  refine X_aload_n (j := 0) (show decode cX9_throwPoint 0 = .ok (.aload_n 0, 1) by decide +kernel) rfl rfl ?_
  obtain ⟨s1, w⟩ := w
  refine X_getR fl_X9_25 (show decode cX9_throwPoint 1 = .ok (.getfield 25, 3) by decide +kernel) s1 ?_
  refine X_aload_n (j := 0) (show decode cX9_throwPoint 4 = .ok (.aload_n 0, 1) by decide +kernel) rfl rfl ?_
  refine X_getR fl_X9_12 (show decode cX9_throwPoint 5 = .ok (.getfield 12, 3) by decide +kernel) s1 ?_
  obtain ⟨s12, w⟩ := w
  refine X_vV (rc' := 1) (rs' := 6) (as := [.ref _]) mv_X9_68 (show decode cX9_throwPoint 8 = .ok (.invokevirtual 68, 3) by decide +kernel) (by decide) (Nat.le_of_ble_eq_true rfl) (Nat.le_of_ble_eq_true rfl) rfl rfl (Nat.le_of_ble_eq_true rfl) (rcvD s12 (by decide) rfl) (kX2_keep w) (fun E h hk => hk.elim) (fun h2 w => ?_)
  refine X_aload_n (j := 0) (show decode cX9_throwPoint 11 = .ok (.aload_n 0, 1) by decide +kernel) rfl rfl ?_
  refine X_aload_n (j := 0) (show decode cX9_throwPoint 12 = .ok (.aload_n 0, 1) by decide +kernel) rfl rfl ?_
  obtain ⟨s4, w⟩ := w
  refine X_getR fl_X9_12 (show decode cX9_throwPoint 13 = .ok (.getfield 12, 3) by decide +kernel) s4 ?_
  refine X_iload_n (j := 1) (show decode cX9_throwPoint 16 = .ok (.iload_n 1, 1) by decide +kernel) rfl rfl ?_
  obtain ⟨s11, w⟩ := w
  refine X_vI (rc' := 1) (rs' := 6) (as := [.int _]) mv_X9_99 (show decode cX9_throwPoint 17 = .ok (.invokevirtual 99, 3) by decide +kernel) (by decide) (Nat.le_of_ble_eq_true rfl) (Nat.le_of_ble_eq_true rfl) rfl rfl (Nat.le_of_ble_eq_true rfl) (rcvD s11 (by decide) rfl) (kX7_movePoint w) (fun E h hk => hk.elim) (fun r6 h5 w => ?_)
  obtain ⟨s10, w⟩ := w
  refine X_vI (rc' := 0) (rs' := 0) (as := [.int _]) mv_X9_82 (show decode cX9_throwPoint 20 = .ok (.invokevirtual 82, 3) by decide +kernel) (by decide) (Nat.le_of_ble_eq_true rfl) (Nat.le_of_ble_eq_true rfl) rfl rfl (Nat.le_of_ble_eq_true rfl) (rcvD s10 (by decide) rfl) (kX9_settle w) (fun E h hk => XT_out hk (fun x hx => absurd hx List.not_mem_nil)) (fun r8 h7 w => ?_)
  refine X_iconst (v := (nI 1)) (show decode cX9_throwPoint 23 = .ok (.iconst 1, 1) by decide +kernel) (by decide) ?_
  refine X_icmp_ne (tgt := 31) (show decode cX9_throwPoint 24 = .ok (.if_icmp .ne 7, 3) by decide +kernel) (by decide) ⟨fun c9 => ?_, fun c9 => ?_⟩
  · have w := w.1 c9
    refine X_iconst (v := (nI 0)) (show decode cX9_throwPoint 31 = .ok (.iconst 0, 1) by decide +kernel) (by decide) ?_
    exact X_iret ⟨(show decode cX9_throwPoint 32 = .ok (.ireturn, 1) by decide +kernel), .boolean, rfl, (by decide)⟩ ⟨_, rfl, w⟩
  · have w := w.2 c9
    refine X_iconst (v := (nI 1)) (show decode cX9_throwPoint 27 = .ok (.iconst 1, 1) by decide +kernel) (by decide) ?_
    refine X_goto (tgt := 32) (show decode cX9_throwPoint 28 = .ok (.goto 4, 3) by decide +kernel) (by decide) ?_
    exact X_iret ⟨(show decode cX9_throwPoint 32 = .ok (.ireturn, 1) by decide +kernel), .boolean, rfl, (by decide)⟩ ⟨_, rfl, w⟩
set_option maxRecDepth 100000 in
set_option maxHeartbeats 4000000 in
theorem kX7_held_L4 {K : Int32 → AH → Prop}    : ∀ (n : Nat) (x0 : Nat) (x1 : Int32) (x2 : Int32) (h : AH), wX7_held_L4 K   n x0 x1 x2 h → X mX7_held 2 (KI K) T0 0 0 4 [(0, .ref x0), (1, .int x1), (2, .int x2)] [] h := by
  intro n
  induction n with
  | zero => intro _ _ _ _ w; exact w.elim
  | succ n ih =>
    intro x0 x1 x2 h w
    rw [wX7_held_L4] at w
    refine X_iload_n (j := 2) (show decode cX7_held 4 = .ok (.iload_n 2, 1) by decide +kernel) rfl rfl ?_
    refine X_aload_n (j := 0) (show decode cX7_held 5 = .ok (.aload_n 0, 1) by decide +kernel) rfl rfl ?_
    obtain ⟨s1, w⟩ := w
    refine X_getI fl_X7_28 (show decode cX7_held 6 = .ok (.getfield 28, 3) by decide +kernel) s1 ?_
    refine X_icmp_ge (tgt := 30) (show decode cX7_held 9 = .ok (.if_icmp .ge 21, 3) by decide +kernel) (by decide) ⟨fun c2 => ?_, fun c2 => ?_⟩
    · have w := w.1 c2
      refine X_iload_n (j := 1) (show decode cX7_held 30 = .ok (.iload_n 1, 1) by decide +kernel) rfl rfl ?_
      exact X_iret ⟨(show decode cX7_held 31 = .ok (.ireturn, 1) by decide +kernel), .int, rfl, rfl⟩ ⟨_, rfl, w⟩
    · have w := w.2 c2
      refine X_iload_n (j := 1) (show decode cX7_held 12 = .ok (.iload_n 1, 1) by decide +kernel) rfl rfl ?_
      refine X_aload_n (j := 0) (show decode cX7_held 13 = .ok (.aload_n 0, 1) by decide +kernel) rfl rfl ?_
      refine X_getR fl_X7_20 (show decode cX7_held 14 = .ok (.getfield 20, 3) by decide +kernel) s1 ?_
      refine X_iload_n (j := 2) (show decode cX7_held 17 = .ok (.iload_n 2, 1) by decide +kernel) rfl rfl ?_
      obtain ⟨s3, w⟩ := w
      obtain ⟨s4, w⟩ := w
      refine X_aaldT (show decode cX7_held 18 = .ok (.aaload, 1) by decide +kernel) (isA_eq s3) s4 ?_
      obtain ⟨s7, w⟩ := w
      refine X_vI (rc' := 0) (rs' := 0) (as := []) mv_X7_65 (show decode cX7_held 19 = .ok (.invokevirtual 65, 3) by decide +kernel) (by decide) (Nat.le_of_ble_eq_true rfl) (Nat.le_of_ble_eq_true rfl) rfl rfl (Nat.le_of_ble_eq_true rfl) (rcvD s7 (by decide) rfl) (kX8_held w) (fun E h hk => hk.elim) (fun r6 h5 w => ?_)
      refine X_ior (show decode cX7_held 22 = .ok (.ior, 1) by decide +kernel) ?_
      refine X_istore_n (ls' := [(0, .ref _), (1, .int _), (2, .int _)]) (show decode cX7_held 23 = .ok (.istore_n 1, 1) by decide +kernel) rfl (by decide) rfl ?_
      refine X_iinc (j := 2) (v := _ + (nI 1)) (ls' := [(0, .ref _), (1, .int _), (2, .int _)]) (show decode cX7_held 24 = .ok (.iinc 2 1, 3) by decide +kernel) rfl rfl (Nat.le_of_ble_eq_true rfl) rfl ?_
      refine X_goto (tgt := 4) (show decode cX7_held 27 = .ok (.goto (-23), 3) by decide +kernel) (by decide) ?_
      exact ih _ _ _ _ w
set_option maxRecDepth 100000 in
set_option maxHeartbeats 4000000 in
theorem kX7_held {a0 : Nat} {h : AH} {K : Int32 → AH → Prop} (w : wX7_held a0 h K) : Cn mX7_held (cwd mX7_held) 2 0 0 [.ref a0] h (KI K) T0 := by
  refine Cn_of (by decide +kernel) rfl (Nat.le_of_ble_eq_true rfl) ?_
  show X mX7_held 2 (KI K) T0 0 0 0 [(0, .ref a0)] [] h
  unfold wX7_held at w
  refine X_iconst (v := (nI 0)) (show decode cX7_held 0 = .ok (.iconst 0, 1) by decide +kernel) (by decide) ?_
  refine X_istore_n (ls' := [(0, .ref _), (1, .int _)]) (show decode cX7_held 1 = .ok (.istore_n 1, 1) by decide +kernel) rfl (by decide) rfl ?_
  refine X_iconst (v := (nI 0)) (show decode cX7_held 2 = .ok (.iconst 0, 1) by decide +kernel) (by decide) ?_
  refine X_istore_n (ls' := [(0, .ref _), (1, .int _), (2, .int _)]) (show decode cX7_held 3 = .ok (.istore_n 2, 1) by decide +kernel) rfl (by decide) rfl ?_
  obtain ⟨n8, w⟩ := w
  exact kX7_held_L4  n8 _ _ _ _ w
set_option maxRecDepth 100000 in
set_option maxHeartbeats 4000000 in
theorem kX8_begin {a0 : Nat} {a1 : Int32} {a2 : Int32} {a3 : Int32} {h : AH} {K : AH → Prop} (w : wX8_begin a0 a1 a2 a3 h K) : Cn mX8_begin (cwd mX8_begin) 1 0 0 [.ref a0, .int a1, .int a2, .int a3] h (KV K) T0 := by
  refine Cn_of (by decide +kernel) rfl (Nat.le_of_ble_eq_true rfl) ?_
  show X mX8_begin 1 (KV K) T0 0 0 0 [(0, .ref a0), (1, .int a1), (2, .int a2), (3, .int a3)] [] h
  unfold wX8_begin at w
  refine X_aload_n (j := 0) (show decode cX8_begin 0 = .ok (.aload_n 0, 1) by decide +kernel) rfl rfl ?_
  refine X_iload_n (j := 1) (show decode cX8_begin 1 = .ok (.iload_n 1, 1) by decide +kernel) rfl rfl ?_
  obtain ⟨s1, w⟩ := w
  refine X_putI fp_X8_7 (show decode cX8_begin 2 = .ok (.putfield 7, 3) by decide +kernel) (fun z => nomatch z) s1 rfl rfl ?_
  have w := w _ rfl
  refine X_aload_n (j := 0) (show decode cX8_begin 5 = .ok (.aload_n 0, 1) by decide +kernel) rfl rfl ?_
  refine X_iload_n (j := 2) (show decode cX8_begin 6 = .ok (.iload_n 2, 1) by decide +kernel) rfl rfl ?_
  refine X_putI fp_X8_13 (show decode cX8_begin 7 = .ok (.putfield 13, 3) by decide +kernel) (fun z => nomatch z) s1 rfl rfl ?_
  have w := w _ rfl
  refine X_aload_n (j := 0) (show decode cX8_begin 10 = .ok (.aload_n 0, 1) by decide +kernel) rfl rfl ?_
  refine X_iload_n (j := 3) (show decode cX8_begin 11 = .ok (.iload_n 3, 1) by decide +kernel) rfl rfl ?_
  refine X_putI fp_X8_16 (show decode cX8_begin 12 = .ok (.putfield 16, 3) by decide +kernel) (fun z => nomatch z) s1 rfl rfl ?_
  have w := w _ rfl
  refine X_aload_n (j := 0) (show decode cX8_begin 15 = .ok (.aload_n 0, 1) by decide +kernel) rfl rfl ?_
  refine X_iconst (v := (nI 0)) (show decode cX8_begin 16 = .ok (.iconst 0, 1) by decide +kernel) (by decide) ?_
  refine X_putI fp_X8_19 (show decode cX8_begin 17 = .ok (.putfield 19, 3) by decide +kernel) (fun z => nomatch z) s1 rfl rfl ?_
  have w := w _ rfl
  refine X_aload_n (j := 0) (show decode cX8_begin 20 = .ok (.aload_n 0, 1) by decide +kernel) rfl rfl ?_
  refine X_iconst (v := (nI 0)) (show decode cX8_begin 21 = .ok (.iconst 0, 1) by decide +kernel) (by decide) ?_
  refine X_putI fp_X8_22 (show decode cX8_begin 22 = .ok (.putfield 22, 3) by decide +kernel) (fun z => nomatch z) s1 rfl rfl ?_
  have w := w _ rfl
  refine X_aload_n (j := 0) (show decode cX8_begin 25 = .ok (.aload_n 0, 1) by decide +kernel) rfl rfl ?_
  refine X_iconst (v := (nI 0)) (show decode cX8_begin 26 = .ok (.iconst 0, 1) by decide +kernel) (by decide) ?_
  refine X_putI fp_X8_25 (show decode cX8_begin 27 = .ok (.putfield 25, 3) by decide +kernel) (fun z => nomatch z) s1 rfl rfl ?_
  have w := w _ rfl
  exact X_vret ⟨(show decode cX8_begin 30 = .ok (.return_, 1) by decide +kernel), rfl⟩ ⟨rfl, w⟩
set_option maxRecDepth 100000 in
set_option maxHeartbeats 4000000 in
theorem kX7_joinQueue {a0 : Nat} {a1 : Int32} {h : AH} {K : AH → Prop} (w : wX7_joinQueue a0 a1 h K) : Cn mX7_joinQueue (cwd mX7_joinQueue) 1 0 0 [.ref a0, .int a1] h (KV K) T0 := by
  refine Cn_of (by decide +kernel) rfl (Nat.le_of_ble_eq_true rfl) ?_
  show X mX7_joinQueue 1 (KV K) T0 0 0 0 [(0, .ref a0), (1, .int a1)] [] h
  unfold wX7_joinQueue at w
  refine X_aload_n (j := 0) (show decode cX7_joinQueue 0 = .ok (.aload_n 0, 1) by decide +kernel) rfl rfl ?_
  obtain ⟨s1, w⟩ := w
  refine X_getI fl_X7_32 (show decode cX7_joinQueue 1 = .ok (.getfield 32, 3) by decide +kernel) s1 ?_
  refine X_bipush (v := (nI 8)) (show decode cX7_joinQueue 4 = .ok (.bipush 8, 2) by decide +kernel) (by decide) ?_
  refine X_icmp_ge (tgt := 29) (show decode cX7_joinQueue 6 = .ok (.if_icmp .ge 23, 3) by decide +kernel) (by decide) ⟨fun c2 => ?_, fun c2 => ?_⟩
  · have w := w.1 c2
    exact X_vret ⟨(show decode cX7_joinQueue 29 = .ok (.return_, 1) by decide +kernel), rfl⟩ ⟨rfl, w⟩
  · have w := w.2 c2
    refine X_aload_n (j := 0) (show decode cX7_joinQueue 9 = .ok (.aload_n 0, 1) by decide +kernel) rfl rfl ?_
    refine X_getR fl_X7_24 (show decode cX7_joinQueue 10 = .ok (.getfield 24, 3) by decide +kernel) s1 ?_
    refine X_aload_n (j := 0) (show decode cX7_joinQueue 13 = .ok (.aload_n 0, 1) by decide +kernel) rfl rfl ?_
    refine X_getI fl_X7_32 (show decode cX7_joinQueue 14 = .ok (.getfield 32, 3) by decide +kernel) s1 ?_
    refine X_iload_n (j := 1) (show decode cX7_joinQueue 17 = .ok (.iload_n 1, 1) by decide +kernel) rfl rfl ?_
    obtain ⟨s3, w⟩ := w
    obtain ⟨s4, w⟩ := w
    obtain ⟨s5, w⟩ := w
    refine X_iast (show decode cX7_joinQueue 18 = .ok (.iastore, 1) by decide +kernel) (isA_eq s3) s4 s5 ?_
    have w := w _ rfl
    refine X_aload_n (j := 0) (show decode cX7_joinQueue 19 = .ok (.aload_n 0, 1) by decide +kernel) rfl rfl ?_
    refine X_dup (show decode cX7_joinQueue 20 = .ok (.dup, 1) by decide +kernel) rfl ?_
    refine X_getI fl_X7_32 (show decode cX7_joinQueue 21 = .ok (.getfield 32, 3) by decide +kernel) s1 ?_
    refine X_iconst (v := (nI 1)) (show decode cX7_joinQueue 24 = .ok (.iconst 1, 1) by decide +kernel) (by decide) ?_
    refine X_iadd (show decode cX7_joinQueue 25 = .ok (.iadd, 1) by decide +kernel) ?_
    refine X_putI fp_X7_32 (show decode cX7_joinQueue 26 = .ok (.putfield 32, 3) by decide +kernel) (fun z => nomatch z) s1 rfl rfl ?_
    have w := w _ rfl
    exact X_vret ⟨(show decode cX7_joinQueue 29 = .ok (.return_, 1) by decide +kernel), rfl⟩ ⟨rfl, w⟩
set_option maxRecDepth 100000 in
set_option maxHeartbeats 4000000 in
theorem kX7_bringTrain {a0 : Nat} {a1 : Int32} {a2 : Int32} {h : AH} {K : Int32 → AH → Prop} (w : wX7_bringTrain a0 a1 a2 h K) : Cn mX7_bringTrain (cwd mX7_bringTrain) 3 0 0 [.ref a0, .int a1, .int a2] h (KI K) T0 := by
  refine Cn_of (by decide +kernel) rfl (Nat.le_of_ble_eq_true rfl) ?_
  show X mX7_bringTrain 3 (KI K) T0 0 0 0 [(0, .ref a0), (1, .int a1), (2, .int a2)] [] h
  unfold wX7_bringTrain at w
  refine X_aload_n (j := 0) (show decode cX7_bringTrain 0 = .ok (.aload_n 0, 1) by decide +kernel) rfl rfl ?_
  obtain ⟨s1, w⟩ := w
  refine X_getR fl_X7_12 (show decode cX7_bringTrain 1 = .ok (.getfield 12, 3) by decide +kernel) s1 ?_
  refine X_iload_n (j := 1) (show decode cX7_bringTrain 4 = .ok (.iload_n 1, 1) by decide +kernel) rfl rfl ?_
  obtain ⟨s30, w⟩ := w
  refine X_vI (rc' := 0) (rs' := 0) (as := [.int _]) mv_X7_91 (show decode cX7_bringTrain 5 = .ok (.invokevirtual 91, 3) by decide +kernel) (by decide) (Nat.le_of_ble_eq_true rfl) (Nat.le_of_ble_eq_true rfl) rfl rfl (Nat.le_of_ble_eq_true rfl) (rcvD s30 (by decide) rfl) (kX4_has w) (fun E h hk => hk.elim) (fun r3 h2 w => ?_)
  refine X_if_eq (tgt := 22) (show decode cX7_bringTrain 8 = .ok (.ifCond .eq 14, 3) by decide +kernel) (by decide) ⟨fun c4 => ?_, fun c4 => ?_⟩
  · have w := w.1 c4
    refine X_iconst (v := (-1)) (show decode cX7_bringTrain 22 = .ok (.iconst (-1), 1) by decide +kernel) (by decide) ?_
    exact X_iret ⟨(show decode cX7_bringTrain 23 = .ok (.ireturn, 1) by decide +kernel), .int, rfl, rfl⟩ ⟨_, rfl, w⟩
  · have w := w.2 c4
    refine X_aload_n (j := 0) (show decode cX7_bringTrain 11 = .ok (.aload_n 0, 1) by decide +kernel) rfl rfl ?_
    obtain ⟨s5, w⟩ := w
    refine X_getR fl_X7_12 (show decode cX7_bringTrain 12 = .ok (.getfield 12, 3) by decide +kernel) s5 ?_
    refine X_iload_n (j := 2) (show decode cX7_bringTrain 15 = .ok (.iload_n 2, 1) by decide +kernel) rfl rfl ?_
    obtain ⟨s29, w⟩ := w
    refine X_vI (rc' := 0) (rs' := 0) (as := [.int _]) mv_X7_91 (show decode cX7_bringTrain 16 = .ok (.invokevirtual 91, 3) by decide +kernel) (by decide) (Nat.le_of_ble_eq_true rfl) (Nat.le_of_ble_eq_true rfl) rfl rfl (Nat.le_of_ble_eq_true rfl) (rcvD s29 (by decide) rfl) (kX4_has w) (fun E h hk => hk.elim) (fun r7 h6 w => ?_)
    refine X_if_ne (tgt := 24) (show decode cX7_bringTrain 19 = .ok (.ifCond .ne 5, 3) by decide +kernel) (by decide) ⟨fun c8 => ?_, fun c8 => ?_⟩
    · have w := w.1 c8
      refine X_iload_n (j := 1) (show decode cX7_bringTrain 24 = .ok (.iload_n 1, 1) by decide +kernel) rfl rfl ?_
      refine X_iload_n (j := 2) (show decode cX7_bringTrain 25 = .ok (.iload_n 2, 1) by decide +kernel) rfl rfl ?_
      refine X_icmp_ne (tgt := 32) (show decode cX7_bringTrain 26 = .ok (.if_icmp .ne 6, 3) by decide +kernel) (by decide) ⟨fun c9 => ?_, fun c9 => ?_⟩
      · have w := w.1 c9
        refine X_aload_n (j := 0) (show decode cX7_bringTrain 32 = .ok (.aload_n 0, 1) by decide +kernel) rfl rfl ?_
        obtain ⟨s10, w⟩ := w
        refine X_getI fl_X7_28 (show decode cX7_bringTrain 33 = .ok (.getfield 28, 3) by decide +kernel) s10 ?_
        refine X_bipush (v := (nI 8)) (show decode cX7_bringTrain 36 = .ok (.bipush 8, 2) by decide +kernel) (by decide) ?_
        refine X_icmp_ge (tgt := 60) (show decode cX7_bringTrain 38 = .ok (.if_icmp .ge 22, 3) by decide +kernel) (by decide) ⟨fun c11 => ?_, fun c11 => ?_⟩
        · have w := w.1 c11
          refine X_bipush (v := (-3)) (show decode cX7_bringTrain 60 = .ok (.bipush (-3), 2) by decide +kernel) (by decide) ?_
          exact X_iret ⟨(show decode cX7_bringTrain 62 = .ok (.ireturn, 1) by decide +kernel), .int, rfl, rfl⟩ ⟨_, rfl, w⟩
        · have w := w.2 c11
          refine X_aload_n (j := 0) (show decode cX7_bringTrain 41 = .ok (.aload_n 0, 1) by decide +kernel) rfl rfl ?_
          refine X_getR fl_X7_12 (show decode cX7_bringTrain 42 = .ok (.getfield 12, 3) by decide +kernel) s10 ?_
          obtain ⟨s12, w⟩ := w
          refine X_getI fl_X7_84 (show decode cX7_bringTrain 45 = .ok (.getfield 84, 3) by decide +kernel) s12 ?_
          refine X_aload_n (j := 0) (show decode cX7_bringTrain 48 = .ok (.aload_n 0, 1) by decide +kernel) rfl rfl ?_
          refine X_vI (rc' := 0) (rs' := 0) (as := []) mv_X7_90 (show decode cX7_bringTrain 49 = .ok (.invokevirtual 90, 3) by decide +kernel) (by decide) (Nat.le_of_ble_eq_true rfl) (Nat.le_of_ble_eq_true rfl) rfl rfl (Nat.le_of_ble_eq_true rfl) (rcvD s10 (by decide) rfl) (kX7_held w) (fun E h hk => hk.elim) (fun r14 h13 w => ?_)
          refine X_ior (show decode cX7_bringTrain 52 = .ok (.ior, 1) by decide +kernel) ?_
          refine X_iload_n (j := 1) (show decode cX7_bringTrain 53 = .ok (.iload_n 1, 1) by decide +kernel) rfl rfl ?_
          refine X_nI (rc' := 0) (rs' := 0) (as := [.int _, .int _]) msn_X7_69 (show decode cX7_bringTrain 54 = .ok (.invokestatic 69, 3) by decide +kernel) (by decide) (Nat.le_of_ble_eq_true rfl) (Nat.le_of_ble_eq_true rfl) rfl rfl (Nat.le_of_ble_eq_true rfl) (kX9_contains w) (fun r16 h15 w => ?_)
          refine X_if_eq (tgt := 63) (show decode cX7_bringTrain 57 = .ok (.ifCond .eq 6, 3) by decide +kernel) (by decide) ⟨fun c17 => ?_, fun c17 => ?_⟩
          · have w := w.1 c17
            refine X_aload_n (j := 0) (show decode cX7_bringTrain 63 = .ok (.aload_n 0, 1) by decide +kernel) rfl rfl ?_
            obtain ⟨s18, w⟩ := w
            refine X_getI fl_X7_35 (show decode cX7_bringTrain 64 = .ok (.getfield 35, 3) by decide +kernel) s18 ?_
            refine X_istore_n (ls' := [(0, .ref _), (1, .int _), (2, .int _), (3, .int _)]) (show decode cX7_bringTrain 67 = .ok (.istore_n 3, 1) by decide +kernel) rfl (by decide) rfl ?_
            refine X_aload_n (j := 0) (show decode cX7_bringTrain 68 = .ok (.aload_n 0, 1) by decide +kernel) rfl rfl ?_
            refine X_getR fl_X7_20 (show decode cX7_bringTrain 69 = .ok (.getfield 20, 3) by decide +kernel) s18 ?_
            refine X_aload_n (j := 0) (show decode cX7_bringTrain 72 = .ok (.aload_n 0, 1) by decide +kernel) rfl rfl ?_
            refine X_getI fl_X7_28 (show decode cX7_bringTrain 73 = .ok (.getfield 28, 3) by decide +kernel) s18 ?_
            obtain ⟨s19, w⟩ := w
            obtain ⟨s20, w⟩ := w
            refine X_aaldT (show decode cX7_bringTrain 76 = .ok (.aaload, 1) by decide +kernel) (isA_eq s19) s20 ?_
            refine X_iload_n (j := 3) (show decode cX7_bringTrain 77 = .ok (.iload_n 3, 1) by decide +kernel) rfl rfl ?_
            refine X_iload_n (j := 1) (show decode cX7_bringTrain 78 = .ok (.iload_n 1, 1) by decide +kernel) rfl rfl ?_
            refine X_iload_n (j := 2) (show decode cX7_bringTrain 79 = .ok (.iload_n 2, 1) by decide +kernel) rfl rfl ?_
            obtain ⟨s28, w⟩ := w
            refine X_vV (rc' := 0) (rs' := 0) (as := [.int _, .int _, .int _]) mv_X7_112 (show decode cX7_bringTrain 80 = .ok (.invokevirtual 112, 3) by decide +kernel) (by decide) (Nat.le_of_ble_eq_true rfl) (Nat.le_of_ble_eq_true rfl) rfl rfl (Nat.le_of_ble_eq_true rfl) (rcvD s28 (by decide) rfl) (kX8_begin w) (fun E h hk => hk.elim) (fun h21 w => ?_)
            refine X_aload_n (j := 0) (show decode cX7_bringTrain 83 = .ok (.aload_n 0, 1) by decide +kernel) rfl rfl ?_
            refine X_dup (show decode cX7_bringTrain 84 = .ok (.dup, 1) by decide +kernel) rfl ?_
            obtain ⟨s23, w⟩ := w
            refine X_getI fl_X7_28 (show decode cX7_bringTrain 85 = .ok (.getfield 28, 3) by decide +kernel) s23 ?_
            refine X_iconst (v := (nI 1)) (show decode cX7_bringTrain 88 = .ok (.iconst 1, 1) by decide +kernel) (by decide) ?_
            refine X_iadd (show decode cX7_bringTrain 89 = .ok (.iadd, 1) by decide +kernel) ?_
            refine X_putI fp_X7_28 (show decode cX7_bringTrain 90 = .ok (.putfield 28, 3) by decide +kernel) (fun z => nomatch z) s23 rfl rfl ?_
            have w := w _ rfl
            refine X_aload_n (j := 0) (show decode cX7_bringTrain 93 = .ok (.aload_n 0, 1) by decide +kernel) rfl rfl ?_
            refine X_dup (show decode cX7_bringTrain 94 = .ok (.dup, 1) by decide +kernel) rfl ?_
            refine X_getI fl_X7_35 (show decode cX7_bringTrain 95 = .ok (.getfield 35, 3) by decide +kernel) s23 ?_
            refine X_iconst (v := (nI 1)) (show decode cX7_bringTrain 98 = .ok (.iconst 1, 1) by decide +kernel) (by decide) ?_
            refine X_iadd (show decode cX7_bringTrain 99 = .ok (.iadd, 1) by decide +kernel) ?_
            refine X_putI fp_X7_35 (show decode cX7_bringTrain 100 = .ok (.putfield 35, 3) by decide +kernel) (fun z => nomatch z) s23 rfl rfl ?_
            have w := w _ rfl
            refine X_aload_n (j := 0) (show decode cX7_bringTrain 103 = .ok (.aload_n 0, 1) by decide +kernel) rfl rfl ?_
            refine X_iload_n (j := 3) (show decode cX7_bringTrain 104 = .ok (.iload_n 3, 1) by decide +kernel) rfl rfl ?_
            refine X_vV (rc' := 0) (rs' := 0) (as := [.int _]) mv_X7_116 (show decode cX7_bringTrain 105 = .ok (.invokevirtual 116, 3) by decide +kernel) (by decide) (Nat.le_of_ble_eq_true rfl) (Nat.le_of_ble_eq_true rfl) rfl rfl (Nat.le_of_ble_eq_true rfl) (rcvD s23 (by decide) rfl) (kX7_joinQueue w) (fun E h hk => hk.elim) (fun h26 w => ?_)
            refine X_iload_n (j := 3) (show decode cX7_bringTrain 108 = .ok (.iload_n 3, 1) by decide +kernel) rfl rfl ?_
            exact X_iret ⟨(show decode cX7_bringTrain 109 = .ok (.ireturn, 1) by decide +kernel), .int, rfl, rfl⟩ ⟨_, rfl, w⟩
          · have w := w.2 c17
            refine X_bipush (v := (-3)) (show decode cX7_bringTrain 60 = .ok (.bipush (-3), 2) by decide +kernel) (by decide) ?_
            exact X_iret ⟨(show decode cX7_bringTrain 62 = .ok (.ireturn, 1) by decide +kernel), .int, rfl, rfl⟩ ⟨_, rfl, w⟩
      · have w := w.2 c9
        refine X_bipush (v := (-2)) (show decode cX7_bringTrain 29 = .ok (.bipush (-2), 2) by decide +kernel) (by decide) ?_
        exact X_iret ⟨(show decode cX7_bringTrain 31 = .ok (.ireturn, 1) by decide +kernel), .int, rfl, rfl⟩ ⟨_, rfl, w⟩
    · have w := w.2 c8
      refine X_iconst (v := (-1)) (show decode cX7_bringTrain 22 = .ok (.iconst (-1), 1) by decide +kernel) (by decide) ?_
      exact X_iret ⟨(show decode cX7_bringTrain 23 = .ok (.ireturn, 1) by decide +kernel), .int, rfl, rfl⟩ ⟨_, rfl, w⟩
set_option maxRecDepth 100000 in
set_option maxHeartbeats 4000000 in
theorem kX9_addTrain {a0 : Nat} {a1 : Int32} {a2 : Int32} {h : AH} {K : Int32 → AH → Prop} {T : String → AH → Prop} (w : wX9_addTrain a0 a1 a2 h K T) : Cn mX9_addTrain (cwd mX9_addTrain) 10 1 6 [.ref a0, .int a1, .int a2] h (KI K) T := by
  refine Cn_of (by decide +kernel) rfl (Nat.le_of_ble_eq_true rfl) ?_
  show X mX9_addTrain 10 (KI K) T 1 6 0 [(0, .ref a0), (1, .int a1), (2, .int a2)] [] h
  unfold wX9_addTrain at w
  refine X_aload_n (j := 0) (show decode cX9_addTrain 0 = .ok (.aload_n 0, 1) by decide +kernel) rfl rfl ?_
  obtain ⟨s1, w⟩ := w
  refine X_getR fl_X9_25 (show decode cX9_addTrain 1 = .ok (.getfield 25, 3) by decide +kernel) s1 ?_
  refine X_aload_n (j := 0) (show decode cX9_addTrain 4 = .ok (.aload_n 0, 1) by decide +kernel) rfl rfl ?_
  refine X_getR fl_X9_12 (show decode cX9_addTrain 5 = .ok (.getfield 12, 3) by decide +kernel) s1 ?_
  obtain ⟨s11, w⟩ := w
  refine X_vV (rc' := 1) (rs' := 6) (as := [.ref _]) mv_X9_68 (show decode cX9_addTrain 8 = .ok (.invokevirtual 68, 3) by decide +kernel) (by decide) (Nat.le_of_ble_eq_true rfl) (Nat.le_of_ble_eq_true rfl) rfl rfl (Nat.le_of_ble_eq_true rfl) (rcvD s11 (by decide) rfl) (kX2_keep w) (fun E h hk => hk.elim) (fun h2 w => ?_)
  refine X_aload_n (j := 0) (show decode cX9_addTrain 11 = .ok (.aload_n 0, 1) by decide +kernel) rfl rfl ?_
  refine X_aload_n (j := 0) (show decode cX9_addTrain 12 = .ok (.aload_n 0, 1) by decide +kernel) rfl rfl ?_
  obtain ⟨s4, w⟩ := w
  refine X_getR fl_X9_12 (show decode cX9_addTrain 13 = .ok (.getfield 12, 3) by decide +kernel) s4 ?_
  refine X_iload_n (j := 1) (show decode cX9_addTrain 16 = .ok (.iload_n 1, 1) by decide +kernel) rfl rfl ?_
  refine X_iload_n (j := 2) (show decode cX9_addTrain 17 = .ok (.iload_n 2, 1) by decide +kernel) rfl rfl ?_
  obtain ⟨s10, w⟩ := w
  refine X_vI (rc' := 1) (rs' := 6) (as := [.int _, .int _]) mv_X9_102 (show decode cX9_addTrain 18 = .ok (.invokevirtual 102, 3) by decide +kernel) (by decide) (Nat.le_of_ble_eq_true rfl) (Nat.le_of_ble_eq_true rfl) rfl rfl (Nat.le_of_ble_eq_true rfl) (rcvD s10 (by decide) rfl) (kX7_bringTrain w) (fun E h hk => hk.elim) (fun r6 h5 w => ?_)
  obtain ⟨s9, w⟩ := w
  refine X_vI (rc' := 0) (rs' := 0) (as := [.int _]) mv_X9_82 (show decode cX9_addTrain 21 = .ok (.invokevirtual 82, 3) by decide +kernel) (by decide) (Nat.le_of_ble_eq_true rfl) (Nat.le_of_ble_eq_true rfl) rfl rfl (Nat.le_of_ble_eq_true rfl) (rcvD s9 (by decide) rfl) (kX9_settle w) (fun E h hk => XT_out hk (fun x hx => absurd hx List.not_mem_nil)) (fun r8 h7 w => ?_)
  exact X_iret ⟨(show decode cX9_addTrain 24 = .ok (.ireturn, 1) by decide +kernel), .int, rfl, rfl⟩ ⟨_, rfl, w⟩
