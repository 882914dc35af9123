set_option maxRecDepth 100000 in
set_option maxHeartbeats 4000000 in
theorem kX10_routeLength {a0 : Nat} {a1 : Int32} {a2 : Int32} {h : AH} {K : Int32 → AH → Prop} (w : wX10_routeLength a0 a1 a2 h K) : Cn mX10_routeLength (cwd mX10_routeLength) 5 0 0 [.ref a0, .int a1, .int a2] h (KI K) T0 := by
  refine Cn_of (by decide +kernel) rfl (Nat.le_of_ble_eq_true rfl) ?_
  show X mX10_routeLength 5 (KI K) T0 0 0 0 [(0, .ref a0), (1, .int a1), (2, .int a2)] [] h
  unfold wX10_routeLength at w
  refine X_aload_n (j := 0) (show decode cX10_routeLength 0 = .ok (.aload_n 0, 1) by decide +kernel) rfl rfl ?_
  refine X_iload_n (j := 1) (show decode cX10_routeLength 1 = .ok (.iload_n 1, 1) by decide +kernel) rfl rfl ?_
  refine X_iload_n (j := 2) (show decode cX10_routeLength 2 = .ok (.iload_n 2, 1) by decide +kernel) rfl rfl ?_
  obtain ⟨s11, w⟩ := w
  refine X_vI (rc' := 0) (rs' := 0) (as := [.int _, .int _]) mv_X10_202 (show decode cX10_routeLength 3 = .ok (.invokevirtual 202, 3) by decide +kernel) (by decide) (Nat.le_of_ble_eq_true rfl) (Nat.le_of_ble_eq_true rfl) rfl rfl (Nat.le_of_ble_eq_true rfl) (rcvD s11 (by decide) rfl) (kX10_arePlaces w) (fun E h hk => hk.elim) (fun r2 h1 w => ?_)
  refine X_if_ne (tgt := 11) (show decode cX10_routeLength 6 = .ok (.ifCond .ne 5, 3) by decide +kernel) (by decide) ⟨fun c3 => ?_, fun c3 => ?_⟩
  · have w := w.1 c3
    refine X_aload_n (j := 0) (show decode cX10_routeLength 11 = .ok (.aload_n 0, 1) by decide +kernel) rfl rfl ?_
    refine X_iload_n (j := 1) (show decode cX10_routeLength 12 = .ok (.iload_n 1, 1) by decide +kernel) rfl rfl ?_
    refine X_iload_n (j := 2) (show decode cX10_routeLength 13 = .ok (.iload_n 2, 1) by decide +kernel) rfl rfl ?_
    obtain ⟨s10, w⟩ := w
    refine X_vI (rc' := 0) (rs' := 0) (as := [.int _, .int _]) mv_X10_100 (show decode cX10_routeLength 14 = .ok (.invokevirtual 100, 3) by decide +kernel) (by decide) (Nat.le_of_ble_eq_true rfl) (Nat.le_of_ble_eq_true rfl) rfl rfl (Nat.le_of_ble_eq_true rfl) (rcvD s10 (by decide) rfl) (kX10_leads w) (fun E h hk => hk.elim) (fun r5 h4 w => ?_)
    refine X_istore_n (ls' := [(0, .ref _), (1, .int _), (2, .int _), (3, .int _)]) (show decode cX10_routeLength 17 = .ok (.istore_n 3, 1) by decide +kernel) rfl (by decide) rfl ?_
    refine X_iload_n (j := 3) (show decode cX10_routeLength 18 = .ok (.iload_n 3, 1) by decide +kernel) rfl rfl ?_
    refine X_iconst (v := (-1)) (show decode cX10_routeLength 19 = .ok (.iconst (-1), 1) by decide +kernel) (by decide) ?_
    refine X_icmp_ne (tgt := 31) (show decode cX10_routeLength 20 = .ok (.if_icmp .ne 11, 3) by decide +kernel) (by decide) ⟨fun c6 => ?_, fun c6 => ?_⟩
    · have w := w.1 c6
      refine X_iload_n (j := 3) (show decode cX10_routeLength 31 = .ok (.iload_n 3, 1) by decide +kernel) rfl rfl ?_
      exact X_iret ⟨(show decode cX10_routeLength 32 = .ok (.ireturn, 1) by decide +kernel), .int, rfl, rfl⟩ ⟨_, rfl, w⟩
    · have w := w.2 c6
      refine X_aload_n (j := 0) (show decode cX10_routeLength 23 = .ok (.aload_n 0, 1) by decide +kernel) rfl rfl ?_
      refine X_iconst (v := (nI 2)) (show decode cX10_routeLength 24 = .ok (.iconst 2, 1) by decide +kernel) (by decide) ?_
      obtain ⟨s9, w⟩ := w
      refine X_vI (rc' := 0) (rs' := 0) (as := [.int _]) mv_X10_69 (show decode cX10_routeLength 25 = .ok (.invokevirtual 69, 3) by decide +kernel) (by decide) (Nat.le_of_ble_eq_true rfl) (Nat.le_of_ble_eq_true rfl) rfl rfl (Nat.le_of_ble_eq_true rfl) (rcvD s9 (by decide) rfl) (kX10_fails w) (fun E h hk => hk.elim) (fun r8 h7 w => ?_)
      refine X_goto (tgt := 32) (show decode cX10_routeLength 28 = .ok (.goto 4, 3) by decide +kernel) (by decide) ?_
      exact X_iret ⟨(show decode cX10_routeLength 32 = .ok (.ireturn, 1) by decide +kernel), .int, rfl, rfl⟩ ⟨_, rfl, w⟩
  · have w := w.2 c3
    refine X_iconst (v := (nI 0)) (show decode cX10_routeLength 9 = .ok (.iconst 0, 1) by decide +kernel) (by decide) ?_
    exact X_iret ⟨(show decode cX10_routeLength 10 = .ok (.ireturn, 1) by decide +kernel), .int, rfl, rfl⟩ ⟨_, rfl, w⟩
set_option maxRecDepth 100000 in
set_option maxHeartbeats 4000000 in
theorem kX10_routeLengthByPaths {a0 : Nat} {a1 : Int32} {a2 : Int32} {h : AH} {K : Int32 → AH → Prop} (w : wX10_routeLengthByPaths a0 a1 a2 h K) : Cn mX10_routeLengthByPaths (cwd mX10_routeLengthByPaths) 6 0 0 [.ref a0, .int a1, .int a2] h (KI K) T0 := by
  refine Cn_of (by decide +kernel) rfl (Nat.le_of_ble_eq_true rfl) ?_
  show X mX10_routeLengthByPaths 6 (KI K) T0 0 0 0 [(0, .ref a0), (1, .int a1), (2, .int a2)] [] h
  unfold wX10_routeLengthByPaths at w
  refine X_aload_n (j := 0) (show decode cX10_routeLengthByPaths 0 = .ok (.aload_n 0, 1) by decide +kernel) rfl rfl ?_
  refine X_iload_n (j := 1) (show decode cX10_routeLengthByPaths 1 = .ok (.iload_n 1, 1) by decide +kernel) rfl rfl ?_
  refine X_iload_n (j := 2) (show decode cX10_routeLengthByPaths 2 = .ok (.iload_n 2, 1) by decide +kernel) rfl rfl ?_
  obtain ⟨s3, w⟩ := w
  refine X_vI (rc' := 0) (rs' := 0) (as := [.int _, .int _]) mv_X10_206 (show decode cX10_routeLengthByPaths 3 = .ok (.invokevirtual 206, 3) by decide +kernel) (by decide) (Nat.le_of_ble_eq_true rfl) (Nat.le_of_ble_eq_true rfl) rfl rfl (Nat.le_of_ble_eq_true rfl) (rcvD s3 (by decide) rfl) (kX10_routeLength w) (fun E h hk => hk.elim) (fun r2 h1 w => ?_)
  exact X_iret ⟨(show decode cX10_routeLengthByPaths 6 = .ok (.ireturn, 1) by decide +kernel), .int, rfl, rfl⟩ ⟨_, rfl, w⟩
set_option maxRecDepth 100000 in
set_option maxHeartbeats 4000000 in
theorem kX10_routeBlock_J39 {K : Int32 → AH → Prop}   (x0 : Nat) (h : AH) (w : wX10_routeBlock_J39 K  x0 h) : X mX10_routeBlock 5 (KI K) T0 0 0 39 [(0, .ref x0)] [] h := by
  unfold wX10_routeBlock_J39 at w
  refine X_aload_n (j := 0) (show decode cX10_routeBlock 39 = .ok (.aload_n 0, 1) by decide +kernel) rfl rfl ?_
  refine X_iconst (v := (nI 2)) (show decode cX10_routeBlock 40 = .ok (.iconst 2, 1) by decide +kernel) (by decide) ?_
  obtain ⟨s9, w⟩ := w
  refine X_vI (rc' := 0) (rs' := 0) (as := [.int _]) mv_X10_69 (show decode cX10_routeBlock 41 = .ok (.invokevirtual 69, 3) by decide +kernel) (by decide) (Nat.le_of_ble_eq_true rfl) (Nat.le_of_ble_eq_true rfl) rfl rfl (Nat.le_of_ble_eq_true rfl) (rcvD s9 (by decide) rfl) (kX10_fails w) (fun E h hk => hk.elim) (fun r8 h7 w => ?_)
  refine X_goto (tgt := 53) (show decode cX10_routeBlock 44 = .ok (.goto 9, 3) by decide +kernel) (by decide) ?_
  exact X_iret ⟨(show decode cX10_routeBlock 53 = .ok (.ireturn, 1) by decide +kernel), .int, rfl, rfl⟩ ⟨_, rfl, w⟩
set_option maxRecDepth 100000 in
set_option maxHeartbeats 4000000 in
theorem kX10_routeBlock {a0 : Nat} {a1 : Int32} {a2 : Int32} {a3 : Int32} {h : AH} {K : Int32 → AH → Prop} (w : wX10_routeBlock a0 a1 a2 a3 h K) : Cn mX10_routeBlock (cwd mX10_routeBlock) 5 0 0 [.ref a0, .int a1, .int a2, .int a3] h (KI K) T0 := by
  refine Cn_of (by decide +kernel) rfl (Nat.le_of_ble_eq_true rfl) ?_
  show X mX10_routeBlock 5 (KI K) T0 0 0 0 [(0, .ref a0), (1, .int a1), (2, .int a2), (3, .int a3)] [] h
  unfold wX10_routeBlock at w
  refine X_aload_n (j := 0) (show decode cX10_routeBlock 0 = .ok (.aload_n 0, 1) by decide +kernel) rfl rfl ?_
  refine X_iload_n (j := 1) (show decode cX10_routeBlock 1 = .ok (.iload_n 1, 1) by decide +kernel) rfl rfl ?_
  refine X_iload_n (j := 2) (show decode cX10_routeBlock 2 = .ok (.iload_n 2, 1) by decide +kernel) rfl rfl ?_
  obtain ⟨s18, w⟩ := w
  refine X_vI (rc' := 0) (rs' := 0) (as := [.int _, .int _]) mv_X10_202 (show decode cX10_routeBlock 3 = .ok (.invokevirtual 202, 3) by decide +kernel) (by decide) (Nat.le_of_ble_eq_true rfl) (Nat.le_of_ble_eq_true rfl) rfl rfl (Nat.le_of_ble_eq_true rfl) (rcvD s18 (by decide) rfl) (kX10_arePlaces w) (fun E h hk => hk.elim) (fun r2 h1 w => ?_)
  refine X_if_ne (tgt := 11) (show decode cX10_routeBlock 6 = .ok (.ifCond .ne 5, 3) by decide +kernel) (by decide) ⟨fun c3 => ?_, fun c3 => ?_⟩
  · have w := w.1 c3
    refine X_aload_n (j := 0) (show decode cX10_routeBlock 11 = .ok (.aload_n 0, 1) by decide +kernel) rfl rfl ?_
    refine X_iload_n (j := 1) (show decode cX10_routeBlock 12 = .ok (.iload_n 1, 1) by decide +kernel) rfl rfl ?_
    refine X_iload_n (j := 2) (show decode cX10_routeBlock 13 = .ok (.iload_n 2, 1) by decide +kernel) rfl rfl ?_
    obtain ⟨s17, w⟩ := w
    refine X_vI (rc' := 0) (rs' := 0) (as := [.int _, .int _]) mv_X10_100 (show decode cX10_routeBlock 14 = .ok (.invokevirtual 100, 3) by decide +kernel) (by decide) (Nat.le_of_ble_eq_true rfl) (Nat.le_of_ble_eq_true rfl) rfl rfl (Nat.le_of_ble_eq_true rfl) (rcvD s17 (by decide) rfl) (kX10_leads w) (fun E h hk => hk.elim) (fun r5 h4 w => ?_)
    refine X_istore (ls' := [(0, .ref _), (1, .int _), (2, .int _), (3, .int _), (4, .int _)]) (show decode cX10_routeBlock 17 = .ok (.istore 4, 2) by decide +kernel) (by decide) rfl ?_
    refine X_iload (j := 4) (show decode cX10_routeBlock 19 = .ok (.iload 4, 2) by decide +kernel) rfl ?_
    refine X_iconst (v := (-1)) (show decode cX10_routeBlock 21 = .ok (.iconst (-1), 1) by decide +kernel) (by decide) ?_
    refine X_icmp_eq (tgt := 39) (show decode cX10_routeBlock 22 = .ok (.if_icmp .eq 17, 3) by decide +kernel) (by decide) ⟨fun c6 => ?_, fun c6 => ?_⟩
    · have w := w.1 c6
      refine X_pick (ls' := [(0, .ref _)]) [0] rfl ?_
      exact kX10_routeBlock_J39  _ _ w
    · have w := w.2 c6
      refine X_iload_n (j := 3) (show decode cX10_routeBlock 25 = .ok (.iload_n 3, 1) by decide +kernel) rfl rfl ?_
      refine X_iconst (v := (nI 0)) (show decode cX10_routeBlock 26 = .ok (.iconst 0, 1) by decide +kernel) (by decide) ?_
      refine X_aload_n (j := 0) (show decode cX10_routeBlock 27 = .ok (.aload_n 0, 1) by decide +kernel) rfl rfl ?_
      obtain ⟨s10, w⟩ := w
      refine X_getI fl_X10_93 (show decode cX10_routeBlock 28 = .ok (.getfield 93, 3) by decide +kernel) s10 ?_
      refine X_iconst (v := (nI 1)) (show decode cX10_routeBlock 31 = .ok (.iconst 1, 1) by decide +kernel) (by decide) ?_
      refine X_isub (show decode cX10_routeBlock 32 = .ok (.isub, 1) by decide +kernel) ?_
      refine X_sI (rc' := 0) (rs' := 0) (as := [.int _, .int _, .int _]) ms_X10_72 (show decode cX10_routeBlock 33 = .ok (.invokestatic 72, 3) by decide +kernel) (by decide) (Nat.le_of_ble_eq_true rfl) (Nat.le_of_ble_eq_true rfl) rfl rfl (Nat.le_of_ble_eq_true rfl) (kX10_in w) (fun E h hk => hk.elim) (fun r12 h11 w => ?_)
      refine X_if_ne (tgt := 47) (show decode cX10_routeBlock 36 = .ok (.ifCond .ne 11, 3) by decide +kernel) (by decide) ⟨fun c13 => ?_, fun c13 => ?_⟩
      · have w := w.1 c13
        refine X_aload_n (j := 0) (show decode cX10_routeBlock 47 = .ok (.aload_n 0, 1) by decide +kernel) rfl rfl ?_
        obtain ⟨s14, w⟩ := w
        refine X_getR fl_X10_37 (show decode cX10_routeBlock 48 = .ok (.getfield 37, 3) by decide +kernel) s14 ?_
        refine X_iload_n (j := 3) (show decode cX10_routeBlock 51 = .ok (.iload_n 3, 1) by decide +kernel) rfl rfl ?_
        obtain ⟨s15, w⟩ := w
        obtain ⟨s16, w⟩ := w
        refine X_iald (show decode cX10_routeBlock 52 = .ok (.iaload, 1) by decide +kernel) (isA_eq s15) s16 ?_
        exact X_iret ⟨(show decode cX10_routeBlock 53 = .ok (.ireturn, 1) by decide +kernel), .int, rfl, rfl⟩ ⟨_, rfl, w⟩
      · have w := w.2 c13
        refine X_pick (ls' := [(0, .ref _)]) [0] rfl ?_
        exact kX10_routeBlock_J39  _ _ w
  · have w := w.2 c3
    refine X_iconst (v := (nI 0)) (show decode cX10_routeBlock 9 = .ok (.iconst 0, 1) by decide +kernel) (by decide) ?_
    exact X_iret ⟨(show decode cX10_routeBlock 10 = .ok (.ireturn, 1) by decide +kernel), .int, rfl, rfl⟩ ⟨_, rfl, w⟩
set_option maxRecDepth 100000 in
set_option maxHeartbeats 4000000 in
theorem kX10_paths {a0 : Nat} {a1 : Int32} {a2 : Int32} {h : AH} {K : Int32 → AH → Prop} (w : wX10_paths a0 a1 a2 h K) : Cn mX10_paths (cwd mX10_paths) 17 0 0 [.ref a0, .int a1, .int a2] h (KI K) T0 := by
  refine Cn_of (by decide +kernel) rfl (Nat.le_of_ble_eq_true rfl) ?_
  show X mX10_paths 17 (KI K) T0 0 0 0 [(0, .ref a0), (1, .int a1), (2, .int a2)] [] h
  unfold wX10_paths at w
  refine X_aload_n (j := 0) (show decode cX10_paths 0 = .ok (.aload_n 0, 1) by decide +kernel) rfl rfl ?_
  refine X_iload_n (j := 1) (show decode cX10_paths 1 = .ok (.iload_n 1, 1) by decide +kernel) rfl rfl ?_
  refine X_iload_n (j := 2) (show decode cX10_paths 2 = .ok (.iload_n 2, 1) by decide +kernel) rfl rfl ?_
  obtain ⟨s7, w⟩ := w
  refine X_vI (rc' := 0) (rs' := 0) (as := [.int _, .int _]) mv_X10_202 (show decode cX10_paths 3 = .ok (.invokevirtual 202, 3) by decide +kernel) (by decide) (Nat.le_of_ble_eq_true rfl) (Nat.le_of_ble_eq_true rfl) rfl rfl (Nat.le_of_ble_eq_true rfl) (rcvD s7 (by decide) rfl) (kX10_arePlaces w) (fun E h hk => hk.elim) (fun r2 h1 w => ?_)
  refine X_if_eq (tgt := 21) (show decode cX10_paths 6 = .ok (.ifCond .eq 15, 3) by decide +kernel) (by decide) ⟨fun c3 => ?_, fun c3 => ?_⟩
  · have w := w.1 c3
    refine X_iconst (v := (nI 0)) (show decode cX10_paths 21 = .ok (.iconst 0, 1) by decide +kernel) (by decide) ?_
    exact X_iret ⟨(show decode cX10_paths 22 = .ok (.ireturn, 1) by decide +kernel), .int, rfl, rfl⟩ ⟨_, rfl, w⟩
  · have w := w.2 c3
    refine X_aload_n (j := 0) (show decode cX10_paths 9 = .ok (.aload_n 0, 1) by decide +kernel) rfl rfl ?_
    refine X_iload_n (j := 1) (show decode cX10_paths 10 = .ok (.iload_n 1, 1) by decide +kernel) rfl rfl ?_
    refine X_iload_n (j := 2) (show decode cX10_paths 11 = .ok (.iload_n 2, 1) by decide +kernel) rfl rfl ?_
    refine X_iconst (v := (nI 1)) (show decode cX10_paths 12 = .ok (.iconst 1, 1) by decide +kernel) (by decide) ?_
    refine X_iload_n (j := 1) (show decode cX10_paths 13 = .ok (.iload_n 1, 1) by decide +kernel) rfl rfl ?_
    refine X_ishl (show decode cX10_paths 14 = .ok (.ishl, 1) by decide +kernel) ?_
    obtain ⟨s6, w⟩ := w
    refine X_vI (rc' := 0) (rs' := 0) (as := [.int _, .int _, .int _]) mv_X10_96 (show decode cX10_paths 15 = .ok (.invokevirtual 96, 3) by decide +kernel) (by decide) (Nat.le_of_ble_eq_true rfl) (Nat.le_of_ble_eq_true rfl) rfl rfl (Nat.le_of_ble_eq_true rfl) (rcvD s6 (by decide) rfl) (kX10_count 14 _ _ _ _ _ _ w) (fun E h hk => hk.elim) (fun r5 h4 w => ?_)
    refine X_goto (tgt := 22) (show decode cX10_paths 18 = .ok (.goto 4, 3) by decide +kernel) (by decide) ?_
    exact X_iret ⟨(show decode cX10_paths 22 = .ok (.ireturn, 1) by decide +kernel), .int, rfl, rfl⟩ ⟨_, rfl, w⟩
set_option maxRecDepth 100000 in
set_option maxHeartbeats 4000000 in
theorem kX10_trains {a0 : Nat} {h : AH} {K : Int32 → AH → Prop} (w : wX10_trains a0 h K) : Cn mX10_trains (cwd mX10_trains) 1 0 0 [.ref a0] h (KI K) T0 := by
  refine Cn_of (by decide +kernel) rfl (Nat.le_of_ble_eq_true rfl) ?_
  show X mX10_trains 1 (KI K) T0 0 0 0 [(0, .ref a0)] [] h
  unfold wX10_trains at w
  refine X_aload_n (j := 0) (show decode cX10_trains 0 = .ok (.aload_n 0, 1) by decide +kernel) rfl rfl ?_
  refine X_iconst (v := (nI 0)) (show decode cX10_trains 1 = .ok (.iconst 0, 1) by decide +kernel) (by decide) ?_
  obtain ⟨s1, w⟩ := w
  refine X_putI fp_X10_56 (show decode cX10_trains 2 = .ok (.putfield 56, 3) by decide +kernel) (fun z => nomatch z) s1 rfl rfl ?_
  have w := w _ rfl
  refine X_aload_n (j := 0) (show decode cX10_trains 5 = .ok (.aload_n 0, 1) by decide +kernel) rfl rfl ?_
  refine X_getR fl_X10_7 (show decode cX10_trains 6 = .ok (.getfield 7, 3) by decide +kernel) s1 ?_
  refine X_iconst (v := (nI 4)) (show decode cX10_trains 9 = .ok (.iconst 4, 1) by decide +kernel) (by decide) ?_
  obtain ⟨s3, w⟩ := w
  obtain ⟨s4, w⟩ := w
  refine X_iald (show decode cX10_trains 10 = .ok (.iaload, 1) by decide +kernel) (isA_eq s3) s4 ?_
  exact X_iret ⟨(show decode cX10_trains 11 = .ok (.ireturn, 1) by decide +kernel), .int, rfl, rfl⟩ ⟨_, rfl, w⟩
set_option maxRecDepth 100000 in
set_option maxHeartbeats 4000000 in
theorem kX10_isPresent {a0 : Nat} {a1 : Int32} {h : AH} {K : Int32 → AH → Prop} (w : wX10_isPresent a0 a1 h K) : Cn mX10_isPresent (cwd mX10_isPresent) 3 0 0 [.ref a0, .int a1] h (KI K) T0 := by
  refine Cn_of (by decide +kernel) rfl (Nat.le_of_ble_eq_true rfl) ?_
  show X mX10_isPresent 3 (KI K) T0 0 0 0 [(0, .ref a0), (1, .int a1)] [] h
  unfold wX10_isPresent at w
  refine X_aload_n (j := 0) (show decode cX10_isPresent 0 = .ok (.aload_n 0, 1) by decide +kernel) rfl rfl ?_
  refine X_iconst (v := (nI 0)) (show decode cX10_isPresent 1 = .ok (.iconst 0, 1) by decide +kernel) (by decide) ?_
  obtain ⟨s1, w⟩ := w
  refine X_putI fp_X10_56 (show decode cX10_isPresent 2 = .ok (.putfield 56, 3) by decide +kernel) (fun z => nomatch z) s1 rfl rfl ?_
  have w := w _ rfl
  refine X_aload_n (j := 0) (show decode cX10_isPresent 5 = .ok (.aload_n 0, 1) by decide +kernel) rfl rfl ?_
  refine X_iload_n (j := 1) (show decode cX10_isPresent 6 = .ok (.iload_n 1, 1) by decide +kernel) rfl rfl ?_
  refine X_vI (rc' := 0) (rs' := 0) (as := [.int _]) mv_X10_132 (show decode cX10_isPresent 7 = .ok (.invokevirtual 132, 3) by decide +kernel) (by decide) (Nat.le_of_ble_eq_true rfl) (Nat.le_of_ble_eq_true rfl) rfl rfl (Nat.le_of_ble_eq_true rfl) (rcvD s1 (by decide) rfl) (kX10_placeOf w) (fun E h hk => hk.elim) (fun r4 h3 w => ?_)
  refine X_iconst (v := (-1)) (show decode cX10_isPresent 10 = .ok (.iconst (-1), 1) by decide +kernel) (by decide) ?_
  refine X_icmp_eq (tgt := 18) (show decode cX10_isPresent 11 = .ok (.if_icmp .eq 7, 3) by decide +kernel) (by decide) ⟨fun c5 => ?_, fun c5 => ?_⟩
  · have w := w.1 c5
    refine X_iconst (v := (nI 0)) (show decode cX10_isPresent 18 = .ok (.iconst 0, 1) by decide +kernel) (by decide) ?_
    exact X_iret ⟨(show decode cX10_isPresent 19 = .ok (.ireturn, 1) by decide +kernel), .boolean, rfl, (by decide)⟩ ⟨_, rfl, w⟩
  · have w := w.2 c5
    refine X_iconst (v := (nI 1)) (show decode cX10_isPresent 14 = .ok (.iconst 1, 1) by decide +kernel) (by decide) ?_
    refine X_goto (tgt := 19) (show decode cX10_isPresent 15 = .ok (.goto 4, 3) by decide +kernel) (by decide) ?_
    exact X_iret ⟨(show decode cX10_isPresent 19 = .ok (.ireturn, 1) by decide +kernel), .boolean, rfl, (by decide)⟩ ⟨_, rfl, w⟩
set_option maxRecDepth 100000 in
set_option maxHeartbeats 4000000 in
theorem kX10_asked_J17 {K : Int32 → AH → Prop}   (x0 : Nat) (x2 : Int32) (x3 : Int32) (y0 : Nat) (y1 : Int32) (h : AH) (w : wX10_asked_J17 K  x0 x2 x3 y0 y1 h) : X mX10_asked 3 (KI K) T0 0 0 17 [(0, .ref x0), (2, .int x2), (3, .int x3)] [.int y1, .ref y0] h := by
  unfold wX10_asked_J17 at w
  obtain ⟨s4, w⟩ := w
  refine X_putI fp_X10_56 (show decode cX10_asked 17 = .ok (.putfield 56, 3) by decide +kernel) (fun z => nomatch z) s4 rfl rfl ?_
  have w := w _ rfl
  refine X_aload_n (j := 0) (show decode cX10_asked 20 = .ok (.aload_n 0, 1) by decide +kernel) rfl rfl ?_
  obtain ⟨s6, w⟩ := w
  refine X_getI fl_X10_56 (show decode cX10_asked 21 = .ok (.getfield 56, 3) by decide +kernel) s6 ?_
  refine X_if_le (tgt := 31) (show decode cX10_asked 24 = .ok (.ifCond .le 7, 3) by decide +kernel) (by decide) ⟨fun c7 => ?_, fun c7 => ?_⟩
  · have w := w.1 c7
    refine X_aload_n (j := 0) (show decode cX10_asked 31 = .ok (.aload_n 0, 1) by decide +kernel) rfl rfl ?_
    refine X_iload_n (j := 2) (show decode cX10_asked 32 = .ok (.iload_n 3, 1) by decide +kernel) rfl rfl ?_
    refine X_iload_n (j := 1) (show decode cX10_asked 33 = .ok (.iload_n 2, 1) by decide +kernel) rfl rfl ?_
    refine X_vI (rc' := 0) (rs' := 0) (as := [.int _, .int _]) mv_X10_76 (show decode cX10_asked 34 = .ok (.invokevirtual 76, 3) by decide +kernel) (by decide) (Nat.le_of_ble_eq_true rfl) (Nat.le_of_ble_eq_true rfl) rfl rfl (Nat.le_of_ble_eq_true rfl) (rcvD s6 (by decide) rfl) (kX10_train w) (fun E h hk => hk.elim) (fun r9 h8 w => ?_)
    exact X_iret ⟨(show decode cX10_asked 37 = .ok (.ireturn, 1) by decide +kernel), .int, rfl, rfl⟩ ⟨_, rfl, w⟩
  · have w := w.2 c7
    refine X_iconst (v := (nI 0)) (show decode cX10_asked 27 = .ok (.iconst 0, 1) by decide +kernel) (by decide) ?_
    refine X_goto (tgt := 37) (show decode cX10_asked 28 = .ok (.goto 9, 3) by decide +kernel) (by decide) ?_
    exact X_iret ⟨(show decode cX10_asked 37 = .ok (.ireturn, 1) by decide +kernel), .int, rfl, rfl⟩ ⟨_, rfl, w⟩
set_option maxRecDepth 100000 in
set_option maxHeartbeats 4000000 in
theorem kX10_asked {a0 : Nat} {a1 : Int32} {a2 : Int32} {h : AH} {K : Int32 → AH → Prop} (w : wX10_asked a0 a1 a2 h K) : Cn mX10_asked (cwd mX10_asked) 3 0 0 [.ref a0, .int a1, .int a2] h (KI K) T0 := by
  refine Cn_of (by decide +kernel) rfl (Nat.le_of_ble_eq_true rfl) ?_
  show X mX10_asked 3 (KI K) T0 0 0 0 [(0, .ref a0), (1, .int a1), (2, .int a2)] [] h
  unfold wX10_asked at w
  refine X_aload_n (j := 0) (show decode cX10_asked 0 = .ok (.aload_n 0, 1) by decide +kernel) rfl rfl ?_
  refine X_iload_n (j := 1) (show decode cX10_asked 1 = .ok (.iload_n 1, 1) by decide +kernel) rfl rfl ?_
  obtain ⟨s10, w⟩ := w
  refine X_vI (rc' := 0) (rs' := 0) (as := [.int _]) mv_X10_132 (show decode cX10_asked 2 = .ok (.invokevirtual 132, 3) by decide +kernel) (by decide) (Nat.le_of_ble_eq_true rfl) (Nat.le_of_ble_eq_true rfl) rfl rfl (Nat.le_of_ble_eq_true rfl) (rcvD s10 (by decide) rfl) (kX10_placeOf w) (fun E h hk => hk.elim) (fun r2 h1 w => ?_)
  refine X_istore_n (ls' := [(0, .ref _), (1, .int _), (2, .int _), (3, .int _)]) (show decode cX10_asked 5 = .ok (.istore_n 3, 1) by decide +kernel) rfl (by decide) rfl ?_
  refine X_aload_n (j := 0) (show decode cX10_asked 6 = .ok (.aload_n 0, 1) by decide +kernel) rfl rfl ?_
  refine X_iload_n (j := 3) (show decode cX10_asked 7 = .ok (.iload_n 3, 1) by decide +kernel) rfl rfl ?_
  refine X_iconst (v := (-1)) (show decode cX10_asked 8 = .ok (.iconst (-1), 1) by decide +kernel) (by decide) ?_
  refine X_icmp_ne (tgt := 16) (show decode cX10_asked 9 = .ok (.if_icmp .ne 7, 3) by decide +kernel) (by decide) ⟨fun c3 => ?_, fun c3 => ?_⟩
  · have w := w.1 c3
    refine X_iconst (v := (nI 0)) (show decode cX10_asked 16 = .ok (.iconst 0, 1) by decide +kernel) (by decide) ?_
    refine X_pick (ls' := [(0, .ref _), (2, .int _), (3, .int _)]) [0, 2, 3] rfl ?_
    exact kX10_asked_J17  _ _ _ _ _ _ w
  · have w := w.2 c3
    refine X_iconst (v := (nI 1)) (show decode cX10_asked 12 = .ok (.iconst 1, 1) by decide +kernel) (by decide) ?_
    refine X_goto (tgt := 17) (show decode cX10_asked 13 = .ok (.goto 4, 3) by decide +kernel) (by decide) ?_
    refine X_pick (ls' := [(0, .ref _), (2, .int _), (3, .int _)]) [0, 2, 3] rfl ?_
    exact kX10_asked_J17  _ _ _ _ _ _ w
set_option maxRecDepth 100000 in
set_option maxHeartbeats 4000000 in
theorem kX10_blockOf {a0 : Nat} {a1 : Int32} {h : AH} {K : Int32 → AH → Prop} (w : wX10_blockOf a0 a1 h K) : Cn mX10_blockOf (cwd mX10_blockOf) 4 0 0 [.ref a0, .int a1] h (KI K) T0 := by
  refine Cn_of (by decide +kernel) rfl (Nat.le_of_ble_eq_true rfl) ?_
  show X mX10_blockOf 4 (KI K) T0 0 0 0 [(0, .ref a0), (1, .int a1)] [] h
  unfold wX10_blockOf at w
  refine X_aload_n (j := 0) (show decode cX10_blockOf 0 = .ok (.aload_n 0, 1) by decide +kernel) rfl rfl ?_
  refine X_iload_n (j := 1) (show decode cX10_blockOf 1 = .ok (.iload_n 1, 1) by decide +kernel) rfl rfl ?_
  refine X_iconst (v := (nI 1)) (show decode cX10_blockOf 2 = .ok (.iconst 1, 1) by decide +kernel) (by decide) ?_
  obtain ⟨s3, w⟩ := w
  refine X_vI (rc' := 0) (rs' := 0) (as := [.int _, .int _]) mv_X10_209 (show decode cX10_blockOf 3 = .ok (.invokevirtual 209, 3) by decide +kernel) (by decide) (Nat.le_of_ble_eq_true rfl) (Nat.le_of_ble_eq_true rfl) rfl rfl (Nat.le_of_ble_eq_true rfl) (rcvD s3 (by decide) rfl) (kX10_asked w) (fun E h hk => hk.elim) (fun r2 h1 w => ?_)
  exact X_iret ⟨(show decode cX10_blockOf 6 = .ok (.ireturn, 1) by decide +kernel), .int, rfl, rfl⟩ ⟨_, rfl, w⟩
set_option maxRecDepth 100000 in
set_option maxHeartbeats 4000000 in
theorem kX10_destination {a0 : Nat} {a1 : Int32} {h : AH} {K : Int32 → AH → Prop} (w : wX10_destination a0 a1 h K) : Cn mX10_destination (cwd mX10_destination) 4 0 0 [.ref a0, .int a1] h (KI K) T0 := by
  refine Cn_of (by decide +kernel) rfl (Nat.le_of_ble_eq_true rfl) ?_
  show X mX10_destination 4 (KI K) T0 0 0 0 [(0, .ref a0), (1, .int a1)] [] h
  unfold wX10_destination at w
  refine X_aload_n (j := 0) (show decode cX10_destination 0 = .ok (.aload_n 0, 1) by decide +kernel) rfl rfl ?_
  refine X_iload_n (j := 1) (show decode cX10_destination 1 = .ok (.iload_n 1, 1) by decide +kernel) rfl rfl ?_
  refine X_iconst (v := (nI 2)) (show decode cX10_destination 2 = .ok (.iconst 2, 1) by decide +kernel) (by decide) ?_
  obtain ⟨s3, w⟩ := w
  refine X_vI (rc' := 0) (rs' := 0) (as := [.int _, .int _]) mv_X10_209 (show decode cX10_destination 3 = .ok (.invokevirtual 209, 3) by decide +kernel) (by decide) (Nat.le_of_ble_eq_true rfl) (Nat.le_of_ble_eq_true rfl) rfl rfl (Nat.le_of_ble_eq_true rfl) (rcvD s3 (by decide) rfl) (kX10_asked w) (fun E h hk => hk.elim) (fun r2 h1 w => ?_)
  exact X_iret ⟨(show decode cX10_destination 6 = .ok (.ireturn, 1) by decide +kernel), .int, rfl, rfl⟩ ⟨_, rfl, w⟩
set_option maxRecDepth 100000 in
set_option maxHeartbeats 4000000 in
theorem kX10_hasRoute {a0 : Nat} {a1 : Int32} {h : AH} {K : Int32 → AH → Prop} (w : wX10_hasRoute a0 a1 h K) : Cn mX10_hasRoute (cwd mX10_hasRoute) 4 0 0 [.ref a0, .int a1] h (KI K) T0 := by
  refine Cn_of (by decide +kernel) rfl (Nat.le_of_ble_eq_true rfl) ?_
  show X mX10_hasRoute 4 (KI K) T0 0 0 0 [(0, .ref a0), (1, .int a1)] [] h
  unfold wX10_hasRoute at w
  refine X_aload_n (j := 0) (show decode cX10_hasRoute 0 = .ok (.aload_n 0, 1) by decide +kernel) rfl rfl ?_
  refine X_iload_n (j := 1) (show decode cX10_hasRoute 1 = .ok (.iload_n 1, 1) by decide +kernel) rfl rfl ?_
  refine X_iconst (v := (nI 3)) (show decode cX10_hasRoute 2 = .ok (.iconst 3, 1) by decide +kernel) (by decide) ?_
  obtain ⟨s4, w⟩ := w
  refine X_vI (rc' := 0) (rs' := 0) (as := [.int _, .int _]) mv_X10_209 (show decode cX10_hasRoute 3 = .ok (.invokevirtual 209, 3) by decide +kernel) (by decide) (Nat.le_of_ble_eq_true rfl) (Nat.le_of_ble_eq_true rfl) rfl rfl (Nat.le_of_ble_eq_true rfl) (rcvD s4 (by decide) rfl) (kX10_asked w) (fun E h hk => hk.elim) (fun r2 h1 w => ?_)
  refine X_iconst (v := (nI 1)) (show decode cX10_hasRoute 6 = .ok (.iconst 1, 1) by decide +kernel) (by decide) ?_
  refine X_icmp_ne (tgt := 14) (show decode cX10_hasRoute 7 = .ok (.if_icmp .ne 7, 3) by decide +kernel) (by decide) ⟨fun c3 => ?_, fun c3 => ?_⟩
  · have w := w.1 c3
    refine X_iconst (v := (nI 0)) (show decode cX10_hasRoute 14 = .ok (.iconst 0, 1) by decide +kernel) (by decide) ?_
    exact X_iret ⟨(show decode cX10_hasRoute 15 = .ok (.ireturn, 1) by decide +kernel), .boolean, rfl, (by decide)⟩ ⟨_, rfl, w⟩
  · have w := w.2 c3
    refine X_iconst (v := (nI 1)) (show decode cX10_hasRoute 10 = .ok (.iconst 1, 1) by decide +kernel) (by decide) ?_
    refine X_goto (tgt := 15) (show decode cX10_hasRoute 11 = .ok (.goto 4, 3) by decide +kernel) (by decide) ?_
    exact X_iret ⟨(show decode cX10_hasRoute 15 = .ok (.ireturn, 1) by decide +kernel), .boolean, rfl, (by decide)⟩ ⟨_, rfl, w⟩
set_option maxRecDepth 100000 in
set_option maxHeartbeats 4000000 in
theorem kX10_isClear_J17 {K : Int32 → AH → Prop}   (x0 : Nat) (x2 : Int32) (y0 : Nat) (y1 : Int32) (h : AH) (w : wX10_isClear_J17 K  x0 x2 y0 y1 h) : X mX10_isClear 7 (KI K) T0 0 0 17 [(0, .ref x0), (2, .int x2)] [.int y1, .ref y0] h := by
  unfold wX10_isClear_J17 at w
  obtain ⟨s4, w⟩ := w
  refine X_putI fp_X10_56 (show decode cX10_isClear 17 = .ok (.putfield 56, 3) by decide +kernel) (fun z => nomatch z) s4 rfl rfl ?_
  have w := w _ rfl
  refine X_aload_n (j := 0) (show decode cX10_isClear 20 = .ok (.aload_n 0, 1) by decide +kernel) rfl rfl ?_
  obtain ⟨s6, w⟩ := w
  refine X_getI fl_X10_56 (show decode cX10_isClear 21 = .ok (.getfield 56, 3) by decide +kernel) s6 ?_
  refine X_if_ne (tgt := 39) (show decode cX10_isClear 24 = .ok (.ifCond .ne 15, 3) by decide +kernel) (by decide) ⟨fun c7 => ?_, fun c7 => ?_⟩
  · have w := w.1 c7
    refine X_iconst (v := (nI 0)) (show decode cX10_isClear 39 = .ok (.iconst 0, 1) by decide +kernel) (by decide) ?_
    exact X_iret ⟨(show decode cX10_isClear 40 = .ok (.ireturn, 1) by decide +kernel), .boolean, rfl, (by decide)⟩ ⟨_, rfl, w⟩
  · have w := w.2 c7
    refine X_aload_n (j := 0) (show decode cX10_isClear 27 = .ok (.aload_n 0, 1) by decide +kernel) rfl rfl ?_
    refine X_iload_n (j := 1) (show decode cX10_isClear 28 = .ok (.iload_n 2, 1) by decide +kernel) rfl rfl ?_
    refine X_vI (rc' := 0) (rs' := 0) (as := [.int _]) mv_X10_135 (show decode cX10_isClear 29 = .ok (.invokevirtual 135, 3) by decide +kernel) (by decide) (Nat.le_of_ble_eq_true rfl) (Nat.le_of_ble_eq_true rfl) rfl rfl (Nat.le_of_ble_eq_true rfl) (rcvD s6 (by decide) rfl) (kX10_isFree w) (fun E h hk => hk.elim) (fun r9 h8 w => ?_)
    refine X_if_eq (tgt := 39) (show decode cX10_isClear 32 = .ok (.ifCond .eq 7, 3) by decide +kernel) (by decide) ⟨fun c10 => ?_, fun c10 => ?_⟩
    · have w := w.1 c10
      refine X_iconst (v := (nI 0)) (show decode cX10_isClear 39 = .ok (.iconst 0, 1) by decide +kernel) (by decide) ?_
      exact X_iret ⟨(show decode cX10_isClear 40 = .ok (.ireturn, 1) by decide +kernel), .boolean, rfl, (by decide)⟩ ⟨_, rfl, w⟩
    · have w := w.2 c10
      refine X_iconst (v := (nI 1)) (show decode cX10_isClear 35 = .ok (.iconst 1, 1) by decide +kernel) (by decide) ?_
      refine X_goto (tgt := 40) (show decode cX10_isClear 36 = .ok (.goto 4, 3) by decide +kernel) (by decide) ?_
      exact X_iret ⟨(show decode cX10_isClear 40 = .ok (.ireturn, 1) by decide +kernel), .boolean, rfl, (by decide)⟩ ⟨_, rfl, w⟩
set_option maxRecDepth 100000 in
set_option maxHeartbeats 4000000 in
theorem kX10_isClear {a0 : Nat} {a1 : Int32} {h : AH} {K : Int32 → AH → Prop} (w : wX10_isClear a0 a1 h K) : Cn mX10_isClear (cwd mX10_isClear) 7 0 0 [.ref a0, .int a1] h (KI K) T0 := by
  refine Cn_of (by decide +kernel) rfl (Nat.le_of_ble_eq_true rfl) ?_
  show X mX10_isClear 7 (KI K) T0 0 0 0 [(0, .ref a0), (1, .int a1)] [] h
  unfold wX10_isClear at w
  refine X_aload_n (j := 0) (show decode cX10_isClear 0 = .ok (.aload_n 0, 1) by decide +kernel) rfl rfl ?_
  refine X_iload_n (j := 1) (show decode cX10_isClear 1 = .ok (.iload_n 1, 1) by decide +kernel) rfl rfl ?_
  obtain ⟨s11, w⟩ := w
  refine X_vI (rc' := 0) (rs' := 0) (as := [.int _]) mv_X10_132 (show decode cX10_isClear 2 = .ok (.invokevirtual 132, 3) by decide +kernel) (by decide) (Nat.le_of_ble_eq_true rfl) (Nat.le_of_ble_eq_true rfl) rfl rfl (Nat.le_of_ble_eq_true rfl) (rcvD s11 (by decide) rfl) (kX10_placeOf w) (fun E h hk => hk.elim) (fun r2 h1 w => ?_)
  refine X_istore_n (ls' := [(0, .ref _), (1, .int _), (2, .int _)]) (show decode cX10_isClear 5 = .ok (.istore_n 2, 1) by decide +kernel) rfl (by decide) rfl ?_
  refine X_aload_n (j := 0) (show decode cX10_isClear 6 = .ok (.aload_n 0, 1) by decide +kernel) rfl rfl ?_
  refine X_iload_n (j := 2) (show decode cX10_isClear 7 = .ok (.iload_n 2, 1) by decide +kernel) rfl rfl ?_
  refine X_iconst (v := (-1)) (show decode cX10_isClear 8 = .ok (.iconst (-1), 1) by decide +kernel) (by decide) ?_
  refine X_icmp_ne (tgt := 16) (show decode cX10_isClear 9 = .ok (.if_icmp .ne 7, 3) by decide +kernel) (by decide) ⟨fun c3 => ?_, fun c3 => ?_⟩
  · have w := w.1 c3
    refine X_iconst (v := (nI 0)) (show decode cX10_isClear 16 = .ok (.iconst 0, 1) by decide +kernel) (by decide) ?_
    refine X_pick (ls' := [(0, .ref _), (2, .int _)]) [0, 2] rfl ?_
    exact kX10_isClear_J17  _ _ _ _ _ w
  · have w := w.2 c3
    refine X_iconst (v := (nI 1)) (show decode cX10_isClear 12 = .ok (.iconst 1, 1) by decide +kernel) (by decide) ?_
    refine X_goto (tgt := 17) (show decode cX10_isClear 13 = .ok (.goto 4, 3) by decide +kernel) (by decide) ?_
    refine X_pick (ls' := [(0, .ref _), (2, .int _)]) [0, 2] rfl ?_
    exact kX10_isClear_J17  _ _ _ _ _ w
set_option maxRecDepth 100000 in
set_option maxHeartbeats 4000000 in
theorem kX10_isRunning_J26 {K : Int32 → AH → Prop}   (x0 : Nat) (y0 : Nat) (y1 : Int32) (h : AH) (w : wX10_isRunning_J26 K  x0 y0 y1 h) : X mX10_isRunning 3 (KI K) T0 0 0 26 [(0, .ref x0)] [.int y1, .ref y0] h := by
  unfold wX10_isRunning_J26 at w
  obtain ⟨s4, w⟩ := w
  refine X_putI fp_X10_56 (show decode cX10_isRunning 26 = .ok (.putfield 56, 3) by decide +kernel) (fun z => nomatch z) s4 rfl rfl ?_
  have w := w _ rfl
  refine X_aload_n (j := 0) (show decode cX10_isRunning 29 = .ok (.aload_n 0, 1) by decide +kernel) rfl rfl ?_
  obtain ⟨s6, w⟩ := w
  refine X_getI fl_X10_56 (show decode cX10_isRunning 30 = .ok (.getfield 56, 3) by decide +kernel) s6 ?_
  refine X_if_ne (tgt := 40) (show decode cX10_isRunning 33 = .ok (.ifCond .ne 7, 3) by decide +kernel) (by decide) ⟨fun c7 => ?_, fun c7 => ?_⟩
  · have w := w.1 c7
    refine X_iconst (v := (nI 0)) (show decode cX10_isRunning 40 = .ok (.iconst 0, 1) by decide +kernel) (by decide) ?_
    exact X_iret ⟨(show decode cX10_isRunning 41 = .ok (.ireturn, 1) by decide +kernel), .boolean, rfl, (by decide)⟩ ⟨_, rfl, w⟩
  · have w := w.2 c7
    refine X_iconst (v := (nI 1)) (show decode cX10_isRunning 36 = .ok (.iconst 1, 1) by decide +kernel) (by decide) ?_
    refine X_goto (tgt := 41) (show decode cX10_isRunning 37 = .ok (.goto 4, 3) by decide +kernel) (by decide) ?_
    exact X_iret ⟨(show decode cX10_isRunning 41 = .ok (.ireturn, 1) by decide +kernel), .boolean, rfl, (by decide)⟩ ⟨_, rfl, w⟩
set_option maxRecDepth 100000 in
set_option maxHeartbeats 4000000 in
theorem kX10_isRunning_J21 {K : Int32 → AH → Prop}   (x0 : Nat) (y0 : Nat) (h : AH) (w : wX10_isRunning_J21 K  x0 y0 h) : X mX10_isRunning 3 (KI K) T0 0 0 21 [(0, .ref x0)] [.ref y0] h := by
  unfold wX10_isRunning_J21 at w
  refine X_iconst (v := (nI 1)) (show decode cX10_isRunning 21 = .ok (.iconst 1, 1) by decide +kernel) (by decide) ?_
  refine X_goto (tgt := 26) (show decode cX10_isRunning 22 = .ok (.goto 4, 3) by decide +kernel) (by decide) ?_
  exact kX10_isRunning_J26  _ _ _ _ w
set_option maxRecDepth 100000 in
set_option maxHeartbeats 4000000 in
theorem kX10_isRunning {a0 : Nat} {a1 : Int32} {h : AH} {K : Int32 → AH → Prop} (w : wX10_isRunning a0 a1 h K) : Cn mX10_isRunning (cwd mX10_isRunning) 3 0 0 [.ref a0, .int a1] h (KI K) T0 := by
  refine Cn_of (by decide +kernel) rfl (Nat.le_of_ble_eq_true rfl) ?_
  show X mX10_isRunning 3 (KI K) T0 0 0 0 [(0, .ref a0), (1, .int a1)] [] h
  unfold wX10_isRunning at w
  refine X_aload_n (j := 0) (show decode cX10_isRunning 0 = .ok (.aload_n 0, 1) by decide +kernel) rfl rfl ?_
  refine X_iload_n (j := 1) (show decode cX10_isRunning 1 = .ok (.iload_n 1, 1) by decide +kernel) rfl rfl ?_
  obtain ⟨s12, w⟩ := w
  refine X_vI (rc' := 0) (rs' := 0) (as := [.int _]) mv_X10_132 (show decode cX10_isRunning 2 = .ok (.invokevirtual 132, 3) by decide +kernel) (by decide) (Nat.le_of_ble_eq_true rfl) (Nat.le_of_ble_eq_true rfl) rfl rfl (Nat.le_of_ble_eq_true rfl) (rcvD s12 (by decide) rfl) (kX10_placeOf w) (fun E h hk => hk.elim) (fun r2 h1 w => ?_)
  refine X_istore_n (ls' := [(0, .ref _), (1, .int _), (2, .int _)]) (show decode cX10_isRunning 5 = .ok (.istore_n 2, 1) by decide +kernel) rfl (by decide) rfl ?_
  refine X_aload_n (j := 0) (show decode cX10_isRunning 6 = .ok (.aload_n 0, 1) by decide +kernel) rfl rfl ?_
  refine X_iload_n (j := 2) (show decode cX10_isRunning 7 = .ok (.iload_n 2, 1) by decide +kernel) rfl rfl ?_
  refine X_iconst (v := (-1)) (show decode cX10_isRunning 8 = .ok (.iconst (-1), 1) by decide +kernel) (by decide) ?_
  refine X_icmp_eq (tgt := 21) (show decode cX10_isRunning 9 = .ok (.if_icmp .eq 12, 3) by decide +kernel) (by decide) ⟨fun c3 => ?_, fun c3 => ?_⟩
  · have w := w.1 c3
    refine X_pick (ls' := [(0, .ref _)]) [0] rfl ?_
    exact kX10_isRunning_J21  _ _ _ w
  · have w := w.2 c3
    refine X_aload_n (j := 0) (show decode cX10_isRunning 12 = .ok (.aload_n 0, 1) by decide +kernel) rfl rfl ?_
    refine X_iload_n (j := 2) (show decode cX10_isRunning 13 = .ok (.iload_n 2, 1) by decide +kernel) rfl rfl ?_
    refine X_iconst (v := (nI 3)) (show decode cX10_isRunning 14 = .ok (.iconst 3, 1) by decide +kernel) (by decide) ?_
    obtain ⟨s11, w⟩ := w
    refine X_vI (rc' := 0) (rs' := 0) (as := [.int _, .int _]) mv_X10_76 (show decode cX10_isRunning 15 = .ok (.invokevirtual 76, 3) by decide +kernel) (by decide) (Nat.le_of_ble_eq_true rfl) (Nat.le_of_ble_eq_true rfl) rfl rfl (Nat.le_of_ble_eq_true rfl) (rcvD s11 (by decide) rfl) (kX10_train w) (fun E h hk => hk.elim) (fun r9 h8 w => ?_)
    refine X_if_ne (tgt := 25) (show decode cX10_isRunning 18 = .ok (.ifCond .ne 7, 3) by decide +kernel) (by decide) ⟨fun c10 => ?_, fun c10 => ?_⟩
    · have w := w.1 c10
      refine X_iconst (v := (nI 0)) (show decode cX10_isRunning 25 = .ok (.iconst 0, 1) by decide +kernel) (by decide) ?_
      refine X_pick (ls' := [(0, .ref _)]) [0] rfl ?_
      exact kX10_isRunning_J26  _ _ _ _ w
    · have w := w.2 c10
      refine X_pick (ls' := [(0, .ref _)]) [0] rfl ?_
      exact kX10_isRunning_J21  _ _ _ w
set_option maxRecDepth 100000 in
set_option maxHeartbeats 4000000 in
theorem kX10_minutesUntilNext {a0 : Nat} {a1 : Int32} {h : AH} {K : Int32 → AH → Prop} (w : wX10_minutesUntilNext a0 a1 h K) : Cn mX10_minutesUntilNext (cwd mX10_minutesUntilNext) 4 0 0 [.ref a0, .int a1] h (KI K) T0 := by
  refine Cn_of (by decide +kernel) rfl (Nat.le_of_ble_eq_true rfl) ?_
  show X mX10_minutesUntilNext 4 (KI K) T0 0 0 0 [(0, .ref a0), (1, .int a1)] [] h
  unfold wX10_minutesUntilNext at w
  refine X_aload_n (j := 0) (show decode cX10_minutesUntilNext 0 = .ok (.aload_n 0, 1) by decide +kernel) rfl rfl ?_
  refine X_iload_n (j := 1) (show decode cX10_minutesUntilNext 1 = .ok (.iload_n 1, 1) by decide +kernel) rfl rfl ?_
  obtain ⟨s13, w⟩ := w
  refine X_vI (rc' := 0) (rs' := 0) (as := [.int _]) mv_X10_212 (show decode cX10_minutesUntilNext 2 = .ok (.invokevirtual 212, 3) by decide +kernel) (by decide) (Nat.le_of_ble_eq_true rfl) (Nat.le_of_ble_eq_true rfl) rfl rfl (Nat.le_of_ble_eq_true rfl) (rcvD s13 (by decide) rfl) (kX10_isRunning w) (fun E h hk => hk.elim) (fun r2 h1 w => ?_)
  refine X_if_eq (tgt := 29) (show decode cX10_minutesUntilNext 5 = .ok (.ifCond .eq 24, 3) by decide +kernel) (by decide) ⟨fun c3 => ?_, fun c3 => ?_⟩
  · have w := w.1 c3
    refine X_iconst (v := (nI 0)) (show decode cX10_minutesUntilNext 29 = .ok (.iconst 0, 1) by decide +kernel) (by decide) ?_
    exact X_iret ⟨(show decode cX10_minutesUntilNext 30 = .ok (.ireturn, 1) by decide +kernel), .int, rfl, rfl⟩ ⟨_, rfl, w⟩
  · have w := w.2 c3
    refine X_aload_n (j := 0) (show decode cX10_minutesUntilNext 8 = .ok (.aload_n 0, 1) by decide +kernel) rfl rfl ?_
    refine X_aload_n (j := 0) (show decode cX10_minutesUntilNext 9 = .ok (.aload_n 0, 1) by decide +kernel) rfl rfl ?_
    refine X_iload_n (j := 1) (show decode cX10_minutesUntilNext 10 = .ok (.iload_n 1, 1) by decide +kernel) rfl rfl ?_
    obtain ⟨s12, w⟩ := w
    refine X_vI (rc' := 0) (rs' := 0) (as := [.int _]) mv_X10_132 (show decode cX10_minutesUntilNext 11 = .ok (.invokevirtual 132, 3) by decide +kernel) (by decide) (Nat.le_of_ble_eq_true rfl) (Nat.le_of_ble_eq_true rfl) rfl rfl (Nat.le_of_ble_eq_true rfl) (rcvD s12 (by decide) rfl) (kX10_placeOf w) (fun E h hk => hk.elim) (fun r5 h4 w => ?_)
    refine X_iconst (v := (nI 4)) (show decode cX10_minutesUntilNext 14 = .ok (.iconst 4, 1) by decide +kernel) (by decide) ?_
    obtain ⟨s11, w⟩ := w
    refine X_vI (rc' := 0) (rs' := 0) (as := [.int _, .int _]) mv_X10_76 (show decode cX10_minutesUntilNext 15 = .ok (.invokevirtual 76, 3) by decide +kernel) (by decide) (Nat.le_of_ble_eq_true rfl) (Nat.le_of_ble_eq_true rfl) rfl rfl (Nat.le_of_ble_eq_true rfl) (rcvD s11 (by decide) rfl) (kX10_train w) (fun E h hk => hk.elim) (fun r7 h6 w => ?_)
    refine X_aload_n (j := 0) (show decode cX10_minutesUntilNext 18 = .ok (.aload_n 0, 1) by decide +kernel) rfl rfl ?_
    obtain ⟨s8, w⟩ := w
    refine X_getR fl_X10_7 (show decode cX10_minutesUntilNext 19 = .ok (.getfield 7, 3) by decide +kernel) s8 ?_
    refine X_bipush (v := (nI 6)) (show decode cX10_minutesUntilNext 22 = .ok (.bipush 6, 2) by decide +kernel) (by decide) ?_
    obtain ⟨s9, w⟩ := w
    obtain ⟨s10, w⟩ := w
    refine X_iald (show decode cX10_minutesUntilNext 24 = .ok (.iaload, 1) by decide +kernel) (isA_eq s9) s10 ?_
    refine X_isub (show decode cX10_minutesUntilNext 25 = .ok (.isub, 1) by decide +kernel) ?_
    refine X_goto (tgt := 30) (show decode cX10_minutesUntilNext 26 = .ok (.goto 4, 3) by decide +kernel) (by decide) ?_
    exact X_iret ⟨(show decode cX10_minutesUntilNext 30 = .ok (.ireturn, 1) by decide +kernel), .int, rfl, rfl⟩ ⟨_, rfl, w⟩
set_option maxRecDepth 100000 in
set_option maxHeartbeats 4000000 in
theorem kX10_minutesUntilArrival_L34 {K : Int32 → AH → Prop}    : ∀ (n : Nat) (x0 : Nat) (x2 : Int32) (x3 : Int32) (x4 : Int32) (h : AH), wX10_minutesUntilArrival_L34 K   n x0 x2 x3 x4 h → X mX10_minutesUntilArrival 4 (KI K) T0 0 0 34 [(0, .ref x0), (2, .int x2), (3, .int x3), (4, .int x4)] [] h := by
  intro n
  induction n with
  | zero => intro _ _ _ _ _ w; exact w.elim
  | succ n ih =>
    intro x0 x2 x3 x4 h w
    rw [wX10_minutesUntilArrival_L34] at w
    refine X_iload (j := 3) (show decode cX10_minutesUntilArrival 34 = .ok (.iload 4, 2) by decide +kernel) rfl ?_
    refine X_aload_n (j := 0) (show decode cX10_minutesUntilArrival 36 = .ok (.aload_n 0, 1) by decide +kernel) rfl rfl ?_
    refine X_iload_n (j := 1) (show decode cX10_minutesUntilArrival 37 = .ok (.iload_n 2, 1) by decide +kernel) rfl rfl ?_
    refine X_bipush (v := (nI 6)) (show decode cX10_minutesUntilArrival 38 = .ok (.bipush 6, 2) by decide +kernel) (by decide) ?_
    obtain ⟨s22, w⟩ := w
    refine X_vI (rc' := 0) (rs' := 0) (as := [.int _, .int _]) mv_X10_76 (show decode cX10_minutesUntilArrival 40 = .ok (.invokevirtual 76, 3) by decide +kernel) (by decide) (Nat.le_of_ble_eq_true rfl) (Nat.le_of_ble_eq_true rfl) rfl rfl (Nat.le_of_ble_eq_true rfl) (rcvD s22 (by decide) rfl) (kX10_train w) (fun E h hk => hk.elim) (fun r14 h13 w => ?_)
    refine X_icmp_ge (tgt := 70) (show decode cX10_minutesUntilArrival 43 = .ok (.if_icmp .ge 27, 3) by decide +kernel) (by decide) ⟨fun c15 => ?_, fun c15 => ?_⟩
    · have w := w.1 c15
      refine X_iload_n (j := 2) (show decode cX10_minutesUntilArrival 70 = .ok (.iload_n 3, 1) by decide +kernel) rfl rfl ?_
      exact X_iret ⟨(show decode cX10_minutesUntilArrival 71 = .ok (.ireturn, 1) by decide +kernel), .int, rfl, rfl⟩ ⟨_, rfl, w⟩
    · have w := w.2 c15
      refine X_iload_n (j := 2) (show decode cX10_minutesUntilArrival 46 = .ok (.iload_n 3, 1) by decide +kernel) rfl rfl ?_
      refine X_aload_n (j := 0) (show decode cX10_minutesUntilArrival 47 = .ok (.aload_n 0, 1) by decide +kernel) rfl rfl ?_
      refine X_aload_n (j := 0) (show decode cX10_minutesUntilArrival 48 = .ok (.aload_n 0, 1) by decide +kernel) rfl rfl ?_
      refine X_iload_n (j := 1) (show decode cX10_minutesUntilArrival 49 = .ok (.iload_n 2, 1) by decide +kernel) rfl rfl ?_
      refine X_bipush (v := (nI 7)) (show decode cX10_minutesUntilArrival 50 = .ok (.bipush 7, 2) by decide +kernel) (by decide) ?_
      refine X_iload (j := 3) (show decode cX10_minutesUntilArrival 52 = .ok (.iload 4, 2) by decide +kernel) rfl ?_
      refine X_iadd (show decode cX10_minutesUntilArrival 54 = .ok (.iadd, 1) by decide +kernel) ?_
      obtain ⟨s21, w⟩ := w
      refine X_vI (rc' := 0) (rs' := 0) (as := [.int _, .int _]) mv_X10_76 (show decode cX10_minutesUntilArrival 55 = .ok (.invokevirtual 76, 3) by decide +kernel) (by decide) (Nat.le_of_ble_eq_true rfl) (Nat.le_of_ble_eq_true rfl) rfl rfl (Nat.le_of_ble_eq_true rfl) (rcvD s21 (by decide) rfl) (kX10_train w) (fun E h hk => hk.elim) (fun r17 h16 w => ?_)
      refine X_iconst (v := (nI 0)) (show decode cX10_minutesUntilArrival 58 = .ok (.iconst 0, 1) by decide +kernel) (by decide) ?_
      obtain ⟨s20, w⟩ := w
      refine X_vI (rc' := 0) (rs' := 0) (as := [.int _, .int _]) mv_X10_80 (show decode cX10_minutesUntilArrival 59 = .ok (.invokevirtual 80, 3) by decide +kernel) (by decide) (Nat.le_of_ble_eq_true rfl) (Nat.le_of_ble_eq_true rfl) rfl rfl (Nat.le_of_ble_eq_true rfl) (rcvD s20 (by decide) rfl) (kX10_block w) (fun E h hk => hk.elim) (fun r19 h18 w => ?_)
      refine X_iadd (show decode cX10_minutesUntilArrival 62 = .ok (.iadd, 1) by decide +kernel) ?_
      refine X_istore_n (ls' := [(0, .ref _), (2, .int _), (3, .int _), (4, .int _)]) (show decode cX10_minutesUntilArrival 63 = .ok (.istore_n 3, 1) by decide +kernel) rfl (by decide) rfl ?_
      refine X_iinc (j := 3) (v := _ + (nI 1)) (ls' := [(0, .ref _), (2, .int _), (3, .int _), (4, .int _)]) (show decode cX10_minutesUntilArrival 64 = .ok (.iinc 4 1, 3) by decide +kernel) rfl rfl (Nat.le_of_ble_eq_true rfl) rfl ?_
      refine X_goto (tgt := 34) (show decode cX10_minutesUntilArrival 67 = .ok (.goto (-33), 3) by decide +kernel) (by decide) ?_
      exact ih _ _ _ _ _ w
set_option maxRecDepth 100000 in
set_option maxHeartbeats 4000000 in
theorem kX10_minutesUntilArrival {a0 : Nat} {a1 : Int32} {h : AH} {K : Int32 → AH → Prop} (w : wX10_minutesUntilArrival a0 a1 h K) : Cn mX10_minutesUntilArrival (cwd mX10_minutesUntilArrival) 4 0 0 [.ref a0, .int a1] h (KI K) T0 := by
  refine Cn_of (by decide +kernel) rfl (Nat.le_of_ble_eq_true rfl) ?_
  show X mX10_minutesUntilArrival 4 (KI K) T0 0 0 0 [(0, .ref a0), (1, .int a1)] [] h
  unfold wX10_minutesUntilArrival at w
  refine X_aload_n (j := 0) (show decode cX10_minutesUntilArrival 0 = .ok (.aload_n 0, 1) by decide +kernel) rfl rfl ?_
  refine X_iload_n (j := 1) (show decode cX10_minutesUntilArrival 1 = .ok (.iload_n 1, 1) by decide +kernel) rfl rfl ?_
  obtain ⟨s26, w⟩ := w
  refine X_vI (rc' := 0) (rs' := 0) (as := [.int _]) mv_X10_212 (show decode cX10_minutesUntilArrival 2 = .ok (.invokevirtual 212, 3) by decide +kernel) (by decide) (Nat.le_of_ble_eq_true rfl) (Nat.le_of_ble_eq_true rfl) rfl rfl (Nat.le_of_ble_eq_true rfl) (rcvD s26 (by decide) rfl) (kX10_isRunning w) (fun E h hk => hk.elim) (fun r2 h1 w => ?_)
  refine X_if_ne (tgt := 10) (show decode cX10_minutesUntilArrival 5 = .ok (.ifCond .ne 5, 3) by decide +kernel) (by decide) ⟨fun c3 => ?_, fun c3 => ?_⟩
  · have w := w.1 c3
    refine X_aload_n (j := 0) (show decode cX10_minutesUntilArrival 10 = .ok (.aload_n 0, 1) by decide +kernel) rfl rfl ?_
    refine X_iload_n (j := 1) (show decode cX10_minutesUntilArrival 11 = .ok (.iload_n 1, 1) by decide +kernel) rfl rfl ?_
    obtain ⟨s25, w⟩ := w
    refine X_vI (rc' := 0) (rs' := 0) (as := [.int _]) mv_X10_132 (show decode cX10_minutesUntilArrival 12 = .ok (.invokevirtual 132, 3) by decide +kernel) (by decide) (Nat.le_of_ble_eq_true rfl) (Nat.le_of_ble_eq_true rfl) rfl rfl (Nat.le_of_ble_eq_true rfl) (rcvD s25 (by decide) rfl) (kX10_placeOf w) (fun E h hk => hk.elim) (fun r5 h4 w => ?_)
    refine X_istore_n (ls' := [(0, .ref _), (1, .int _), (2, .int _)]) (show decode cX10_minutesUntilArrival 15 = .ok (.istore_n 2, 1) by decide +kernel) rfl (by decide) rfl ?_
    refine X_aload_n (j := 0) (show decode cX10_minutesUntilArrival 16 = .ok (.aload_n 0, 1) by decide +kernel) rfl rfl ?_
    refine X_iload_n (j := 2) (show decode cX10_minutesUntilArrival 17 = .ok (.iload_n 2, 1) by decide +kernel) rfl rfl ?_
    refine X_iconst (v := (nI 4)) (show decode cX10_minutesUntilArrival 18 = .ok (.iconst 4, 1) by decide +kernel) (by decide) ?_
    obtain ⟨s24, w⟩ := w
    refine X_vI (rc' := 0) (rs' := 0) (as := [.int _, .int _]) mv_X10_76 (show decode cX10_minutesUntilArrival 19 = .ok (.invokevirtual 76, 3) by decide +kernel) (by decide) (Nat.le_of_ble_eq_true rfl) (Nat.le_of_ble_eq_true rfl) rfl rfl (Nat.le_of_ble_eq_true rfl) (rcvD s24 (by decide) rfl) (kX10_train w) (fun E h hk => hk.elim) (fun r7 h6 w => ?_)
    refine X_aload_n (j := 0) (show decode cX10_minutesUntilArrival 22 = .ok (.aload_n 0, 1) by decide +kernel) rfl rfl ?_
    obtain ⟨s8, w⟩ := w
    refine X_getR fl_X10_7 (show decode cX10_minutesUntilArrival 23 = .ok (.getfield 7, 3) by decide +kernel) s8 ?_
    refine X_bipush (v := (nI 6)) (show decode cX10_minutesUntilArrival 26 = .ok (.bipush 6, 2) by decide +kernel) (by decide) ?_
    obtain ⟨s9, w⟩ := w
    obtain ⟨s10, w⟩ := w
    refine X_iald (show decode cX10_minutesUntilArrival 28 = .ok (.iaload, 1) by decide +kernel) (isA_eq s9) s10 ?_
    refine X_isub (show decode cX10_minutesUntilArrival 29 = .ok (.isub, 1) by decide +kernel) ?_
    refine X_topi (fun v11 e12 => ?_)
    have w := w v11 e12
    refine X_istore_n (ls' := [(0, .ref _), (1, .int _), (2, .int _), (3, .int _)]) (show decode cX10_minutesUntilArrival 30 = .ok (.istore_n 3, 1) by decide +kernel) rfl (by decide) rfl ?_
    refine X_iconst (v := (nI 2)) (show decode cX10_minutesUntilArrival 31 = .ok (.iconst 2, 1) by decide +kernel) (by decide) ?_
    refine X_istore (ls' := [(0, .ref _), (1, .int _), (2, .int _), (3, .int _), (4, .int _)]) (show decode cX10_minutesUntilArrival 32 = .ok (.istore 4, 2) by decide +kernel) (by decide) rfl ?_
    refine X_pick (ls' := [(0, .ref _), (2, .int _), (3, .int _), (4, .int _)]) [0, 2, 3, 4] rfl ?_
    obtain ⟨n23, w⟩ := w
    exact kX10_minutesUntilArrival_L34  n23 _ _ _ _ _ w
  · have w := w.2 c3
    refine X_iconst (v := (nI 0)) (show decode cX10_minutesUntilArrival 8 = .ok (.iconst 0, 1) by decide +kernel) (by decide) ?_
    exact X_iret ⟨(show decode cX10_minutesUntilArrival 9 = .ok (.ireturn, 1) by decide +kernel), .int, rfl, rfl⟩ ⟨_, rfl, w⟩
set_option maxRecDepth 100000 in
set_option maxHeartbeats 4000000 in
theorem kX10_minutesUntilArrivalByPassing {a0 : Nat} {a1 : Int32} {h : AH} {K : Int32 → AH → Prop} (w : wX10_minutesUntilArrivalByPassing a0 a1 h K) : Cn mX10_minutesUntilArrivalByPassing (cwd mX10_minutesUntilArrivalByPassing) 5 0 0 [.ref a0, .int a1] h (KI K) T0 := by
  refine Cn_of (by decide +kernel) rfl (Nat.le_of_ble_eq_true rfl) ?_
  show X mX10_minutesUntilArrivalByPassing 5 (KI K) T0 0 0 0 [(0, .ref a0), (1, .int a1)] [] h
  unfold wX10_minutesUntilArrivalByPassing at w
  refine X_aload_n (j := 0) (show decode cX10_minutesUntilArrivalByPassing 0 = .ok (.aload_n 0, 1) by decide +kernel) rfl rfl ?_
  refine X_iload_n (j := 1) (show decode cX10_minutesUntilArrivalByPassing 1 = .ok (.iload_n 1, 1) by decide +kernel) rfl rfl ?_
  obtain ⟨s3, w⟩ := w
  refine X_vI (rc' := 0) (rs' := 0) (as := [.int _]) mv_X10_215 (show decode cX10_minutesUntilArrivalByPassing 2 = .ok (.invokevirtual 215, 3) by decide +kernel) (by decide) (Nat.le_of_ble_eq_true rfl) (Nat.le_of_ble_eq_true rfl) rfl rfl (Nat.le_of_ble_eq_true rfl) (rcvD s3 (by decide) rfl) (kX10_minutesUntilArrival w) (fun E h hk => hk.elim) (fun r2 h1 w => ?_)
  exact X_iret ⟨(show decode cX10_minutesUntilArrivalByPassing 5 = .ok (.ireturn, 1) by decide +kernel), .int, rfl, rfl⟩ ⟨_, rfl, w⟩
set_option maxRecDepth 100000 in
set_option maxHeartbeats 4000000 in
theorem kX10_delay {a0 : Nat} {a1 : Int32} {h : AH} {K : Int32 → AH → Prop} (w : wX10_delay a0 a1 h K) : Cn mX10_delay (cwd mX10_delay) 4 0 0 [.ref a0, .int a1] h (KI K) T0 := by
  refine Cn_of (by decide +kernel) rfl (Nat.le_of_ble_eq_true rfl) ?_
  show X mX10_delay 4 (KI K) T0 0 0 0 [(0, .ref a0), (1, .int a1)] [] h
  unfold wX10_delay at w
  refine X_aload_n (j := 0) (show decode cX10_delay 0 = .ok (.aload_n 0, 1) by decide +kernel) rfl rfl ?_
  refine X_iload_n (j := 1) (show decode cX10_delay 1 = .ok (.iload_n 1, 1) by decide +kernel) rfl rfl ?_
  refine X_iconst (v := (nI 5)) (show decode cX10_delay 2 = .ok (.iconst 5, 1) by decide +kernel) (by decide) ?_
  obtain ⟨s3, w⟩ := w
  refine X_vI (rc' := 0) (rs' := 0) (as := [.int _, .int _]) mv_X10_209 (show decode cX10_delay 3 = .ok (.invokevirtual 209, 3) by decide +kernel) (by decide) (Nat.le_of_ble_eq_true rfl) (Nat.le_of_ble_eq_true rfl) rfl rfl (Nat.le_of_ble_eq_true rfl) (rcvD s3 (by decide) rfl) (kX10_asked w) (fun E h hk => hk.elim) (fun r2 h1 w => ?_)
  exact X_iret ⟨(show decode cX10_delay 6 = .ok (.ireturn, 1) by decide +kernel), .int, rfl, rfl⟩ ⟨_, rfl, w⟩
set_option maxRecDepth 100000 in
set_option maxHeartbeats 4000000 in
theorem kX10_queued_J22 {K : Int32 → AH → Prop}   (x0 : Nat) (x1 : Int32) (y0 : Nat) (y1 : Int32) (h : AH) (w : wX10_queued_J22 K  x0 x1 y0 y1 h) : X mX10_queued 2 (KI K) T0 0 0 22 [(0, .ref x0), (1, .int x1)] [.int y1, .ref y0] h := by
  unfold wX10_queued_J22 at w
  obtain ⟨s7, w⟩ := w
  refine X_putI fp_X10_56 (show decode cX10_queued 22 = .ok (.putfield 56, 3) by decide +kernel) (fun z => nomatch z) s7 rfl rfl ?_
  have w := w _ rfl
  refine X_aload_n (j := 0) (show decode cX10_queued 25 = .ok (.aload_n 0, 1) by decide +kernel) rfl rfl ?_
  obtain ⟨s9, w⟩ := w
  refine X_getI fl_X10_56 (show decode cX10_queued 26 = .ok (.getfield 56, 3) by decide +kernel) s9 ?_
  refine X_if_le (tgt := 36) (show decode cX10_queued 29 = .ok (.ifCond .le 7, 3) by decide +kernel) (by decide) ⟨fun c10 => ?_, fun c10 => ?_⟩
  · have w := w.1 c10
    refine X_aload_n (j := 0) (show decode cX10_queued 36 = .ok (.aload_n 0, 1) by decide +kernel) rfl rfl ?_
    refine X_getR fl_X10_7 (show decode cX10_queued 37 = .ok (.getfield 7, 3) by decide +kernel) s9 ?_
    refine X_sipush (v := (nI 273)) (show decode cX10_queued 40 = .ok (.sipush 273, 3) by decide +kernel) (by decide) ?_
    refine X_iload_n (j := 1) (show decode cX10_queued 43 = .ok (.iload_n 1, 1) by decide +kernel) rfl rfl ?_
    refine X_iadd (show decode cX10_queued 44 = .ok (.iadd, 1) by decide +kernel) ?_
    obtain ⟨s11, w⟩ := w
    obtain ⟨s12, w⟩ := w
    refine X_iald (show decode cX10_queued 45 = .ok (.iaload, 1) by decide +kernel) (isA_eq s11) s12 ?_
    exact X_iret ⟨(show decode cX10_queued 46 = .ok (.ireturn, 1) by decide +kernel), .int, rfl, rfl⟩ ⟨_, rfl, w⟩
  · have w := w.2 c10
    refine X_iconst (v := (nI 0)) (show decode cX10_queued 32 = .ok (.iconst 0, 1) by decide +kernel) (by decide) ?_
    refine X_goto (tgt := 46) (show decode cX10_queued 33 = .ok (.goto 13, 3) by decide +kernel) (by decide) ?_
    exact X_iret ⟨(show decode cX10_queued 46 = .ok (.ireturn, 1) by decide +kernel), .int, rfl, rfl⟩ ⟨_, rfl, w⟩
set_option maxRecDepth 100000 in
set_option maxHeartbeats 4000000 in
theorem kX10_queued {a0 : Nat} {a1 : Int32} {h : AH} {K : Int32 → AH → Prop} (w : wX10_queued a0 a1 h K) : Cn mX10_queued (cwd mX10_queued) 2 0 0 [.ref a0, .int a1] h (KI K) T0 := by
  refine Cn_of (by decide +kernel) rfl (Nat.le_of_ble_eq_true rfl) ?_
  show X mX10_queued 2 (KI K) T0 0 0 0 [(0, .ref a0), (1, .int a1)] [] h
  unfold wX10_queued at w
  refine X_aload_n (j := 0) (show decode cX10_queued 0 = .ok (.aload_n 0, 1) by decide +kernel) rfl rfl ?_
  refine X_iload_n (j := 1) (show decode cX10_queued 1 = .ok (.iload_n 1, 1) by decide +kernel) rfl rfl ?_
  refine X_iconst (v := (nI 0)) (show decode cX10_queued 2 = .ok (.iconst 0, 1) by decide +kernel) (by decide) ?_
  refine X_aload_n (j := 0) (show decode cX10_queued 3 = .ok (.aload_n 0, 1) by decide +kernel) rfl rfl ?_
  obtain ⟨s1, w⟩ := w
  refine X_getR fl_X10_7 (show decode cX10_queued 4 = .ok (.getfield 7, 3) by decide +kernel) s1 ?_
  refine X_iconst (v := (nI 5)) (show decode cX10_queued 7 = .ok (.iconst 5, 1) by decide +kernel) (by decide) ?_
  obtain ⟨s2, w⟩ := w
  obtain ⟨s3, w⟩ := w
  refine X_iald (show decode cX10_queued 8 = .ok (.iaload, 1) by decide +kernel) (isA_eq s2) s3 ?_
  refine X_iconst (v := (nI 1)) (show decode cX10_queued 9 = .ok (.iconst 1, 1) by decide +kernel) (by decide) ?_
  refine X_isub (show decode cX10_queued 10 = .ok (.isub, 1) by decide +kernel) ?_
  refine X_sI (rc' := 0) (rs' := 0) (as := [.int _, .int _, .int _]) ms_X10_72 (show decode cX10_queued 11 = .ok (.invokestatic 72, 3) by decide +kernel) (by decide) (Nat.le_of_ble_eq_true rfl) (Nat.le_of_ble_eq_true rfl) rfl rfl (Nat.le_of_ble_eq_true rfl) (kX10_in w) (fun E h hk => hk.elim) (fun r5 h4 w => ?_)
  refine X_if_eq (tgt := 21) (show decode cX10_queued 14 = .ok (.ifCond .eq 7, 3) by decide +kernel) (by decide) ⟨fun c6 => ?_, fun c6 => ?_⟩
  · have w := w.1 c6
    refine X_iconst (v := (nI 1)) (show decode cX10_queued 21 = .ok (.iconst 1, 1) by decide +kernel) (by decide) ?_
    exact kX10_queued_J22  _ _ _ _ _ w
  · have w := w.2 c6
    refine X_iconst (v := (nI 0)) (show decode cX10_queued 17 = .ok (.iconst 0, 1) by decide +kernel) (by decide) ?_
    refine X_goto (tgt := 22) (show decode cX10_queued 18 = .ok (.goto 4, 3) by decide +kernel) (by decide) ?_
    exact kX10_queued_J22  _ _ _ _ _ w
set_option maxRecDepth 100000 in
set_option maxHeartbeats 4000000 in
theorem kX10_isWaiting_L49 {K : Int32 → AH → Prop}    : ∀ (n : Nat) (x0 : Nat) (x3 : Int32) (x4 : Int32) (h : AH), wX10_isWaiting_L49 K   n x0 x3 x4 h → X mX10_isWaiting 5 (KI K) T0 0 0 49 [(0, .ref x0), (3, .int x3), (4, .int x4)] [] h := by
  intro n
  induction n with
  | zero => intro _ _ _ _ w; exact w.elim
  | succ n ih =>
    intro x0 x3 x4 h w
    rw [wX10_isWaiting_L49] at w
    refine X_iload (j := 2) (show decode cX10_isWaiting 49 = .ok (.iload 4, 2) by decide +kernel) rfl ?_
    refine X_aload_n (j := 0) (show decode cX10_isWaiting 51 = .ok (.aload_n 0, 1) by decide +kernel) rfl rfl ?_
    obtain ⟨s14, w⟩ := w
    refine X_getI fl_X10_93 (show decode cX10_isWaiting 52 = .ok (.getfield 93, 3) by decide +kernel) s14 ?_
    refine X_icmp_ge (tgt := 98) (show decode cX10_isWaiting 55 = .ok (.if_icmp .ge 43, 3) by decide +kernel) (by decide) ⟨fun c15 => ?_, fun c15 => ?_⟩
    · have w := w.1 c15
      refine X_iconst (v := (nI 0)) (show decode cX10_isWaiting 98 = .ok (.iconst 0, 1) by decide +kernel) (by decide) ?_
      exact X_iret ⟨(show decode cX10_isWaiting 99 = .ok (.ireturn, 1) by decide +kernel), .boolean, rfl, (by decide)⟩ ⟨_, rfl, w⟩
    · have w := w.2 c15
      refine X_aload_n (j := 0) (show decode cX10_isWaiting 58 = .ok (.aload_n 0, 1) by decide +kernel) rfl rfl ?_
      refine X_aload_n (j := 0) (show decode cX10_isWaiting 59 = .ok (.aload_n 0, 1) by decide +kernel) rfl rfl ?_
      refine X_getR fl_X10_37 (show decode cX10_isWaiting 60 = .ok (.getfield 37, 3) by decide +kernel) s14 ?_
      refine X_iload (j := 2) (show decode cX10_isWaiting 63 = .ok (.iload 4, 2) by decide +kernel) rfl ?_
      obtain ⟨s16, w⟩ := w
      obtain ⟨s17, w⟩ := w
      refine X_iald (show decode cX10_isWaiting 65 = .ok (.iaload, 1) by decide +kernel) (isA_eq s16) s17 ?_
      refine X_iconst (v := (nI 4)) (show decode cX10_isWaiting 66 = .ok (.iconst 4, 1) by decide +kernel) (by decide) ?_
      refine X_vI (rc' := 0) (rs' := 0) (as := [.int _, .int _]) mv_X10_80 (show decode cX10_isWaiting 67 = .ok (.invokevirtual 80, 3) by decide +kernel) (by decide) (Nat.le_of_ble_eq_true rfl) (Nat.le_of_ble_eq_true rfl) rfl rfl (Nat.le_of_ble_eq_true rfl) (rcvD s14 (by decide) rfl) (kX10_block w) (fun E h hk => hk.elim) (fun r19 h18 w => ?_)
      refine X_iload_n (j := 1) (show decode cX10_isWaiting 70 = .ok (.iload_n 3, 1) by decide +kernel) rfl rfl ?_
      refine X_icmp_eq (tgt := 90) (show decode cX10_isWaiting 71 = .ok (.if_icmp .eq 19, 3) by decide +kernel) (by decide) ⟨fun c20 => ?_, fun c20 => ?_⟩
      · have w := w.1 c20
        refine X_iconst (v := (nI 1)) (show decode cX10_isWaiting 90 = .ok (.iconst 1, 1) by decide +kernel) (by decide) ?_
        exact X_iret ⟨(show decode cX10_isWaiting 91 = .ok (.ireturn, 1) by decide +kernel), .boolean, rfl, (by decide)⟩ ⟨_, rfl, w⟩
      · have w := w.2 c20
        refine X_aload_n (j := 0) (show decode cX10_isWaiting 74 = .ok (.aload_n 0, 1) by decide +kernel) rfl rfl ?_
        refine X_aload_n (j := 0) (show decode cX10_isWaiting 75 = .ok (.aload_n 0, 1) by decide +kernel) rfl rfl ?_
        obtain ⟨s21, w⟩ := w
        refine X_getR fl_X10_37 (show decode cX10_isWaiting 76 = .ok (.getfield 37, 3) by decide +kernel) s21 ?_
        refine X_iload (j := 2) (show decode cX10_isWaiting 79 = .ok (.iload 4, 2) by decide +kernel) rfl ?_
        obtain ⟨s22, w⟩ := w
        obtain ⟨s23, w⟩ := w
        refine X_iald (show decode cX10_isWaiting 81 = .ok (.iaload, 1) by decide +kernel) (isA_eq s22) s23 ?_
        refine X_iconst (v := (nI 5)) (show decode cX10_isWaiting 82 = .ok (.iconst 5, 1) by decide +kernel) (by decide) ?_
        refine X_vI (rc' := 0) (rs' := 0) (as := [.int _, .int _]) mv_X10_80 (show decode cX10_isWaiting 83 = .ok (.invokevirtual 80, 3) by decide +kernel) (by decide) (Nat.le_of_ble_eq_true rfl) (Nat.le_of_ble_eq_true rfl) rfl rfl (Nat.le_of_ble_eq_true rfl) (rcvD s21 (by decide) rfl) (kX10_block w) (fun E h hk => hk.elim) (fun r25 h24 w => ?_)
        refine X_iload_n (j := 1) (show decode cX10_isWaiting 86 = .ok (.iload_n 3, 1) by decide +kernel) rfl rfl ?_
        refine X_icmp_ne (tgt := 92) (show decode cX10_isWaiting 87 = .ok (.if_icmp .ne 5, 3) by decide +kernel) (by decide) ⟨fun c26 => ?_, fun c26 => ?_⟩
        · have w := w.1 c26
          refine X_iinc (j := 2) (v := _ + (nI 1)) (ls' := [(0, .ref _), (3, .int _), (4, .int _)]) (show decode cX10_isWaiting 92 = .ok (.iinc 4 1, 3) by decide +kernel) rfl rfl (Nat.le_of_ble_eq_true rfl) rfl ?_
          refine X_goto (tgt := 49) (show decode cX10_isWaiting 95 = .ok (.goto (-46), 3) by decide +kernel) (by decide) ?_
          exact ih _ _ _ _ w
        · have w := w.2 c26
          refine X_iconst (v := (nI 1)) (show decode cX10_isWaiting 90 = .ok (.iconst 1, 1) by decide +kernel) (by decide) ?_
          exact X_iret ⟨(show decode cX10_isWaiting 91 = .ok (.ireturn, 1) by decide +kernel), .boolean, rfl, (by decide)⟩ ⟨_, rfl, w⟩
set_option maxRecDepth 100000 in
set_option maxHeartbeats 4000000 in
theorem kX10_isWaiting {a0 : Nat} {a1 : Int32} {a2 : Int32} {h : AH} {K : Int32 → AH → Prop} (w : wX10_isWaiting a0 a1 a2 h K) : Cn mX10_isWaiting (cwd mX10_isWaiting) 5 0 0 [.ref a0, .int a1, .int a2] h (KI K) T0 := by
  refine Cn_of (by decide +kernel) rfl (Nat.le_of_ble_eq_true rfl) ?_
  show X mX10_isWaiting 5 (KI K) T0 0 0 0 [(0, .ref a0), (1, .int a1), (2, .int a2)] [] h
  unfold wX10_isWaiting at w
  refine X_iload_n (j := 1) (show decode cX10_isWaiting 0 = .ok (.iload_n 1, 1) by decide +kernel) rfl rfl ?_
  refine X_iload_n (j := 2) (show decode cX10_isWaiting 1 = .ok (.iload_n 2, 1) by decide +kernel) rfl rfl ?_
  refine X_icmp_eq (tgt := 35) (show decode cX10_isWaiting 2 = .ok (.if_icmp .eq 33, 3) by decide +kernel) (by decide) ⟨fun c1 => ?_, fun c1 => ?_⟩
  · have w := w.1 c1
    refine X_iconst (v := (nI 0)) (show decode cX10_isWaiting 35 = .ok (.iconst 0, 1) by decide +kernel) (by decide) ?_
    exact X_iret ⟨(show decode cX10_isWaiting 36 = .ok (.ireturn, 1) by decide +kernel), .boolean, rfl, (by decide)⟩ ⟨_, rfl, w⟩
  · have w := w.2 c1
    refine X_aload_n (j := 0) (show decode cX10_isWaiting 5 = .ok (.aload_n 0, 1) by decide +kernel) rfl rfl ?_
    refine X_iload_n (j := 1) (show decode cX10_isWaiting 6 = .ok (.iload_n 1, 1) by decide +kernel) rfl rfl ?_
    refine X_iconst (v := (nI 3)) (show decode cX10_isWaiting 7 = .ok (.iconst 3, 1) by decide +kernel) (by decide) ?_
    obtain ⟨s32, w⟩ := w
    refine X_vI (rc' := 0) (rs' := 0) (as := [.int _, .int _]) mv_X10_76 (show decode cX10_isWaiting 8 = .ok (.invokevirtual 76, 3) by decide +kernel) (by decide) (Nat.le_of_ble_eq_true rfl) (Nat.le_of_ble_eq_true rfl) rfl rfl (Nat.le_of_ble_eq_true rfl) (rcvD s32 (by decide) rfl) (kX10_train w) (fun E h hk => hk.elim) (fun r3 h2 w => ?_)
    refine X_iconst (v := (nI 1)) (show decode cX10_isWaiting 11 = .ok (.iconst 1, 1) by decide +kernel) (by decide) ?_
    refine X_icmp_eq (tgt := 35) (show decode cX10_isWaiting 12 = .ok (.if_icmp .eq 23, 3) by decide +kernel) (by decide) ⟨fun c4 => ?_, fun c4 => ?_⟩
    · have w := w.1 c4
      refine X_iconst (v := (nI 0)) (show decode cX10_isWaiting 35 = .ok (.iconst 0, 1) by decide +kernel) (by decide) ?_
      exact X_iret ⟨(show decode cX10_isWaiting 36 = .ok (.ireturn, 1) by decide +kernel), .boolean, rfl, (by decide)⟩ ⟨_, rfl, w⟩
    · have w := w.2 c4
      refine X_aload_n (j := 0) (show decode cX10_isWaiting 15 = .ok (.aload_n 0, 1) by decide +kernel) rfl rfl ?_
      refine X_aload_n (j := 0) (show decode cX10_isWaiting 16 = .ok (.aload_n 0, 1) by decide +kernel) rfl rfl ?_
      refine X_iload_n (j := 1) (show decode cX10_isWaiting 17 = .ok (.iload_n 1, 1) by decide +kernel) rfl rfl ?_
      refine X_iconst (v := (nI 1)) (show decode cX10_isWaiting 18 = .ok (.iconst 1, 1) by decide +kernel) (by decide) ?_
      obtain ⟨s31, w⟩ := w
      refine X_vI (rc' := 0) (rs' := 0) (as := [.int _, .int _]) mv_X10_76 (show decode cX10_isWaiting 19 = .ok (.invokevirtual 76, 3) by decide +kernel) (by decide) (Nat.le_of_ble_eq_true rfl) (Nat.le_of_ble_eq_true rfl) rfl rfl (Nat.le_of_ble_eq_true rfl) (rcvD s31 (by decide) rfl) (kX10_train w) (fun E h hk => hk.elim) (fun r6 h5 w => ?_)
      refine X_aload_n (j := 0) (show decode cX10_isWaiting 22 = .ok (.aload_n 0, 1) by decide +kernel) rfl rfl ?_
      refine X_iload_n (j := 1) (show decode cX10_isWaiting 23 = .ok (.iload_n 1, 1) by decide +kernel) rfl rfl ?_
      refine X_iconst (v := (nI 2)) (show decode cX10_isWaiting 24 = .ok (.iconst 2, 1) by decide +kernel) (by decide) ?_
      obtain ⟨s30, w⟩ := w
      refine X_vI (rc' := 0) (rs' := 0) (as := [.int _, .int _]) mv_X10_76 (show decode cX10_isWaiting 25 = .ok (.invokevirtual 76, 3) by decide +kernel) (by decide) (Nat.le_of_ble_eq_true rfl) (Nat.le_of_ble_eq_true rfl) rfl rfl (Nat.le_of_ble_eq_true rfl) (rcvD s30 (by decide) rfl) (kX10_train w) (fun E h hk => hk.elim) (fun r8 h7 w => ?_)
      obtain ⟨s29, w⟩ := w
      refine X_vI (rc' := 0) (rs' := 0) (as := [.int _, .int _]) mv_X10_100 (show decode cX10_isWaiting 28 = .ok (.invokevirtual 100, 3) by decide +kernel) (by decide) (Nat.le_of_ble_eq_true rfl) (Nat.le_of_ble_eq_true rfl) rfl rfl (Nat.le_of_ble_eq_true rfl) (rcvD s29 (by decide) rfl) (kX10_leads w) (fun E h hk => hk.elim) (fun r10 h9 w => ?_)
      refine X_iconst (v := (-1)) (show decode cX10_isWaiting 31 = .ok (.iconst (-1), 1) by decide +kernel) (by decide) ?_
      refine X_icmp_ne (tgt := 37) (show decode cX10_isWaiting 32 = .ok (.if_icmp .ne 5, 3) by decide +kernel) (by decide) ⟨fun c11 => ?_, fun c11 => ?_⟩
      · have w := w.1 c11
        refine X_aload_n (j := 0) (show decode cX10_isWaiting 37 = .ok (.aload_n 0, 1) by decide +kernel) rfl rfl ?_
        refine X_iload_n (j := 2) (show decode cX10_isWaiting 38 = .ok (.iload_n 2, 1) by decide +kernel) rfl rfl ?_
        refine X_iconst (v := (nI 0)) (show decode cX10_isWaiting 39 = .ok (.iconst 0, 1) by decide +kernel) (by decide) ?_
        obtain ⟨s28, w⟩ := w
        refine X_vI (rc' := 0) (rs' := 0) (as := [.int _, .int _]) mv_X10_76 (show decode cX10_isWaiting 40 = .ok (.invokevirtual 76, 3) by decide +kernel) (by decide) (Nat.le_of_ble_eq_true rfl) (Nat.le_of_ble_eq_true rfl) rfl rfl (Nat.le_of_ble_eq_true rfl) (rcvD s28 (by decide) rfl) (kX10_train w) (fun E h hk => hk.elim) (fun r13 h12 w => ?_)
        refine X_iconst (v := (nI 1)) (show decode cX10_isWaiting 43 = .ok (.iconst 1, 1) by decide +kernel) (by decide) ?_
        refine X_iadd (show decode cX10_isWaiting 44 = .ok (.iadd, 1) by decide +kernel) ?_
        refine X_istore_n (ls' := [(0, .ref _), (1, .int _), (2, .int _), (3, .int _)]) (show decode cX10_isWaiting 45 = .ok (.istore_n 3, 1) by decide +kernel) rfl (by decide) rfl ?_
        refine X_iconst (v := (nI 1)) (show decode cX10_isWaiting 46 = .ok (.iconst 1, 1) by decide +kernel) (by decide) ?_
        refine X_istore (ls' := [(0, .ref _), (1, .int _), (2, .int _), (3, .int _), (4, .int _)]) (show decode cX10_isWaiting 47 = .ok (.istore 4, 2) by decide +kernel) (by decide) rfl ?_
        refine X_pick (ls' := [(0, .ref _), (3, .int _), (4, .int _)]) [0, 3, 4] rfl ?_
        obtain ⟨n27, w⟩ := w
        exact kX10_isWaiting_L49  n27 _ _ _ _ w
      · have w := w.2 c11
        refine X_iconst (v := (nI 0)) (show decode cX10_isWaiting 35 = .ok (.iconst 0, 1) by decide +kernel) (by decide) ?_
        exact X_iret ⟨(show decode cX10_isWaiting 36 = .ok (.ireturn, 1) by decide +kernel), .boolean, rfl, (by decide)⟩ ⟨_, rfl, w⟩
set_option maxRecDepth 100000 in
set_option maxHeartbeats 4000000 in
theorem kX10_waitsFor_J30 {K : Int32 → AH → Prop}   (x0 : Nat) (x3 : Int32) (x4 : Int32) (y0 : Nat) (y1 : Int32) (h : AH) (w : wX10_waitsFor_J30 K  x0 x3 x4 y0 y1 h) : X mX10_waitsFor 6 (KI K) T0 0 0 30 [(0, .ref x0), (3, .int x3), (4, .int x4)] [.int y1, .ref y0] h := by
  unfold wX10_waitsFor_J30 at w
  obtain ⟨s6, w⟩ := w
  refine X_putI fp_X10_56 (show decode cX10_waitsFor 30 = .ok (.putfield 56, 3) by decide +kernel) (fun z => nomatch z) s6 rfl rfl ?_
  have w := w _ rfl
  refine X_aload_n (j := 0) (show decode cX10_waitsFor 33 = .ok (.aload_n 0, 1) by decide +kernel) rfl rfl ?_
  obtain ⟨s8, w⟩ := w
  refine X_getI fl_X10_56 (show decode cX10_waitsFor 34 = .ok (.getfield 56, 3) by decide +kernel) s8 ?_
  refine X_if_ne (tgt := 54) (show decode cX10_waitsFor 37 = .ok (.ifCond .ne 17, 3) by decide +kernel) (by decide) ⟨fun c9 => ?_, fun c9 => ?_⟩
  · have w := w.1 c9
    refine X_iconst (v := (nI 0)) (show decode cX10_waitsFor 54 = .ok (.iconst 0, 1) by decide +kernel) (by decide) ?_
    exact X_iret ⟨(show decode cX10_waitsFor 55 = .ok (.ireturn, 1) by decide +kernel), .boolean, rfl, (by decide)⟩ ⟨_, rfl, w⟩
  · have w := w.2 c9
    refine X_aload_n (j := 0) (show decode cX10_waitsFor 40 = .ok (.aload_n 0, 1) by decide +kernel) rfl rfl ?_
    refine X_iload_n (j := 1) (show decode cX10_waitsFor 41 = .ok (.iload_n 3, 1) by decide +kernel) rfl rfl ?_
    refine X_iload (j := 2) (show decode cX10_waitsFor 42 = .ok (.iload 4, 2) by decide +kernel) rfl ?_
    refine X_vI (rc' := 0) (rs' := 0) (as := [.int _, .int _]) mv_X10_218 (show decode cX10_waitsFor 44 = .ok (.invokevirtual 218, 3) by decide +kernel) (by decide) (Nat.le_of_ble_eq_true rfl) (Nat.le_of_ble_eq_true rfl) rfl rfl (Nat.le_of_ble_eq_true rfl) (rcvD s8 (by decide) rfl) (kX10_isWaiting w) (fun E h hk => hk.elim) (fun r11 h10 w => ?_)
    refine X_if_eq (tgt := 54) (show decode cX10_waitsFor 47 = .ok (.ifCond .eq 7, 3) by decide +kernel) (by decide) ⟨fun c12 => ?_, fun c12 => ?_⟩
    · have w := w.1 c12
      refine X_iconst (v := (nI 0)) (show decode cX10_waitsFor 54 = .ok (.iconst 0, 1) by decide +kernel) (by decide) ?_
      exact X_iret ⟨(show decode cX10_waitsFor 55 = .ok (.ireturn, 1) by decide +kernel), .boolean, rfl, (by decide)⟩ ⟨_, rfl, w⟩
    · have w := w.2 c12
      refine X_iconst (v := (nI 1)) (show decode cX10_waitsFor 50 = .ok (.iconst 1, 1) by decide +kernel) (by decide) ?_
      refine X_goto (tgt := 55) (show decode cX10_waitsFor 51 = .ok (.goto 4, 3) by decide +kernel) (by decide) ?_
      exact X_iret ⟨(show decode cX10_waitsFor 55 = .ok (.ireturn, 1) by decide +kernel), .boolean, rfl, (by decide)⟩ ⟨_, rfl, w⟩
set_option maxRecDepth 100000 in
set_option maxHeartbeats 4000000 in
theorem kX10_waitsFor_J25 {K : Int32 → AH → Prop}   (x0 : Nat) (x3 : Int32) (x4 : Int32) (y0 : Nat) (h : AH) (w : wX10_waitsFor_J25 K  x0 x3 x4 y0 h) : X mX10_waitsFor 6 (KI K) T0 0 0 25 [(0, .ref x0), (3, .int x3), (4, .int x4)] [.ref y0] h := by
  unfold wX10_waitsFor_J25 at w
  refine X_iconst (v := (nI 1)) (show decode cX10_waitsFor 25 = .ok (.iconst 1, 1) by decide +kernel) (by decide) ?_
  refine X_goto (tgt := 30) (show decode cX10_waitsFor 26 = .ok (.goto 4, 3) by decide +kernel) (by decide) ?_
  exact kX10_waitsFor_J30  _ _ _ _ _ _ w
set_option maxRecDepth 100000 in
set_option maxHeartbeats 4000000 in
theorem kX10_waitsFor {a0 : Nat} {a1 : Int32} {a2 : Int32} {h : AH} {K : Int32 → AH → Prop} (w : wX10_waitsFor a0 a1 a2 h K) : Cn mX10_waitsFor (cwd mX10_waitsFor) 6 0 0 [.ref a0, .int a1, .int a2] h (KI K) T0 := by
  refine Cn_of (by decide +kernel) rfl (Nat.le_of_ble_eq_true rfl) ?_
  show X mX10_waitsFor 6 (KI K) T0 0 0 0 [(0, .ref a0), (1, .int a1), (2, .int a2)] [] h
  unfold wX10_waitsFor at w
  refine X_aload_n (j := 0) (show decode cX10_waitsFor 0 = .ok (.aload_n 0, 1) by decide +kernel) rfl rfl ?_
  refine X_iload_n (j := 1) (show decode cX10_waitsFor 1 = .ok (.iload_n 1, 1) by decide +kernel) rfl rfl ?_
  obtain ⟨s15, w⟩ := w
  refine X_vI (rc' := 0) (rs' := 0) (as := [.int _]) mv_X10_132 (show decode cX10_waitsFor 2 = .ok (.invokevirtual 132, 3) by decide +kernel) (by decide) (Nat.le_of_ble_eq_true rfl) (Nat.le_of_ble_eq_true rfl) rfl rfl (Nat.le_of_ble_eq_true rfl) (rcvD s15 (by decide) rfl) (kX10_placeOf w) (fun E h hk => hk.elim) (fun r2 h1 w => ?_)
  refine X_istore_n (ls' := [(0, .ref _), (1, .int _), (2, .int _), (3, .int _)]) (show decode cX10_waitsFor 5 = .ok (.istore_n 3, 1) by decide +kernel) rfl (by decide) rfl ?_
  refine X_aload_n (j := 0) (show decode cX10_waitsFor 6 = .ok (.aload_n 0, 1) by decide +kernel) rfl rfl ?_
  refine X_iload_n (j := 2) (show decode cX10_waitsFor 7 = .ok (.iload_n 2, 1) by decide +kernel) rfl rfl ?_
  obtain ⟨s14, w⟩ := w
  refine X_vI (rc' := 0) (rs' := 0) (as := [.int _]) mv_X10_132 (show decode cX10_waitsFor 8 = .ok (.invokevirtual 132, 3) by decide +kernel) (by decide) (Nat.le_of_ble_eq_true rfl) (Nat.le_of_ble_eq_true rfl) rfl rfl (Nat.le_of_ble_eq_true rfl) (rcvD s14 (by decide) rfl) (kX10_placeOf w) (fun E h hk => hk.elim) (fun r4 h3 w => ?_)
  refine X_istore (ls' := [(0, .ref _), (1, .int _), (2, .int _), (3, .int _), (4, .int _)]) (show decode cX10_waitsFor 11 = .ok (.istore 4, 2) by decide +kernel) (by decide) rfl ?_
  refine X_aload_n (j := 0) (show decode cX10_waitsFor 13 = .ok (.aload_n 0, 1) by decide +kernel) rfl rfl ?_
  refine X_iload_n (j := 3) (show decode cX10_waitsFor 14 = .ok (.iload_n 3, 1) by decide +kernel) rfl rfl ?_
  refine X_iconst (v := (-1)) (show decode cX10_waitsFor 15 = .ok (.iconst (-1), 1) by decide +kernel) (by decide) ?_
  refine X_icmp_eq (tgt := 25) (show decode cX10_waitsFor 16 = .ok (.if_icmp .eq 9, 3) by decide +kernel) (by decide) ⟨fun c5 => ?_, fun c5 => ?_⟩
  · have w := w.1 c5
    refine X_pick (ls' := [(0, .ref _), (3, .int _), (4, .int _)]) [0, 3, 4] rfl ?_
    exact kX10_waitsFor_J25  _ _ _ _ _ w
  · have w := w.2 c5
    refine X_iload (j := 4) (show decode cX10_waitsFor 19 = .ok (.iload 4, 2) by decide +kernel) rfl ?_
    refine X_iconst (v := (-1)) (show decode cX10_waitsFor 21 = .ok (.iconst (-1), 1) by decide +kernel) (by decide) ?_
    refine X_icmp_ne (tgt := 29) (show decode cX10_waitsFor 22 = .ok (.if_icmp .ne 7, 3) by decide +kernel) (by decide) ⟨fun c13 => ?_, fun c13 => ?_⟩
    · have w := w.1 c13
      refine X_iconst (v := (nI 0)) (show decode cX10_waitsFor 29 = .ok (.iconst 0, 1) by decide +kernel) (by decide) ?_
      refine X_pick (ls' := [(0, .ref _), (3, .int _), (4, .int _)]) [0, 3, 4] rfl ?_
      exact kX10_waitsFor_J30  _ _ _ _ _ _ w
    · have w := w.2 c13
      refine X_pick (ls' := [(0, .ref _), (3, .int _), (4, .int _)]) [0, 3, 4] rfl ?_
      exact kX10_waitsFor_J25  _ _ _ _ _ w
set_option maxRecDepth 100000 in
set_option maxHeartbeats 4000000 in
theorem kX10_deadlocked_J56 {K : Int32 → AH → Prop} {c28 : Nat → Int32 → Int32 → Int32 → AH → Prop} (hc28 : ∀ x0 x1 x2 x3 h, c28 x0 x1 x2 x3 h → X mX10_deadlocked 6 (KI K) T0 0 0 28 [(0, .ref x0), (1, .int x1), (2, .int x2), (3, .int x3)] [] h) (x0 : Nat) (x1 : Int32) (x2 : Int32) (x3 : Int32) (y0 : Nat) (y1 : Int32) (y2 : Int32) (y3 : Int32) (h : AH) (w : wX10_deadlocked_J56 K c28 x0 x1 x2 x3 y0 y1 y2 y3 h) : X mX10_deadlocked 6 (KI K) T0 0 0 56 [(0, .ref x0), (1, .int x1), (2, .int x2), (3, .int x3)] [.int y3, .int y2, .int y1, .ref y0] h := by
  unfold wX10_deadlocked_J56 at w
  refine X_ior (show decode cX10_deadlocked 56 = .ok (.ior, 1) by decide +kernel) ?_
  obtain ⟨s20, w⟩ := w
  obtain ⟨s21, w⟩ := w
  obtain ⟨s22, w⟩ := w
  refine X_iast (show decode cX10_deadlocked 57 = .ok (.iastore, 1) by decide +kernel) (isA_eq s20) s21 s22 ?_
  have w := w _ rfl
  refine X_iinc (j := 3) (v := _ + (nI 1)) (ls' := [(0, .ref _), (1, .int _), (2, .int _), (3, .int _)]) (show decode cX10_deadlocked 58 = .ok (.iinc 3 1, 3) by decide +kernel) rfl rfl (Nat.le_of_ble_eq_true rfl) rfl ?_
  refine X_goto (tgt := 28) (show decode cX10_deadlocked 61 = .ok (.goto (-33), 3) by decide +kernel) (by decide) ?_
  exact hc28 _ _ _ _ _ w
set_option maxRecDepth 100000 in
set_option maxHeartbeats 4000000 in
theorem kX10_deadlocked_L28 {K : Int32 → AH → Prop} {c64 : Nat → Int32 → Int32 → AH → Prop} (hc64 : ∀ x0 x1 x2 h, c64 x0 x1 x2 h → X mX10_deadlocked 6 (KI K) T0 0 0 64 [(0, .ref x0), (1, .int x1), (2, .int x2)] [] h)  : ∀ (n : Nat) (x0 : Nat) (x1 : Int32) (x2 : Int32) (x3 : Int32) (h : AH), wX10_deadlocked_L28 K c64  n x0 x1 x2 x3 h → X mX10_deadlocked 6 (KI K) T0 0 0 28 [(0, .ref x0), (1, .int x1), (2, .int x2), (3, .int x3)] [] h := by
  intro n
  induction n with
  | zero => intro _ _ _ _ _ w; exact w.elim
  | succ n ih =>
    intro x0 x1 x2 x3 h w
    rw [wX10_deadlocked_L28] at w
    refine X_iload_n (j := 3) (show decode cX10_deadlocked 28 = .ok (.iload_n 3, 1) by decide +kernel) rfl rfl ?_
    refine X_iload_n (j := 1) (show decode cX10_deadlocked 29 = .ok (.iload_n 1, 1) by decide +kernel) rfl rfl ?_
    refine X_icmp_ge (tgt := 64) (show decode cX10_deadlocked 30 = .ok (.if_icmp .ge 34, 3) by decide +kernel) (by decide) ⟨fun c13 => ?_, fun c13 => ?_⟩
    · have w := w.1 c13
      refine X_pick (ls' := [(0, .ref _), (1, .int _), (2, .int _)]) [0, 1, 2] rfl ?_
      exact hc64 _ _ _ _ w
    · have w := w.2 c13
      refine X_aload_n (j := 0) (show decode cX10_deadlocked 33 = .ok (.aload_n 0, 1) by decide +kernel) rfl rfl ?_
      obtain ⟨s14, w⟩ := w
      refine X_getR fl_X10_40 (show decode cX10_deadlocked 34 = .ok (.getfield 40, 3) by decide +kernel) s14 ?_
      refine X_iload_n (j := 2) (show decode cX10_deadlocked 37 = .ok (.iload_n 2, 1) by decide +kernel) rfl rfl ?_
      refine X_dup2 (show decode cX10_deadlocked 38 = .ok (.dup2, 1) by decide +kernel) rfl rfl ?_
      obtain ⟨s15, w⟩ := w
      obtain ⟨s16, w⟩ := w
      refine X_iald (show decode cX10_deadlocked 39 = .ok (.iaload, 1) by decide +kernel) (isA_eq s15) s16 ?_
      refine X_aload_n (j := 0) (show decode cX10_deadlocked 40 = .ok (.aload_n 0, 1) by decide +kernel) rfl rfl ?_
      refine X_iload_n (j := 2) (show decode cX10_deadlocked 41 = .ok (.iload_n 2, 1) by decide +kernel) rfl rfl ?_
      refine X_iload_n (j := 3) (show decode cX10_deadlocked 42 = .ok (.iload_n 3, 1) by decide +kernel) rfl rfl ?_
      refine X_vI (rc' := 0) (rs' := 0) (as := [.int _, .int _]) mv_X10_218 (show decode cX10_deadlocked 43 = .ok (.invokevirtual 218, 3) by decide +kernel) (by decide) (Nat.le_of_ble_eq_true rfl) (Nat.le_of_ble_eq_true rfl) rfl rfl (Nat.le_of_ble_eq_true rfl) (rcvD s14 (by decide) rfl) (kX10_isWaiting w) (fun E h hk => hk.elim) (fun r18 h17 w => ?_)
      refine X_if_eq (tgt := 55) (show decode cX10_deadlocked 46 = .ok (.ifCond .eq 9, 3) by decide +kernel) (by decide) ⟨fun c19 => ?_, fun c19 => ?_⟩
      · have w := w.1 c19
        refine X_iconst (v := (nI 0)) (show decode cX10_deadlocked 55 = .ok (.iconst 0, 1) by decide +kernel) (by decide) ?_
        exact kX10_deadlocked_J56 ih _ _ _ _ _ _ _ _ _ w
      · have w := w.2 c19
        refine X_iconst (v := (nI 1)) (show decode cX10_deadlocked 49 = .ok (.iconst 1, 1) by decide +kernel) (by decide) ?_
        refine X_iload_n (j := 3) (show decode cX10_deadlocked 50 = .ok (.iload_n 3, 1) by decide +kernel) rfl rfl ?_
        refine X_ishl (show decode cX10_deadlocked 51 = .ok (.ishl, 1) by decide +kernel) ?_
        refine X_goto (tgt := 56) (show decode cX10_deadlocked 52 = .ok (.goto 4, 3) by decide +kernel) (by decide) ?_
        exact kX10_deadlocked_J56 ih _ _ _ _ _ _ _ _ _ w
set_option maxRecDepth 100000 in
set_option maxHeartbeats 4000000 in
theorem kX10_deadlocked_L14 {K : Int32 → AH → Prop} {c70 : Nat → Int32 → AH → Prop} (hc70 : ∀ x0 x1 h, c70 x0 x1 h → X mX10_deadlocked 6 (KI K) T0 0 0 70 [(0, .ref x0), (1, .int x1)] [] h)  : ∀ (n : Nat) (x0 : Nat) (x1 : Int32) (x2 : Int32) (h : AH), wX10_deadlocked_L14 K c70  n x0 x1 x2 h → X mX10_deadlocked 6 (KI K) T0 0 0 14 [(0, .ref x0), (1, .int x1), (2, .int x2)] [] h := by
  intro n
  induction n with
  | zero => intro _ _ _ _ w; exact w.elim
  | succ n ih =>
    intro x0 x1 x2 h w
    rw [wX10_deadlocked_L14] at w
    refine X_iload_n (j := 2) (show decode cX10_deadlocked 14 = .ok (.iload_n 2, 1) by decide +kernel) rfl rfl ?_
    refine X_iload_n (j := 1) (show decode cX10_deadlocked 15 = .ok (.iload_n 1, 1) by decide +kernel) rfl rfl ?_
    refine X_icmp_ge (tgt := 70) (show decode cX10_deadlocked 16 = .ok (.if_icmp .ge 54, 3) by decide +kernel) (by decide) ⟨fun c7 => ?_, fun c7 => ?_⟩
    · have w := w.1 c7
      refine X_pick (ls' := [(0, .ref _), (1, .int _)]) [0, 1] rfl ?_
      exact hc70 _ _ _ w
    · have w := w.2 c7
      refine X_aload_n (j := 0) (show decode cX10_deadlocked 19 = .ok (.aload_n 0, 1) by decide +kernel) rfl rfl ?_
      obtain ⟨s8, w⟩ := w
      refine X_getR fl_X10_40 (show decode cX10_deadlocked 20 = .ok (.getfield 40, 3) by decide +kernel) s8 ?_
      refine X_iload_n (j := 2) (show decode cX10_deadlocked 23 = .ok (.iload_n 2, 1) by decide +kernel) rfl rfl ?_
      refine X_iconst (v := (nI 0)) (show decode cX10_deadlocked 24 = .ok (.iconst 0, 1) by decide +kernel) (by decide) ?_
      obtain ⟨s9, w⟩ := w
      obtain ⟨s10, w⟩ := w
      obtain ⟨s11, w⟩ := w
      refine X_iast (show decode cX10_deadlocked 25 = .ok (.iastore, 1) by decide +kernel) (isA_eq s9) s10 s11 ?_
      have w := w _ rfl
      refine X_iconst (v := (nI 0)) (show decode cX10_deadlocked 26 = .ok (.iconst 0, 1) by decide +kernel) (by decide) ?_
      refine X_istore_n (ls' := [(0, .ref _), (1, .int _), (2, .int _), (3, .int _)]) (show decode cX10_deadlocked 27 = .ok (.istore_n 3, 1) by decide +kernel) rfl (by decide) rfl ?_
      obtain ⟨n28, w⟩ := w
      refine kX10_deadlocked_L28 ?_ n28 _ _ _ _ _ w
      · intro x0_24 x1_25 x2_26 h27 w
        refine X_iinc (j := 2) (v := _ + (nI 1)) (ls' := [(0, .ref _), (1, .int _), (2, .int _)]) (show decode cX10_deadlocked 64 = .ok (.iinc 2 1, 3) by decide +kernel) rfl rfl (Nat.le_of_ble_eq_true rfl) rfl ?_
        refine X_goto (tgt := 14) (show decode cX10_deadlocked 67 = .ok (.goto (-53), 3) by decide +kernel) (by decide) ?_
        exact ih _ _ _ _ w
set_option maxRecDepth 100000 in
set_option maxHeartbeats 4000000 in
theorem kX10_deadlocked_J115 {K : Int32 → AH → Prop} {c79 : Nat → Int32 → Int32 → Int32 → AH → Prop} (hc79 : ∀ x0 x1 x2 x3 h, c79 x0 x1 x2 x3 h → X mX10_deadlocked 6 (KI K) T0 0 0 79 [(0, .ref x0), (1, .int x1), (2, .int x2), (3, .int x3)] [] h) (x0 : Nat) (x1 : Int32) (x2 : Int32) (x3 : Int32) (y0 : Nat) (y1 : Int32) (y2 : Int32) (y3 : Int32) (h : AH) (w : wX10_deadlocked_J115 K c79 x0 x1 x2 x3 y0 y1 y2 y3 h) : X mX10_deadlocked 6 (KI K) T0 0 0 115 [(0, .ref x0), (1, .int x1), (2, .int x2), (3, .int x3)] [.int y3, .int y2, .int y1, .ref y0] h := by
  unfold wX10_deadlocked_J115 at w
  refine X_ior (show decode cX10_deadlocked 115 = .ok (.ior, 1) by decide +kernel) ?_
  obtain ⟨s38, w⟩ := w
  obtain ⟨s39, w⟩ := w
  obtain ⟨s40, w⟩ := w
  refine X_iast (show decode cX10_deadlocked 116 = .ok (.iastore, 1) by decide +kernel) (isA_eq s38) s39 s40 ?_
  have w := w _ rfl
  refine X_iinc (j := 3) (v := _ + (nI 1)) (ls' := [(0, .ref _), (1, .int _), (2, .int _), (3, .int _)]) (show decode cX10_deadlocked 117 = .ok (.iinc 3 1, 3) by decide +kernel) rfl rfl (Nat.le_of_ble_eq_true rfl) rfl ?_
  refine X_goto (tgt := 79) (show decode cX10_deadlocked 120 = .ok (.goto (-41), 3) by decide +kernel) (by decide) ?_
  exact hc79 _ _ _ _ _ w
set_option maxRecDepth 100000 in
set_option maxHeartbeats 4000000 in
theorem kX10_deadlocked_L79 {K : Int32 → AH → Prop} {c123 : Nat → Int32 → Int32 → AH → Prop} (hc123 : ∀ x0 x1 x2 h, c123 x0 x1 x2 h → X mX10_deadlocked 6 (KI K) T0 0 0 123 [(0, .ref x0), (1, .int x1), (2, .int x2)] [] h)  : ∀ (n : Nat) (x0 : Nat) (x1 : Int32) (x2 : Int32) (x3 : Int32) (h : AH), wX10_deadlocked_L79 K c123  n x0 x1 x2 x3 h → X mX10_deadlocked 6 (KI K) T0 0 0 79 [(0, .ref x0), (1, .int x1), (2, .int x2), (3, .int x3)] [] h := by
  intro n
  induction n with
  | zero => intro _ _ _ _ _ w; exact w.elim
  | succ n ih =>
    intro x0 x1 x2 x3 h w
    rw [wX10_deadlocked_L79] at w
    refine X_iload_n (j := 3) (show decode cX10_deadlocked 79 = .ok (.iload_n 3, 1) by decide +kernel) rfl rfl ?_
    refine X_iload_n (j := 1) (show decode cX10_deadlocked 80 = .ok (.iload_n 1, 1) by decide +kernel) rfl rfl ?_
    refine X_icmp_ge (tgt := 123) (show decode cX10_deadlocked 81 = .ok (.if_icmp .ge 42, 3) by decide +kernel) (by decide) ⟨fun c33 => ?_, fun c33 => ?_⟩
    · have w := w.1 c33
      refine X_pick (ls' := [(0, .ref _), (1, .int _), (2, .int _)]) [0, 1, 2] rfl ?_
      exact hc123 _ _ _ _ w
    · have w := w.2 c33
      refine X_aload_n (j := 0) (show decode cX10_deadlocked 84 = .ok (.aload_n 0, 1) by decide +kernel) rfl rfl ?_
      obtain ⟨s34, w⟩ := w
      refine X_getR fl_X10_40 (show decode cX10_deadlocked 85 = .ok (.getfield 40, 3) by decide +kernel) s34 ?_
      refine X_iload_n (j := 3) (show decode cX10_deadlocked 88 = .ok (.iload_n 3, 1) by decide +kernel) rfl rfl ?_
      refine X_dup2 (show decode cX10_deadlocked 89 = .ok (.dup2, 1) by decide +kernel) rfl rfl ?_
      obtain ⟨s35, w⟩ := w
      obtain ⟨s36, w⟩ := w
      refine X_iald (show decode cX10_deadlocked 90 = .ok (.iaload, 1) by decide +kernel) (isA_eq s35) s36 ?_
      refine X_aload_n (j := 0) (show decode cX10_deadlocked 91 = .ok (.aload_n 0, 1) by decide +kernel) rfl rfl ?_
      refine X_getR fl_X10_40 (show decode cX10_deadlocked 92 = .ok (.getfield 40, 3) by decide +kernel) s34 ?_
      refine X_iload_n (j := 3) (show decode cX10_deadlocked 95 = .ok (.iload_n 3, 1) by decide +kernel) rfl rfl ?_
      refine X_iald (show decode cX10_deadlocked 96 = .ok (.iaload, 1) by decide +kernel) (isA_eq s35) s36 ?_
      refine X_iload_n (j := 2) (show decode cX10_deadlocked 97 = .ok (.iload_n 2, 1) by decide +kernel) rfl rfl ?_
      refine X_ishr (show decode cX10_deadlocked 98 = .ok (.ishr, 1) by decide +kernel) ?_
      refine X_iconst (v := (nI 1)) (show decode cX10_deadlocked 99 = .ok (.iconst 1, 1) by decide +kernel) (by decide) ?_
      refine X_iand (show decode cX10_deadlocked 100 = .ok (.iand, 1) by decide +kernel) ?_
      refine X_iconst (v := (nI 1)) (show decode cX10_deadlocked 101 = .ok (.iconst 1, 1) by decide +kernel) (by decide) ?_
      refine X_icmp_ne (tgt := 114) (show decode cX10_deadlocked 102 = .ok (.if_icmp .ne 12, 3) by decide +kernel) (by decide) ⟨fun c37 => ?_, fun c37 => ?_⟩
      · have w := w.1 c37
        refine X_iconst (v := (nI 0)) (show decode cX10_deadlocked 114 = .ok (.iconst 0, 1) by decide +kernel) (by decide) ?_
        exact kX10_deadlocked_J115 ih _ _ _ _ _ _ _ _ _ w
      · have w := w.2 c37
        refine X_aload_n (j := 0) (show decode cX10_deadlocked 105 = .ok (.aload_n 0, 1) by decide +kernel) rfl rfl ?_
        refine X_getR fl_X10_40 (show decode cX10_deadlocked 106 = .ok (.getfield 40, 3) by decide +kernel) s34 ?_
        refine X_iload_n (j := 2) (show decode cX10_deadlocked 109 = .ok (.iload_n 2, 1) by decide +kernel) rfl rfl ?_
        obtain ⟨s42, w⟩ := w
        refine X_iald (show decode cX10_deadlocked 110 = .ok (.iaload, 1) by decide +kernel) (isA_eq s35) s42 ?_
        refine X_goto (tgt := 115) (show decode cX10_deadlocked 111 = .ok (.goto 4, 3) by decide +kernel) (by decide) ?_
        exact kX10_deadlocked_J115 ih _ _ _ _ _ _ _ _ _ w
set_option maxRecDepth 100000 in
set_option maxHeartbeats 4000000 in
theorem kX10_deadlocked_L72 {K : Int32 → AH → Prop} {c129 : Nat → Int32 → AH → Prop} (hc129 : ∀ x0 x1 h, c129 x0 x1 h → X mX10_deadlocked 6 (KI K) T0 0 0 129 [(0, .ref x0), (1, .int x1)] [] h)  : ∀ (n : Nat) (x0 : Nat) (x1 : Int32) (x2 : Int32) (h : AH), wX10_deadlocked_L72 K c129  n x0 x1 x2 h → X mX10_deadlocked 6 (KI K) T0 0 0 72 [(0, .ref x0), (1, .int x1), (2, .int x2)] [] h := by
  intro n
  induction n with
  | zero => intro _ _ _ _ w; exact w.elim
  | succ n ih =>
    intro x0 x1 x2 h w
    rw [wX10_deadlocked_L72] at w
    refine X_iload_n (j := 2) (show decode cX10_deadlocked 72 = .ok (.iload_n 2, 1) by decide +kernel) rfl rfl ?_
    refine X_iload_n (j := 1) (show decode cX10_deadlocked 73 = .ok (.iload_n 1, 1) by decide +kernel) rfl rfl ?_
    refine X_icmp_ge (tgt := 129) (show decode cX10_deadlocked 74 = .ok (.if_icmp .ge 55, 3) by decide +kernel) (by decide) ⟨fun c32 => ?_, fun c32 => ?_⟩
    · have w := w.1 c32
      refine X_pick (ls' := [(0, .ref _), (1, .int _)]) [0, 1] rfl ?_
      exact hc129 _ _ _ w
    · have w := w.2 c32
      refine X_iconst (v := (nI 0)) (show decode cX10_deadlocked 77 = .ok (.iconst 0, 1) by decide +kernel) (by decide) ?_
      refine X_istore_n (ls' := [(0, .ref _), (1, .int _), (2, .int _), (3, .int _)]) (show decode cX10_deadlocked 78 = .ok (.istore_n 3, 1) by decide +kernel) rfl (by decide) rfl ?_
      obtain ⟨n47, w⟩ := w
      refine kX10_deadlocked_L79 ?_ n47 _ _ _ _ _ w
      · intro x0_43 x1_44 x2_45 h46 w
        refine X_iinc (j := 2) (v := _ + (nI 1)) (ls' := [(0, .ref _), (1, .int _), (2, .int _)]) (show decode cX10_deadlocked 123 = .ok (.iinc 2 1, 3) by decide +kernel) rfl rfl (Nat.le_of_ble_eq_true rfl) rfl ?_
        refine X_goto (tgt := 72) (show decode cX10_deadlocked 126 = .ok (.goto (-54), 3) by decide +kernel) (by decide) ?_
        exact ih _ _ _ _ w
set_option maxRecDepth 100000 in
set_option maxHeartbeats 4000000 in
theorem kX10_deadlocked_L133 {K : Int32 → AH → Prop}    : ∀ (n : Nat) (x0 : Nat) (x1 : Int32) (x2 : Int32) (x3 : Int32) (h : AH), wX10_deadlocked_L133 K   n x0 x1 x2 x3 h → X mX10_deadlocked 6 (KI K) T0 0 0 133 [(0, .ref x0), (1, .int x1), (2, .int x2), (3, .int x3)] [] h := by
  intro n
  induction n with
  | zero => intro _ _ _ _ _ w; exact w.elim
  | succ n ih =>
    intro x0 x1 x2 x3 h w
    rw [wX10_deadlocked_L133] at w
    refine X_iload_n (j := 3) (show decode cX10_deadlocked 133 = .ok (.iload_n 3, 1) by decide +kernel) rfl rfl ?_
    refine X_iload_n (j := 1) (show decode cX10_deadlocked 134 = .ok (.iload_n 1, 1) by decide +kernel) rfl rfl ?_
    refine X_icmp_ge (tgt := 157) (show decode cX10_deadlocked 135 = .ok (.if_icmp .ge 22, 3) by decide +kernel) (by decide) ⟨fun c51 => ?_, fun c51 => ?_⟩
    · have w := w.1 c51
      refine X_iload_n (j := 2) (show decode cX10_deadlocked 157 = .ok (.iload_n 2, 1) by decide +kernel) rfl rfl ?_
      exact X_iret ⟨(show decode cX10_deadlocked 158 = .ok (.ireturn, 1) by decide +kernel), .int, rfl, rfl⟩ ⟨_, rfl, w⟩
    · have w := w.2 c51
      refine X_iload_n (j := 2) (show decode cX10_deadlocked 138 = .ok (.iload_n 2, 1) by decide +kernel) rfl rfl ?_
      refine X_aload_n (j := 0) (show decode cX10_deadlocked 139 = .ok (.aload_n 0, 1) by decide +kernel) rfl rfl ?_
      obtain ⟨s52, w⟩ := w
      refine X_getR fl_X10_40 (show decode cX10_deadlocked 140 = .ok (.getfield 40, 3) by decide +kernel) s52 ?_
      refine X_iload_n (j := 3) (show decode cX10_deadlocked 143 = .ok (.iload_n 3, 1) by decide +kernel) rfl rfl ?_
      obtain ⟨s53, w⟩ := w
      obtain ⟨s54, w⟩ := w
      refine X_iald (show decode cX10_deadlocked 144 = .ok (.iaload, 1) by decide +kernel) (isA_eq s53) s54 ?_
      refine X_iload_n (j := 3) (show decode cX10_deadlocked 145 = .ok (.iload_n 3, 1) by decide +kernel) rfl rfl ?_
      refine X_ishr (show decode cX10_deadlocked 146 = .ok (.ishr, 1) by decide +kernel) ?_
      refine X_iconst (v := (nI 1)) (show decode cX10_deadlocked 147 = .ok (.iconst 1, 1) by decide +kernel) (by decide) ?_
      refine X_iand (show decode cX10_deadlocked 148 = .ok (.iand, 1) by decide +kernel) ?_
      refine X_iadd (show decode cX10_deadlocked 149 = .ok (.iadd, 1) by decide +kernel) ?_
      refine X_topi (fun v55 e56 => ?_)
      have w := w v55 e56
      refine X_istore_n (ls' := [(0, .ref _), (1, .int _), (2, .int _), (3, .int _)]) (show decode cX10_deadlocked 150 = .ok (.istore_n 2, 1) by decide +kernel) rfl (by decide) rfl ?_
      refine X_iinc (j := 3) (v := _ + (nI 1)) (ls' := [(0, .ref _), (1, .int _), (2, .int _), (3, .int _)]) (show decode cX10_deadlocked 151 = .ok (.iinc 3 1, 3) by decide +kernel) rfl rfl (Nat.le_of_ble_eq_true rfl) rfl ?_
      refine X_goto (tgt := 133) (show decode cX10_deadlocked 154 = .ok (.goto (-21), 3) by decide +kernel) (by decide) ?_
      exact ih _ _ _ _ _ w
set_option maxRecDepth 100000 in
set_option maxHeartbeats 4000000 in
theorem kX10_deadlocked {a0 : Nat} {h : AH} {K : Int32 → AH → Prop} (w : wX10_deadlocked a0 h K) : Cn mX10_deadlocked (cwd mX10_deadlocked) 6 0 0 [.ref a0] h (KI K) T0 := by
  refine Cn_of (by decide +kernel) rfl (Nat.le_of_ble_eq_true rfl) ?_
  show X mX10_deadlocked 6 (KI K) T0 0 0 0 [(0, .ref a0)] [] h
  unfold wX10_deadlocked at w
  refine X_aload_n (j := 0) (show decode cX10_deadlocked 0 = .ok (.aload_n 0, 1) by decide +kernel) rfl rfl ?_
  refine X_iconst (v := (nI 0)) (show decode cX10_deadlocked 1 = .ok (.iconst 0, 1) by decide +kernel) (by decide) ?_
  obtain ⟨s1, w⟩ := w
  refine X_putI fp_X10_56 (show decode cX10_deadlocked 2 = .ok (.putfield 56, 3) by decide +kernel) (fun z => nomatch z) s1 rfl rfl ?_
  have w := w _ rfl
  refine X_aload_n (j := 0) (show decode cX10_deadlocked 5 = .ok (.aload_n 0, 1) by decide +kernel) rfl rfl ?_
  refine X_getR fl_X10_7 (show decode cX10_deadlocked 6 = .ok (.getfield 7, 3) by decide +kernel) s1 ?_
  refine X_iconst (v := (nI 4)) (show decode cX10_deadlocked 9 = .ok (.iconst 4, 1) by decide +kernel) (by decide) ?_
  obtain ⟨s3, w⟩ := w
  obtain ⟨s4, w⟩ := w
  refine X_iald (show decode cX10_deadlocked 10 = .ok (.iaload, 1) by decide +kernel) (isA_eq s3) s4 ?_
  refine X_topi (fun v5 e6 => ?_)
  have w := w v5 e6
  refine X_istore_n (ls' := [(0, .ref _), (1, .int _)]) (show decode cX10_deadlocked 11 = .ok (.istore_n 1, 1) by decide +kernel) rfl (by decide) rfl ?_
  refine X_iconst (v := (nI 0)) (show decode cX10_deadlocked 12 = .ok (.iconst 0, 1) by decide +kernel) (by decide) ?_
  refine X_istore_n (ls' := [(0, .ref _), (1, .int _), (2, .int _)]) (show decode cX10_deadlocked 13 = .ok (.istore_n 2, 1) by decide +kernel) rfl (by decide) rfl ?_
  obtain ⟨n59, w⟩ := w
  refine kX10_deadlocked_L14 ?_ n59 _ _ _ _ w
  · intro x0_29 x1_30 h31 w
    refine X_iconst (v := (nI 0)) (show decode cX10_deadlocked 70 = .ok (.iconst 0, 1) by decide +kernel) (by decide) ?_
    refine X_istore_n (ls' := [(0, .ref _), (1, .int _), (2, .int _)]) (show decode cX10_deadlocked 71 = .ok (.istore_n 2, 1) by decide +kernel) rfl (by decide) rfl ?_
    obtain ⟨n58, w⟩ := w
    refine kX10_deadlocked_L72 ?_ n58 _ _ _ _ w
    · intro x0_48 x1_49 h50 w
      refine X_iconst (v := (nI 0)) (show decode cX10_deadlocked 129 = .ok (.iconst 0, 1) by decide +kernel) (by decide) ?_
      refine X_istore_n (ls' := [(0, .ref _), (1, .int _), (2, .int _)]) (show decode cX10_deadlocked 130 = .ok (.istore_n 2, 1) by decide +kernel) rfl (by decide) rfl ?_
      refine X_iconst (v := (nI 0)) (show decode cX10_deadlocked 131 = .ok (.iconst 0, 1) by decide +kernel) (by decide) ?_
      refine X_istore_n (ls' := [(0, .ref _), (1, .int _), (2, .int _), (3, .int _)]) (show decode cX10_deadlocked 132 = .ok (.istore_n 3, 1) by decide +kernel) rfl (by decide) rfl ?_
      obtain ⟨n57, w⟩ := w
      exact kX10_deadlocked_L133  n57 _ _ _ _ _ w
set_option maxRecDepth 100000 in
set_option maxHeartbeats 4000000 in
theorem kX10_deadlockedByPairs {a0 : Nat} {h : AH} {K : Int32 → AH → Prop} (w : wX10_deadlockedByPairs a0 h K) : Cn mX10_deadlockedByPairs (cwd mX10_deadlockedByPairs) 7 0 0 [.ref a0] h (KI K) T0 := by
  refine Cn_of (by decide +kernel) rfl (Nat.le_of_ble_eq_true rfl) ?_
  show X mX10_deadlockedByPairs 7 (KI K) T0 0 0 0 [(0, .ref a0)] [] h
  unfold wX10_deadlockedByPairs at w
  refine X_aload_n (j := 0) (show decode cX10_deadlockedByPairs 0 = .ok (.aload_n 0, 1) by decide +kernel) rfl rfl ?_
  obtain ⟨s3, w⟩ := w
  refine X_vI (rc' := 0) (rs' := 0) (as := []) mv_X10_221 (show decode cX10_deadlockedByPairs 1 = .ok (.invokevirtual 221, 3) by decide +kernel) (by decide) (Nat.le_of_ble_eq_true rfl) (Nat.le_of_ble_eq_true rfl) rfl rfl (Nat.le_of_ble_eq_true rfl) (rcvD s3 (by decide) rfl) (kX10_deadlocked w) (fun E h hk => hk.elim) (fun r2 h1 w => ?_)
  exact X_iret ⟨(show decode cX10_deadlockedByPairs 4 = .ok (.ireturn, 1) by decide +kernel), .int, rfl, rfl⟩ ⟨_, rfl, w⟩
set_option maxRecDepth 100000 in
set_option maxHeartbeats 4000000 in
theorem kX10_wayOf_L22 {K : Int32 → AH → Prop}    : ∀ (n : Nat) (x0 : Nat) (x2 : Int32) (x4 : Int32) (h : AH), wX10_wayOf_L22 K   n x0 x2 x4 h → X mX10_wayOf 5 (KI K) T0 0 0 22 [(0, .ref x0), (2, .int x2), (4, .int x4)] [] h := by
  intro n
  induction n with
  | zero => intro _ _ _ _ w; exact w.elim
  | succ n ih =>
    intro x0 x2 x4 h w
    rw [wX10_wayOf_L22] at w
    refine X_iload (j := 2) (show decode cX10_wayOf 22 = .ok (.iload 4, 2) by decide +kernel) rfl ?_
    refine X_aload_n (j := 0) (show decode cX10_wayOf 24 = .ok (.aload_n 0, 1) by decide +kernel) rfl rfl ?_
    obtain ⟨s7, w⟩ := w
    refine X_getI fl_X10_93 (show decode cX10_wayOf 25 = .ok (.getfield 93, 3) by decide +kernel) s7 ?_
    refine X_icmp_ge (tgt := 49) (show decode cX10_wayOf 28 = .ok (.if_icmp .ge 21, 3) by decide +kernel) (by decide) ⟨fun c8 => ?_, fun c8 => ?_⟩
    · have w := w.1 c8
      refine X_iload_n (j := 1) (show decode cX10_wayOf 49 = .ok (.iload_n 2, 1) by decide +kernel) rfl rfl ?_
      exact X_iret ⟨(show decode cX10_wayOf 50 = .ok (.ireturn, 1) by decide +kernel), .int, rfl, rfl⟩ ⟨_, rfl, w⟩
    · have w := w.2 c8
      refine X_iload_n (j := 1) (show decode cX10_wayOf 31 = .ok (.iload_n 2, 1) by decide +kernel) rfl rfl ?_
      refine X_iconst (v := (nI 1)) (show decode cX10_wayOf 32 = .ok (.iconst 1, 1) by decide +kernel) (by decide) ?_
      refine X_aload_n (j := 0) (show decode cX10_wayOf 33 = .ok (.aload_n 0, 1) by decide +kernel) rfl rfl ?_
      refine X_getR fl_X10_37 (show decode cX10_wayOf 34 = .ok (.getfield 37, 3) by decide +kernel) s7 ?_
      refine X_iload (j := 2) (show decode cX10_wayOf 37 = .ok (.iload 4, 2) by decide +kernel) rfl ?_
      obtain ⟨s9, w⟩ := w
      obtain ⟨s10, w⟩ := w
      refine X_iald (show decode cX10_wayOf 39 = .ok (.iaload, 1) by decide +kernel) (isA_eq s9) s10 ?_
      refine X_ishl (show decode cX10_wayOf 40 = .ok (.ishl, 1) by decide +kernel) ?_
      refine X_ior (show decode cX10_wayOf 41 = .ok (.ior, 1) by decide +kernel) ?_
      refine X_topi (fun v11 e12 => ?_)
      have w := w v11 e12
      refine X_istore_n (ls' := [(0, .ref _), (2, .int _), (4, .int _)]) (show decode cX10_wayOf 42 = .ok (.istore_n 2, 1) by decide +kernel) rfl (by decide) rfl ?_
      refine X_iinc (j := 2) (v := _ + (nI 1)) (ls' := [(0, .ref _), (2, .int _), (4, .int _)]) (show decode cX10_wayOf 43 = .ok (.iinc 4 1, 3) by decide +kernel) rfl rfl (Nat.le_of_ble_eq_true rfl) rfl ?_
      refine X_goto (tgt := 22) (show decode cX10_wayOf 46 = .ok (.goto (-24), 3) by decide +kernel) (by decide) ?_
      exact ih _ _ _ _ w
set_option maxRecDepth 100000 in
set_option maxHeartbeats 4000000 in
theorem kX10_wayOf {a0 : Nat} {a1 : Int32} {h : AH} {K : Int32 → AH → Prop} (w : wX10_wayOf a0 a1 h K) : Cn mX10_wayOf (cwd mX10_wayOf) 5 0 0 [.ref a0, .int a1] h (KI K) T0 := by
  refine Cn_of (by decide +kernel) rfl (Nat.le_of_ble_eq_true rfl) ?_
  show X mX10_wayOf 5 (KI K) T0 0 0 0 [(0, .ref a0), (1, .int a1)] [] h
  unfold wX10_wayOf at w
  refine X_iconst (v := (nI 0)) (show decode cX10_wayOf 0 = .ok (.iconst 0, 1) by decide +kernel) (by decide) ?_
  refine X_istore_n (ls' := [(0, .ref _), (1, .int _), (2, .int _)]) (show decode cX10_wayOf 1 = .ok (.istore_n 2, 1) by decide +kernel) rfl (by decide) rfl ?_
  refine X_aload_n (j := 0) (show decode cX10_wayOf 2 = .ok (.aload_n 0, 1) by decide +kernel) rfl rfl ?_
  refine X_aload_n (j := 0) (show decode cX10_wayOf 3 = .ok (.aload_n 0, 1) by decide +kernel) rfl rfl ?_
  refine X_iload_n (j := 1) (show decode cX10_wayOf 4 = .ok (.iload_n 1, 1) by decide +kernel) rfl rfl ?_
  refine X_iconst (v := (nI 1)) (show decode cX10_wayOf 5 = .ok (.iconst 1, 1) by decide +kernel) (by decide) ?_
  obtain ⟨s16, w⟩ := w
  refine X_vI (rc' := 0) (rs' := 0) (as := [.int _, .int _]) mv_X10_76 (show decode cX10_wayOf 6 = .ok (.invokevirtual 76, 3) by decide +kernel) (by decide) (Nat.le_of_ble_eq_true rfl) (Nat.le_of_ble_eq_true rfl) rfl rfl (Nat.le_of_ble_eq_true rfl) (rcvD s16 (by decide) rfl) (kX10_train w) (fun E h hk => hk.elim) (fun r2 h1 w => ?_)
  refine X_aload_n (j := 0) (show decode cX10_wayOf 9 = .ok (.aload_n 0, 1) by decide +kernel) rfl rfl ?_
  refine X_iload_n (j := 1) (show decode cX10_wayOf 10 = .ok (.iload_n 1, 1) by decide +kernel) rfl rfl ?_
  refine X_iconst (v := (nI 2)) (show decode cX10_wayOf 11 = .ok (.iconst 2, 1) by decide +kernel) (by decide) ?_
  obtain ⟨s15, w⟩ := w
  refine X_vI (rc' := 0) (rs' := 0) (as := [.int _, .int _]) mv_X10_76 (show decode cX10_wayOf 12 = .ok (.invokevirtual 76, 3) by decide +kernel) (by decide) (Nat.le_of_ble_eq_true rfl) (Nat.le_of_ble_eq_true rfl) rfl rfl (Nat.le_of_ble_eq_true rfl) (rcvD s15 (by decide) rfl) (kX10_train w) (fun E h hk => hk.elim) (fun r4 h3 w => ?_)
  obtain ⟨s14, w⟩ := w
  refine X_vI (rc' := 0) (rs' := 0) (as := [.int _, .int _]) mv_X10_100 (show decode cX10_wayOf 15 = .ok (.invokevirtual 100, 3) by decide +kernel) (by decide) (Nat.le_of_ble_eq_true rfl) (Nat.le_of_ble_eq_true rfl) rfl rfl (Nat.le_of_ble_eq_true rfl) (rcvD s14 (by decide) rfl) (kX10_leads w) (fun E h hk => hk.elim) (fun r6 h5 w => ?_)
  refine X_istore_n (ls' := [(0, .ref _), (1, .int _), (2, .int _), (3, .int _)]) (show decode cX10_wayOf 18 = .ok (.istore_n 3, 1) by decide +kernel) rfl (by decide) rfl ?_
  refine X_iconst (v := (nI 1)) (show decode cX10_wayOf 19 = .ok (.iconst 1, 1) by decide +kernel) (by decide) ?_
  refine X_istore (ls' := [(0, .ref _), (1, .int _), (2, .int _), (3, .int _), (4, .int _)]) (show decode cX10_wayOf 20 = .ok (.istore 4, 2) by decide +kernel) (by decide) rfl ?_
  refine X_pick (ls' := [(0, .ref _), (2, .int _), (4, .int _)]) [0, 2, 4] rfl ?_
  obtain ⟨n13, w⟩ := w
  exact kX10_wayOf_L22  n13 _ _ _ _ w
set_option maxRecDepth 100000 in
set_option maxHeartbeats 4000000 in
theorem kX10_conflict_J40 {K : Int32 → AH → Prop}   (x0 : Nat) (x3 : Int32) (x4 : Int32) (y0 : Nat) (y1 : Int32) (h : AH) (w : wX10_conflict_J40 K  x0 x3 x4 y0 y1 h) : X mX10_conflict 6 (KI K) T0 0 0 40 [(0, .ref x0), (3, .int x3), (4, .int x4)] [.int y1, .ref y0] h := by
  unfold wX10_conflict_J40 at w
  obtain ⟨s6, w⟩ := w
  refine X_putI fp_X10_56 (show decode cX10_conflict 40 = .ok (.putfield 56, 3) by decide +kernel) (fun z => nomatch z) s6 rfl rfl ?_
  have w := w _ rfl
  refine X_aload_n (j := 0) (show decode cX10_conflict 43 = .ok (.aload_n 0, 1) by decide +kernel) rfl rfl ?_
  obtain ⟨s8, w⟩ := w
  refine X_getI fl_X10_56 (show decode cX10_conflict 44 = .ok (.getfield 56, 3) by decide +kernel) s8 ?_
  refine X_if_ne (tgt := 69) (show decode cX10_conflict 47 = .ok (.ifCond .ne 22, 3) by decide +kernel) (by decide) ⟨fun c9 => ?_, fun c9 => ?_⟩
  · have w := w.1 c9
    refine X_iconst (v := (nI 0)) (show decode cX10_conflict 69 = .ok (.iconst 0, 1) by decide +kernel) (by decide) ?_
    exact X_iret ⟨(show decode cX10_conflict 70 = .ok (.ireturn, 1) by decide +kernel), .boolean, rfl, (by decide)⟩ ⟨_, rfl, w⟩
  · have w := w.2 c9
    refine X_aload_n (j := 0) (show decode cX10_conflict 50 = .ok (.aload_n 0, 1) by decide +kernel) rfl rfl ?_
    refine X_iload_n (j := 1) (show decode cX10_conflict 51 = .ok (.iload_n 3, 1) by decide +kernel) rfl rfl ?_
    refine X_vI (rc' := 0) (rs' := 0) (as := [.int _]) mv_X10_224 (show decode cX10_conflict 52 = .ok (.invokevirtual 224, 3) by decide +kernel) (by decide) (Nat.le_of_ble_eq_true rfl) (Nat.le_of_ble_eq_true rfl) rfl rfl (Nat.le_of_ble_eq_true rfl) (rcvD s8 (by decide) rfl) (kX10_wayOf w) (fun E h hk => hk.elim) (fun r11 h10 w => ?_)
    refine X_aload_n (j := 0) (show decode cX10_conflict 55 = .ok (.aload_n 0, 1) by decide +kernel) rfl rfl ?_
    refine X_iload (j := 2) (show decode cX10_conflict 56 = .ok (.iload 4, 2) by decide +kernel) rfl ?_
    obtain ⟨s15, w⟩ := w
    refine X_vI (rc' := 0) (rs' := 0) (as := [.int _]) mv_X10_224 (show decode cX10_conflict 58 = .ok (.invokevirtual 224, 3) by decide +kernel) (by decide) (Nat.le_of_ble_eq_true rfl) (Nat.le_of_ble_eq_true rfl) rfl rfl (Nat.le_of_ble_eq_true rfl) (rcvD s15 (by decide) rfl) (kX10_wayOf w) (fun E h hk => hk.elim) (fun r13 h12 w => ?_)
    refine X_iand (show decode cX10_conflict 61 = .ok (.iand, 1) by decide +kernel) ?_
    refine X_if_eq (tgt := 69) (show decode cX10_conflict 62 = .ok (.ifCond .eq 7, 3) by decide +kernel) (by decide) ⟨fun c14 => ?_, fun c14 => ?_⟩
    · have w := w.1 c14
      refine X_iconst (v := (nI 0)) (show decode cX10_conflict 69 = .ok (.iconst 0, 1) by decide +kernel) (by decide) ?_
      exact X_iret ⟨(show decode cX10_conflict 70 = .ok (.ireturn, 1) by decide +kernel), .boolean, rfl, (by decide)⟩ ⟨_, rfl, w⟩
    · have w := w.2 c14
      refine X_iconst (v := (nI 1)) (show decode cX10_conflict 65 = .ok (.iconst 1, 1) by decide +kernel) (by decide) ?_
      refine X_goto (tgt := 70) (show decode cX10_conflict 66 = .ok (.goto 4, 3) by decide +kernel) (by decide) ?_
      exact X_iret ⟨(show decode cX10_conflict 70 = .ok (.ireturn, 1) by decide +kernel), .boolean, rfl, (by decide)⟩ ⟨_, rfl, w⟩
set_option maxRecDepth 100000 in
set_option maxHeartbeats 4000000 in
theorem kX10_conflict_J25 {K : Int32 → AH → Prop}   (x0 : Nat) (x3 : Int32) (x4 : Int32) (y0 : Nat) (h : AH) (w : wX10_conflict_J25 K  x0 x3 x4 y0 h) : X mX10_conflict 6 (KI K) T0 0 0 25 [(0, .ref x0), (3, .int x3), (4, .int x4)] [.ref y0] h := by
  unfold wX10_conflict_J25 at w
  refine X_iconst (v := (nI 1)) (show decode cX10_conflict 25 = .ok (.iconst 1, 1) by decide +kernel) (by decide) ?_
  refine X_goto (tgt := 40) (show decode cX10_conflict 26 = .ok (.goto 14, 3) by decide +kernel) (by decide) ?_
  exact kX10_conflict_J40  _ _ _ _ _ _ w
set_option maxRecDepth 100000 in
set_option maxHeartbeats 4000000 in
theorem kX10_conflict {a0 : Nat} {a1 : Int32} {a2 : Int32} {h : AH} {K : Int32 → AH → Prop} (w : wX10_conflict a0 a1 a2 h K) : Cn mX10_conflict (cwd mX10_conflict) 6 0 0 [.ref a0, .int a1, .int a2] h (KI K) T0 := by
  refine Cn_of (by decide +kernel) rfl (Nat.le_of_ble_eq_true rfl) ?_
  show X mX10_conflict 6 (KI K) T0 0 0 0 [(0, .ref a0), (1, .int a1), (2, .int a2)] [] h
  unfold wX10_conflict at w
  refine X_aload_n (j := 0) (show decode cX10_conflict 0 = .ok (.aload_n 0, 1) by decide +kernel) rfl rfl ?_
  refine X_iload_n (j := 1) (show decode cX10_conflict 1 = .ok (.iload_n 1, 1) by decide +kernel) rfl rfl ?_
  obtain ⟨s19, w⟩ := w
  refine X_vI (rc' := 0) (rs' := 0) (as := [.int _]) mv_X10_132 (show decode cX10_conflict 2 = .ok (.invokevirtual 132, 3) by decide +kernel) (by decide) (Nat.le_of_ble_eq_true rfl) (Nat.le_of_ble_eq_true rfl) rfl rfl (Nat.le_of_ble_eq_true rfl) (rcvD s19 (by decide) rfl) (kX10_placeOf w) (fun E h hk => hk.elim) (fun r2 h1 w => ?_)
  refine X_istore_n (ls' := [(0, .ref _), (1, .int _), (2, .int _), (3, .int _)]) (show decode cX10_conflict 5 = .ok (.istore_n 3, 1) by decide +kernel) rfl (by decide) rfl ?_
  refine X_aload_n (j := 0) (show decode cX10_conflict 6 = .ok (.aload_n 0, 1) by decide +kernel) rfl rfl ?_
  refine X_iload_n (j := 2) (show decode cX10_conflict 7 = .ok (.iload_n 2, 1) by decide +kernel) rfl rfl ?_
  obtain ⟨s18, w⟩ := w
  refine X_vI (rc' := 0) (rs' := 0) (as := [.int _]) mv_X10_132 (show decode cX10_conflict 8 = .ok (.invokevirtual 132, 3) by decide +kernel) (by decide) (Nat.le_of_ble_eq_true rfl) (Nat.le_of_ble_eq_true rfl) rfl rfl (Nat.le_of_ble_eq_true rfl) (rcvD s18 (by decide) rfl) (kX10_placeOf w) (fun E h hk => hk.elim) (fun r4 h3 w => ?_)
  refine X_istore (ls' := [(0, .ref _), (1, .int _), (2, .int _), (3, .int _), (4, .int _)]) (show decode cX10_conflict 11 = .ok (.istore 4, 2) by decide +kernel) (by decide) rfl ?_
  refine X_aload_n (j := 0) (show decode cX10_conflict 13 = .ok (.aload_n 0, 1) by decide +kernel) rfl rfl ?_
  refine X_iload_n (j := 3) (show decode cX10_conflict 14 = .ok (.iload_n 3, 1) by decide +kernel) rfl rfl ?_
  refine X_iconst (v := (-1)) (show decode cX10_conflict 15 = .ok (.iconst (-1), 1) by decide +kernel) (by decide) ?_
  refine X_icmp_eq (tgt := 25) (show decode cX10_conflict 16 = .ok (.if_icmp .eq 9, 3) by decide +kernel) (by decide) ⟨fun c5 => ?_, fun c5 => ?_⟩
  · have w := w.1 c5
    refine X_pick (ls' := [(0, .ref _), (3, .int _), (4, .int _)]) [0, 3, 4] rfl ?_
    exact kX10_conflict_J25  _ _ _ _ _ w
  · have w := w.2 c5
    refine X_iload (j := 4) (show decode cX10_conflict 19 = .ok (.iload 4, 2) by decide +kernel) rfl ?_
    refine X_iconst (v := (-1)) (show decode cX10_conflict 21 = .ok (.iconst (-1), 1) by decide +kernel) (by decide) ?_
    refine X_icmp_ne (tgt := 29) (show decode cX10_conflict 22 = .ok (.if_icmp .ne 7, 3) by decide +kernel) (by decide) ⟨fun c16 => ?_, fun c16 => ?_⟩
    · have w := w.1 c16
      refine X_iload_n (j := 3) (show decode cX10_conflict 29 = .ok (.iload_n 3, 1) by decide +kernel) rfl rfl ?_
      refine X_iload (j := 4) (show decode cX10_conflict 30 = .ok (.iload 4, 2) by decide +kernel) rfl ?_
      refine X_icmp_ne (tgt := 39) (show decode cX10_conflict 32 = .ok (.if_icmp .ne 7, 3) by decide +kernel) (by decide) ⟨fun c17 => ?_, fun c17 => ?_⟩
      · have w := w.1 c17
        refine X_iconst (v := (nI 0)) (show decode cX10_conflict 39 = .ok (.iconst 0, 1) by decide +kernel) (by decide) ?_
        refine X_pick (ls' := [(0, .ref _), (3, .int _), (4, .int _)]) [0, 3, 4] rfl ?_
        exact kX10_conflict_J40  _ _ _ _ _ _ w
      · have w := w.2 c17
        refine X_iconst (v := (nI 2)) (show decode cX10_conflict 35 = .ok (.iconst 2, 1) by decide +kernel) (by decide) ?_
        refine X_goto (tgt := 40) (show decode cX10_conflict 36 = .ok (.goto 4, 3) by decide +kernel) (by decide) ?_
        refine X_pick (ls' := [(0, .ref _), (3, .int _), (4, .int _)]) [0, 3, 4] rfl ?_
        exact kX10_conflict_J40  _ _ _ _ _ _ w
    · have w := w.2 c16
      refine X_pick (ls' := [(0, .ref _), (3, .int _), (4, .int _)]) [0, 3, 4] rfl ?_
      exact kX10_conflict_J25  _ _ _ _ _ w
set_option maxRecDepth 100000 in
set_option maxHeartbeats 4000000 in
theorem kX10_mostWithoutConflict_L14 {K : Int32 → AH → Prop} {c36 : Nat → Int32 → AH → Prop} (hc36 : ∀ x0 x1 h, c36 x0 x1 h → X mX10_mostWithoutConflict 6 (KI K) T0 0 0 36 [(0, .ref x0), (1, .int x1)] [] h)  : ∀ (n : Nat) (x0 : Nat) (x1 : Int32) (x2 : Int32) (h : AH), wX10_mostWithoutConflict_L14 K c36  n x0 x1 x2 h → X mX10_mostWithoutConflict 6 (KI K) T0 0 0 14 [(0, .ref x0), (1, .int x1), (2, .int x2)] [] h := by
  intro n
  induction n with
  | zero => intro _ _ _ _ w; exact w.elim
  | succ n ih =>
    intro x0 x1 x2 h w
    rw [wX10_mostWithoutConflict_L14] at w
    refine X_iload_n (j := 2) (show decode cX10_mostWithoutConflict 14 = .ok (.iload_n 2, 1) by decide +kernel) rfl rfl ?_
    refine X_iload_n (j := 1) (show decode cX10_mostWithoutConflict 15 = .ok (.iload_n 1, 1) by decide +kernel) rfl rfl ?_
    refine X_icmp_ge (tgt := 36) (show decode cX10_mostWithoutConflict 16 = .ok (.if_icmp .ge 20, 3) by decide +kernel) (by decide) ⟨fun c7 => ?_, fun c7 => ?_⟩
    · have w := w.1 c7
      refine X_pick (ls' := [(0, .ref _), (1, .int _)]) [0, 1] rfl ?_
      exact hc36 _ _ _ w
    · have w := w.2 c7
      refine X_aload_n (j := 0) (show decode cX10_mostWithoutConflict 19 = .ok (.aload_n 0, 1) by decide +kernel) rfl rfl ?_
      obtain ⟨s8, w⟩ := w
      refine X_getR fl_X10_43 (show decode cX10_mostWithoutConflict 20 = .ok (.getfield 43, 3) by decide +kernel) s8 ?_
      refine X_iload_n (j := 2) (show decode cX10_mostWithoutConflict 23 = .ok (.iload_n 2, 1) by decide +kernel) rfl rfl ?_
      refine X_aload_n (j := 0) (show decode cX10_mostWithoutConflict 24 = .ok (.aload_n 0, 1) by decide +kernel) rfl rfl ?_
      refine X_iload_n (j := 2) (show decode cX10_mostWithoutConflict 25 = .ok (.iload_n 2, 1) by decide +kernel) rfl rfl ?_
      refine X_vI (rc' := 0) (rs' := 0) (as := [.int _]) mv_X10_224 (show decode cX10_mostWithoutConflict 26 = .ok (.invokevirtual 224, 3) by decide +kernel) (by decide) (Nat.le_of_ble_eq_true rfl) (Nat.le_of_ble_eq_true rfl) rfl rfl (Nat.le_of_ble_eq_true rfl) (rcvD s8 (by decide) rfl) (kX10_wayOf w) (fun E h hk => hk.elim) (fun r10 h9 w => ?_)
      obtain ⟨s11, w⟩ := w
      obtain ⟨s12, w⟩ := w
      obtain ⟨s13, w⟩ := w
      refine X_iast (show decode cX10_mostWithoutConflict 29 = .ok (.iastore, 1) by decide +kernel) (isA_eq s11) s12 s13 ?_
      have w := w _ rfl
      refine X_iinc (j := 2) (v := _ + (nI 1)) (ls' := [(0, .ref _), (1, .int _), (2, .int _)]) (show decode cX10_mostWithoutConflict 30 = .ok (.iinc 2 1, 3) by decide +kernel) rfl rfl (Nat.le_of_ble_eq_true rfl) rfl ?_
      refine X_goto (tgt := 14) (show decode cX10_mostWithoutConflict 33 = .ok (.goto (-19), 3) by decide +kernel) (by decide) ?_
      exact ih _ _ _ _ w
set_option maxRecDepth 100000 in
set_option maxHeartbeats 4000000 in
theorem kX10_mostWithoutConflict_J100 {K : Int32 → AH → Prop} {c59 : Nat → Int32 → Int32 → Int32 → Int32 → Int32 → Int32 → Int32 → AH → Prop} (hc59 : ∀ x0 x1 x2 x3 x4 x5 x6 x7 h, c59 x0 x1 x2 x3 x4 x5 x6 x7 h → X mX10_mostWithoutConflict 6 (KI K) T0 0 0 59 [(0, .ref x0), (1, .int x1), (2, .int x2), (3, .int x3), (4, .int x4), (5, .int x5), (6, .int x6), (7, .int x7)] [] h) (x0 : Nat) (x1 : Int32) (x2 : Int32) (x3 : Int32) (x4 : Int32) (x5 : Int32) (x7 : Int32) (y0 : Int32) (h : AH) (w : wX10_mostWithoutConflict_J100 K c59 x0 x1 x2 x3 x4 x5 x7 y0 h) : X mX10_mostWithoutConflict 6 (KI K) T0 0 0 100 [(0, .ref x0), (1, .int x1), (2, .int x2), (3, .int x3), (4, .int x4), (5, .int x5), (7, .int x7)] [.int y0] h := by
  unfold wX10_mostWithoutConflict_J100 at w
  refine X_istore (ls' := [(0, .ref _), (1, .int _), (2, .int _), (3, .int _), (4, .int _), (5, .int _), (6, .int _), (7, .int _)]) (show decode cX10_mostWithoutConflict 100 = .ok (.istore 6, 2) by decide +kernel) (by decide) rfl ?_
  refine X_iload (j := 4) (show decode cX10_mostWithoutConflict 102 = .ok (.iload 4, 2) by decide +kernel) rfl ?_
  refine X_aload_n (j := 0) (show decode cX10_mostWithoutConflict 104 = .ok (.aload_n 0, 1) by decide +kernel) rfl rfl ?_
  obtain ⟨s26, w⟩ := w
  refine X_getR fl_X10_43 (show decode cX10_mostWithoutConflict 105 = .ok (.getfield 43, 3) by decide +kernel) s26 ?_
  refine X_iload (j := 7) (show decode cX10_mostWithoutConflict 108 = .ok (.iload 7, 2) by decide +kernel) rfl ?_
  obtain ⟨s27, w⟩ := w
  obtain ⟨s28, w⟩ := w
  refine X_iald (show decode cX10_mostWithoutConflict 110 = .ok (.iaload, 1) by decide +kernel) (isA_eq s27) s28 ?_
  refine X_ior (show decode cX10_mostWithoutConflict 111 = .ok (.ior, 1) by decide +kernel) ?_
  refine X_topi (fun v29 e30 => ?_)
  have w := w v29 e30
  refine X_istore (ls' := [(0, .ref _), (1, .int _), (2, .int _), (3, .int _), (4, .int _), (5, .int _), (6, .int _), (7, .int _)]) (show decode cX10_mostWithoutConflict 112 = .ok (.istore 4, 2) by decide +kernel) (by decide) rfl ?_
  refine X_iinc (j := 5) (v := _ + (nI 1)) (ls' := [(0, .ref _), (1, .int _), (2, .int _), (3, .int _), (4, .int _), (5, .int _), (6, .int _), (7, .int _)]) (show decode cX10_mostWithoutConflict 114 = .ok (.iinc 5 1, 3) by decide +kernel) rfl rfl (Nat.le_of_ble_eq_true rfl) rfl ?_
  refine X_iinc (j := 7) (v := _ + (nI 1)) (ls' := [(0, .ref _), (1, .int _), (2, .int _), (3, .int _), (4, .int _), (5, .int _), (6, .int _), (7, .int _)]) (show decode cX10_mostWithoutConflict 117 = .ok (.iinc 7 1, 3) by decide +kernel) rfl rfl (Nat.le_of_ble_eq_true rfl) rfl ?_
  refine X_goto (tgt := 59) (show decode cX10_mostWithoutConflict 120 = .ok (.goto (-61), 3) by decide +kernel) (by decide) ?_
  exact hc59 _ _ _ _ _ _ _ _ _ w
set_option maxRecDepth 100000 in
set_option maxHeartbeats 4000000 in
theorem kX10_mostWithoutConflict_L59 {K : Int32 → AH → Prop} {c123 : Nat → Int32 → Int32 → Int32 → Int32 → Int32 → AH → Prop} (hc123 : ∀ x0 x1 x2 x3 x5 x6 h, c123 x0 x1 x2 x3 x5 x6 h → X mX10_mostWithoutConflict 6 (KI K) T0 0 0 123 [(0, .ref x0), (1, .int x1), (2, .int x2), (3, .int x3), (5, .int x5), (6, .int x6)] [] h)  : ∀ (n : Nat) (x0 : Nat) (x1 : Int32) (x2 : Int32) (x3 : Int32) (x4 : Int32) (x5 : Int32) (x6 : Int32) (x7 : Int32) (h : AH), wX10_mostWithoutConflict_L59 K c123  n x0 x1 x2 x3 x4 x5 x6 x7 h → X mX10_mostWithoutConflict 6 (KI K) T0 0 0 59 [(0, .ref x0), (1, .int x1), (2, .int x2), (3, .int x3), (4, .int x4), (5, .int x5), (6, .int x6), (7, .int x7)] [] h := by
  intro n
  induction n with
  | zero => intro _ _ _ _ _ _ _ _ _ w; exact w.elim
  | succ n ih =>
    intro x0 x1 x2 x3 x4 x5 x6 x7 h w
    rw [wX10_mostWithoutConflict_L59] at w
    refine X_iload (j := 7) (show decode cX10_mostWithoutConflict 59 = .ok (.iload 7, 2) by decide +kernel) rfl ?_
    refine X_iload_n (j := 1) (show decode cX10_mostWithoutConflict 61 = .ok (.iload_n 1, 1) by decide +kernel) rfl rfl ?_
    refine X_icmp_ge (tgt := 123) (show decode cX10_mostWithoutConflict 62 = .ok (.if_icmp .ge 61, 3) by decide +kernel) (by decide) ⟨fun c19 => ?_, fun c19 => ?_⟩
    · have w := w.1 c19
      refine X_pick (ls' := [(0, .ref _), (1, .int _), (2, .int _), (3, .int _), (5, .int _), (6, .int _)]) [0, 1, 2, 3, 5, 6] rfl ?_
      exact hc123 _ _ _ _ _ _ _ w
    · have w := w.2 c19
      refine X_iload (j := 6) (show decode cX10_mostWithoutConflict 65 = .ok (.iload 6, 2) by decide +kernel) rfl ?_
      refine X_if_eq (tgt := 123) (show decode cX10_mostWithoutConflict 67 = .ok (.ifCond .eq 56, 3) by decide +kernel) (by decide) ⟨fun c20 => ?_, fun c20 => ?_⟩
      · have w := w.1 c20
        refine X_pick (ls' := [(0, .ref _), (1, .int _), (2, .int _), (3, .int _), (5, .int _), (6, .int _)]) [0, 1, 2, 3, 5, 6] rfl ?_
        exact hc123 _ _ _ _ _ _ _ w
      · have w := w.2 c20
        refine X_iload_n (j := 3) (show decode cX10_mostWithoutConflict 70 = .ok (.iload_n 3, 1) by decide +kernel) rfl rfl ?_
        refine X_iload (j := 7) (show decode cX10_mostWithoutConflict 71 = .ok (.iload 7, 2) by decide +kernel) rfl ?_
        refine X_ishr (show decode cX10_mostWithoutConflict 73 = .ok (.ishr, 1) by decide +kernel) ?_
        refine X_iconst (v := (nI 1)) (show decode cX10_mostWithoutConflict 74 = .ok (.iconst 1, 1) by decide +kernel) (by decide) ?_
        refine X_iand (show decode cX10_mostWithoutConflict 75 = .ok (.iand, 1) by decide +kernel) ?_
        refine X_if_ne (tgt := 82) (show decode cX10_mostWithoutConflict 76 = .ok (.ifCond .ne 6, 3) by decide +kernel) (by decide) ⟨fun c21 => ?_, fun c21 => ?_⟩
        · have w := w.1 c21
          refine X_iload (j := 4) (show decode cX10_mostWithoutConflict 82 = .ok (.iload 4, 2) by decide +kernel) rfl ?_
          refine X_aload_n (j := 0) (show decode cX10_mostWithoutConflict 84 = .ok (.aload_n 0, 1) by decide +kernel) rfl rfl ?_
          obtain ⟨s22, w⟩ := w
          refine X_getR fl_X10_43 (show decode cX10_mostWithoutConflict 85 = .ok (.getfield 43, 3) by decide +kernel) s22 ?_
          refine X_iload (j := 7) (show decode cX10_mostWithoutConflict 88 = .ok (.iload 7, 2) by decide +kernel) rfl ?_
          obtain ⟨s23, w⟩ := w
          obtain ⟨s24, w⟩ := w
          refine X_iald (show decode cX10_mostWithoutConflict 90 = .ok (.iaload, 1) by decide +kernel) (isA_eq s23) s24 ?_
          refine X_iand (show decode cX10_mostWithoutConflict 91 = .ok (.iand, 1) by decide +kernel) ?_
          refine X_if_ne (tgt := 99) (show decode cX10_mostWithoutConflict 92 = .ok (.ifCond .ne 7, 3) by decide +kernel) (by decide) ⟨fun c25 => ?_, fun c25 => ?_⟩
          · have w := w.1 c25
            refine X_iconst (v := (nI 0)) (show decode cX10_mostWithoutConflict 99 = .ok (.iconst 0, 1) by decide +kernel) (by decide) ?_
            refine X_pick (ls' := [(0, .ref _), (1, .int _), (2, .int _), (3, .int _), (4, .int _), (5, .int _), (7, .int _)]) [0, 1, 2, 3, 4, 5, 7] rfl ?_
            exact kX10_mostWithoutConflict_J100 ih _ _ _ _ _ _ _ _ _ w
          · have w := w.2 c25
            refine X_iconst (v := (nI 1)) (show decode cX10_mostWithoutConflict 95 = .ok (.iconst 1, 1) by decide +kernel) (by decide) ?_
            refine X_goto (tgt := 100) (show decode cX10_mostWithoutConflict 96 = .ok (.goto 4, 3) by decide +kernel) (by decide) ?_
            refine X_pick (ls' := [(0, .ref _), (1, .int _), (2, .int _), (3, .int _), (4, .int _), (5, .int _), (7, .int _)]) [0, 1, 2, 3, 4, 5, 7] rfl ?_
            exact kX10_mostWithoutConflict_J100 ih _ _ _ _ _ _ _ _ _ w
        · have w := w.2 c21
          refine X_goto (tgt := 117) (show decode cX10_mostWithoutConflict 79 = .ok (.goto 38, 3) by decide +kernel) (by decide) ?_
          refine X_iinc (j := 7) (v := _ + (nI 1)) (ls' := [(0, .ref _), (1, .int _), (2, .int _), (3, .int _), (4, .int _), (5, .int _), (6, .int _), (7, .int _)]) (show decode cX10_mostWithoutConflict 117 = .ok (.iinc 7 1, 3) by decide +kernel) rfl rfl (Nat.le_of_ble_eq_true rfl) rfl ?_
          refine X_goto (tgt := 59) (show decode cX10_mostWithoutConflict 120 = .ok (.goto (-61), 3) by decide +kernel) (by decide) ?_
          exact ih _ _ _ _ _ _ _ _ _ w
set_option maxRecDepth 100000 in
set_option maxHeartbeats 4000000 in
theorem kX10_mostWithoutConflict_L40 {K : Int32 → AH → Prop}    : ∀ (n : Nat) (x0 : Nat) (x1 : Int32) (x2 : Int32) (x3 : Int32) (h : AH), wX10_mostWithoutConflict_L40 K   n x0 x1 x2 x3 h → X mX10_mostWithoutConflict 6 (KI K) T0 0 0 40 [(0, .ref x0), (1, .int x1), (2, .int x2), (3, .int x3)] [] h := by
  intro n
  induction n with
  | zero => intro _ _ _ _ _ w; exact w.elim
  | succ n ih =>
    intro x0 x1 x2 x3 h w
    rw [wX10_mostWithoutConflict_L40] at w
    refine X_iload_n (j := 3) (show decode cX10_mostWithoutConflict 40 = .ok (.iload_n 3, 1) by decide +kernel) rfl rfl ?_
    refine X_iconst (v := (nI 1)) (show decode cX10_mostWithoutConflict 41 = .ok (.iconst 1, 1) by decide +kernel) (by decide) ?_
    refine X_iload_n (j := 1) (show decode cX10_mostWithoutConflict 42 = .ok (.iload_n 1, 1) by decide +kernel) rfl rfl ?_
    refine X_ishl (show decode cX10_mostWithoutConflict 43 = .ok (.ishl, 1) by decide +kernel) ?_
    refine X_icmp_ge (tgt := 147) (show decode cX10_mostWithoutConflict 44 = .ok (.if_icmp .ge 103, 3) by decide +kernel) (by decide) ⟨fun c18 => ?_, fun c18 => ?_⟩
    · have w := w.1 c18
      refine X_iload_n (j := 2) (show decode cX10_mostWithoutConflict 147 = .ok (.iload_n 2, 1) by decide +kernel) rfl rfl ?_
      exact X_iret ⟨(show decode cX10_mostWithoutConflict 148 = .ok (.ireturn, 1) by decide +kernel), .int, rfl, rfl⟩ ⟨_, rfl, w⟩
    · have w := w.2 c18
      refine X_iconst (v := (nI 0)) (show decode cX10_mostWithoutConflict 47 = .ok (.iconst 0, 1) by decide +kernel) (by decide) ?_
      refine X_istore (ls' := [(0, .ref _), (1, .int _), (2, .int _), (3, .int _), (4, .int _)]) (show decode cX10_mostWithoutConflict 48 = .ok (.istore 4, 2) by decide +kernel) (by decide) rfl ?_
      refine X_iconst (v := (nI 0)) (show decode cX10_mostWithoutConflict 50 = .ok (.iconst 0, 1) by decide +kernel) (by decide) ?_
      refine X_istore (ls' := [(0, .ref _), (1, .int _), (2, .int _), (3, .int _), (4, .int _), (5, .int _)]) (show decode cX10_mostWithoutConflict 51 = .ok (.istore 5, 2) by decide +kernel) (by decide) rfl ?_
      refine X_iconst (v := (nI 1)) (show decode cX10_mostWithoutConflict 53 = .ok (.iconst 1, 1) by decide +kernel) (by decide) ?_
      refine X_istore (ls' := [(0, .ref _), (1, .int _), (2, .int _), (3, .int _), (4, .int _), (5, .int _), (6, .int _)]) (show decode cX10_mostWithoutConflict 54 = .ok (.istore 6, 2) by decide +kernel) (by decide) rfl ?_
      refine X_iconst (v := (nI 0)) (show decode cX10_mostWithoutConflict 56 = .ok (.iconst 0, 1) by decide +kernel) (by decide) ?_
      refine X_istore (ls' := [(0, .ref _), (1, .int _), (2, .int _), (3, .int _), (4, .int _), (5, .int _), (6, .int _), (7, .int _)]) (show decode cX10_mostWithoutConflict 57 = .ok (.istore 7, 2) by decide +kernel) (by decide) rfl ?_
      obtain ⟨n40, w⟩ := w
      refine kX10_mostWithoutConflict_L59 ?_ n40 _ _ _ _ _ _ _ _ _ w
      · intro x0_31 x1_32 x2_33 x3_34 x5_35 x6_36 h37 w
        refine X_iload (j := 5) (show decode cX10_mostWithoutConflict 123 = .ok (.iload 6, 2) by decide +kernel) rfl ?_
        refine X_if_eq (tgt := 139) (show decode cX10_mostWithoutConflict 125 = .ok (.ifCond .eq 14, 3) by decide +kernel) (by decide) ⟨fun c38 => ?_, fun c38 => ?_⟩
        · have w := w.1 c38
          refine X_iload_n (j := 2) (show decode cX10_mostWithoutConflict 139 = .ok (.iload_n 2, 1) by decide +kernel) rfl rfl ?_
          refine X_istore_n (ls' := [(0, .ref _), (1, .int _), (2, .int _), (3, .int _), (5, .int _), (6, .int _)]) (show decode cX10_mostWithoutConflict 140 = .ok (.istore_n 2, 1) by decide +kernel) rfl (by decide) rfl ?_
          refine X_iinc (j := 3) (v := _ + (nI 1)) (ls' := [(0, .ref _), (1, .int _), (2, .int _), (3, .int _), (5, .int _), (6, .int _)]) (show decode cX10_mostWithoutConflict 141 = .ok (.iinc 3 1, 3) by decide +kernel) rfl rfl (Nat.le_of_ble_eq_true rfl) rfl ?_
          refine X_goto (tgt := 40) (show decode cX10_mostWithoutConflict 144 = .ok (.goto (-104), 3) by decide +kernel) (by decide) ?_
          refine X_pick (ls' := [(0, .ref _), (1, .int _), (2, .int _), (3, .int _)]) [0, 1, 2, 3] rfl ?_
          exact ih _ _ _ _ _ w
        · have w := w.2 c38
          refine X_iload (j := 4) (show decode cX10_mostWithoutConflict 128 = .ok (.iload 5, 2) by decide +kernel) rfl ?_
          refine X_iload_n (j := 2) (show decode cX10_mostWithoutConflict 130 = .ok (.iload_n 2, 1) by decide +kernel) rfl rfl ?_
          refine X_icmp_le (tgt := 139) (show decode cX10_mostWithoutConflict 131 = .ok (.if_icmp .le 8, 3) by decide +kernel) (by decide) ⟨fun c39 => ?_, fun c39 => ?_⟩
          · have w := w.1 c39
            refine X_iload_n (j := 2) (show decode cX10_mostWithoutConflict 139 = .ok (.iload_n 2, 1) by decide +kernel) rfl rfl ?_
            refine X_istore_n (ls' := [(0, .ref _), (1, .int _), (2, .int _), (3, .int _), (5, .int _), (6, .int _)]) (show decode cX10_mostWithoutConflict 140 = .ok (.istore_n 2, 1) by decide +kernel) rfl (by decide) rfl ?_
            refine X_iinc (j := 3) (v := _ + (nI 1)) (ls' := [(0, .ref _), (1, .int _), (2, .int _), (3, .int _), (5, .int _), (6, .int _)]) (show decode cX10_mostWithoutConflict 141 = .ok (.iinc 3 1, 3) by decide +kernel) rfl rfl (Nat.le_of_ble_eq_true rfl) rfl ?_
            refine X_goto (tgt := 40) (show decode cX10_mostWithoutConflict 144 = .ok (.goto (-104), 3) by decide +kernel) (by decide) ?_
            refine X_pick (ls' := [(0, .ref _), (1, .int _), (2, .int _), (3, .int _)]) [0, 1, 2, 3] rfl ?_
            exact ih _ _ _ _ _ w
          · have w := w.2 c39
            refine X_iload (j := 4) (show decode cX10_mostWithoutConflict 134 = .ok (.iload 5, 2) by decide +kernel) rfl ?_
            refine X_goto (tgt := 140) (show decode cX10_mostWithoutConflict 136 = .ok (.goto 4, 3) by decide +kernel) (by decide) ?_
            refine X_istore_n (ls' := [(0, .ref _), (1, .int _), (2, .int _), (3, .int _), (5, .int _), (6, .int _)]) (show decode cX10_mostWithoutConflict 140 = .ok (.istore_n 2, 1) by decide +kernel) rfl (by decide) rfl ?_
            refine X_iinc (j := 3) (v := _ + (nI 1)) (ls' := [(0, .ref _), (1, .int _), (2, .int _), (3, .int _), (5, .int _), (6, .int _)]) (show decode cX10_mostWithoutConflict 141 = .ok (.iinc 3 1, 3) by decide +kernel) rfl rfl (Nat.le_of_ble_eq_true rfl) rfl ?_
            refine X_goto (tgt := 40) (show decode cX10_mostWithoutConflict 144 = .ok (.goto (-104), 3) by decide +kernel) (by decide) ?_
            refine X_pick (ls' := [(0, .ref _), (1, .int _), (2, .int _), (3, .int _)]) [0, 1, 2, 3] rfl ?_
            exact ih _ _ _ _ _ w
set_option maxRecDepth 100000 in
set_option maxHeartbeats 4000000 in
theorem kX10_mostWithoutConflict {a0 : Nat} {h : AH} {K : Int32 → AH → Prop} (w : wX10_mostWithoutConflict a0 h K) : Cn mX10_mostWithoutConflict (cwd mX10_mostWithoutConflict) 6 0 0 [.ref a0] h (KI K) T0 := by
  refine Cn_of (by decide +kernel) rfl (Nat.le_of_ble_eq_true rfl) ?_
  show X mX10_mostWithoutConflict 6 (KI K) T0 0 0 0 [(0, .ref a0)] [] h
  unfold wX10_mostWithoutConflict at w
  refine X_aload_n (j := 0) (show decode cX10_mostWithoutConflict 0 = .ok (.aload_n 0, 1) by decide +kernel) rfl rfl ?_
  refine X_iconst (v := (nI 0)) (show decode cX10_mostWithoutConflict 1 = .ok (.iconst 0, 1) by decide +kernel) (by decide) ?_
  obtain ⟨s1, w⟩ := w
  refine X_putI fp_X10_56 (show decode cX10_mostWithoutConflict 2 = .ok (.putfield 56, 3) by decide +kernel) (fun z => nomatch z) s1 rfl rfl ?_
  have w := w _ rfl
  refine X_aload_n (j := 0) (show decode cX10_mostWithoutConflict 5 = .ok (.aload_n 0, 1) by decide +kernel) rfl rfl ?_
  refine X_getR fl_X10_7 (show decode cX10_mostWithoutConflict 6 = .ok (.getfield 7, 3) by decide +kernel) s1 ?_
  refine X_iconst (v := (nI 4)) (show decode cX10_mostWithoutConflict 9 = .ok (.iconst 4, 1) by decide +kernel) (by decide) ?_
  obtain ⟨s3, w⟩ := w
  obtain ⟨s4, w⟩ := w
  refine X_iald (show decode cX10_mostWithoutConflict 10 = .ok (.iaload, 1) by decide +kernel) (isA_eq s3) s4 ?_
  refine X_topi (fun v5 e6 => ?_)
  have w := w v5 e6
  refine X_istore_n (ls' := [(0, .ref _), (1, .int _)]) (show decode cX10_mostWithoutConflict 11 = .ok (.istore_n 1, 1) by decide +kernel) rfl (by decide) rfl ?_
  refine X_iconst (v := (nI 0)) (show decode cX10_mostWithoutConflict 12 = .ok (.iconst 0, 1) by decide +kernel) (by decide) ?_
  refine X_istore_n (ls' := [(0, .ref _), (1, .int _), (2, .int _)]) (show decode cX10_mostWithoutConflict 13 = .ok (.istore_n 2, 1) by decide +kernel) rfl (by decide) rfl ?_
  obtain ⟨n42, w⟩ := w
  refine kX10_mostWithoutConflict_L14 ?_ n42 _ _ _ _ w
  · intro x0_15 x1_16 h17 w
    refine X_iconst (v := (nI 0)) (show decode cX10_mostWithoutConflict 36 = .ok (.iconst 0, 1) by decide +kernel) (by decide) ?_
    refine X_istore_n (ls' := [(0, .ref _), (1, .int _), (2, .int _)]) (show decode cX10_mostWithoutConflict 37 = .ok (.istore_n 2, 1) by decide +kernel) rfl (by decide) rfl ?_
    refine X_iconst (v := (nI 0)) (show decode cX10_mostWithoutConflict 38 = .ok (.iconst 0, 1) by decide +kernel) (by decide) ?_
    refine X_istore_n (ls' := [(0, .ref _), (1, .int _), (2, .int _), (3, .int _)]) (show decode cX10_mostWithoutConflict 39 = .ok (.istore_n 3, 1) by decide +kernel) rfl (by decide) rfl ?_
    obtain ⟨n41, w⟩ := w
    exact kX10_mostWithoutConflict_L40  n41 _ _ _ _ _ w
