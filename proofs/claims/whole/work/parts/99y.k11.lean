set_option maxRecDepth 100000 in
set_option maxHeartbeats 4000000 in
theorem kX10_mostWithoutConflictBySets {a0 : Nat} {h : AH} {K : Int32 → AH → Prop} (w : wX10_mostWithoutConflictBySets a0 h K) : Cn mX10_mostWithoutConflictBySets (cwd mX10_mostWithoutConflictBySets) 7 0 0 [.ref a0] h (KI K) T0 := by
  refine Cn_of (by decide +kernel) rfl (Nat.le_of_ble_eq_true rfl) ?_
  show X mX10_mostWithoutConflictBySets 7 (KI K) T0 0 0 0 [(0, .ref a0)] [] h
  unfold wX10_mostWithoutConflictBySets at w
  refine X_aload_n (j := 0) (show decode cX10_mostWithoutConflictBySets 0 = .ok (.aload_n 0, 1) by decide +kernel) rfl rfl ?_
  obtain ⟨s3, w⟩ := w
  refine X_vI (rc' := 0) (rs' := 0) (as := []) mv_X10_227 (show decode cX10_mostWithoutConflictBySets 1 = .ok (.invokevirtual 227, 3) by decide +kernel) (by decide) (Nat.le_of_ble_eq_true rfl) (Nat.le_of_ble_eq_true rfl) rfl rfl (Nat.le_of_ble_eq_true rfl) (rcvD s3 (by decide) rfl) (kX10_mostWithoutConflict w) (fun E h hk => hk.elim) (fun r2 h1 w => ?_)
  exact X_iret ⟨(show decode cX10_mostWithoutConflictBySets 4 = .ok (.ireturn, 1) by decide +kernel), .int, rfl, rfl⟩ ⟨_, rfl, w⟩
set_option maxRecDepth 100000 in
set_option maxHeartbeats 4000000 in
theorem kX10_refusalReason_J13 {K : Int32 → AH → Prop}   (x0 : Nat) (y0 : Nat) (y1 : Int32) (h : AH) (w : wX10_refusalReason_J13 K  x0 y0 y1 h) : X mX10_refusalReason 1 (KI K) T0 0 0 13 [(0, .ref x0)] [.int y1, .ref y0] h := by
  unfold wX10_refusalReason_J13 at w
  obtain ⟨s3, w⟩ := w
  refine X_putI fp_X10_56 (show decode cX10_refusalReason 13 = .ok (.putfield 56, 3) by decide +kernel) (fun z => nomatch z) s3 rfl rfl ?_
  have w := w _ rfl
  refine X_aload_n (j := 0) (show decode cX10_refusalReason 16 = .ok (.aload_n 0, 1) by decide +kernel) rfl rfl ?_
  obtain ⟨s5, w⟩ := w
  refine X_getI fl_X10_157 (show decode cX10_refusalReason 17 = .ok (.getfield 157, 3) by decide +kernel) s5 ?_
  refine X_i2c (show decode cX10_refusalReason 20 = .ok (.i2c, 1) by decide +kernel) ?_
  obtain ⟨s6, w⟩ := w
  exact X_iret ⟨(show decode cX10_refusalReason 21 = .ok (.ireturn, 1) by decide +kernel), .char, rfl, s6⟩ ⟨_, rfl, w⟩
set_option maxRecDepth 100000 in
set_option maxHeartbeats 4000000 in
theorem kX10_refusalReason {a0 : Nat} {h : AH} {K : Int32 → AH → Prop} (w : wX10_refusalReason a0 h K) : Cn mX10_refusalReason (cwd mX10_refusalReason) 1 0 0 [.ref a0] h (KI K) T0 := by
  refine Cn_of (by decide +kernel) rfl (Nat.le_of_ble_eq_true rfl) ?_
  show X mX10_refusalReason 1 (KI K) T0 0 0 0 [(0, .ref a0)] [] h
  unfold wX10_refusalReason at w
  refine X_aload_n (j := 0) (show decode cX10_refusalReason 0 = .ok (.aload_n 0, 1) by decide +kernel) rfl rfl ?_
  refine X_aload_n (j := 0) (show decode cX10_refusalReason 1 = .ok (.aload_n 0, 1) by decide +kernel) rfl rfl ?_
  obtain ⟨s1, w⟩ := w
  refine X_getI fl_X10_157 (show decode cX10_refusalReason 2 = .ok (.getfield 157, 3) by decide +kernel) s1 ?_
  refine X_if_ne (tgt := 12) (show decode cX10_refusalReason 5 = .ok (.ifCond .ne 7, 3) by decide +kernel) (by decide) ⟨fun c2 => ?_, fun c2 => ?_⟩
  · have w := w.1 c2
    refine X_iconst (v := (nI 0)) (show decode cX10_refusalReason 12 = .ok (.iconst 0, 1) by decide +kernel) (by decide) ?_
    exact kX10_refusalReason_J13  _ _ _ _ w
  · have w := w.2 c2
    refine X_iconst (v := (nI 1)) (show decode cX10_refusalReason 8 = .ok (.iconst 1, 1) by decide +kernel) (by decide) ?_
    refine X_goto (tgt := 13) (show decode cX10_refusalReason 9 = .ok (.goto 4, 3) by decide +kernel) (by decide) ?_
    exact kX10_refusalReason_J13  _ _ _ _ w
set_option maxRecDepth 100000 in
set_option maxHeartbeats 4000000 in
theorem kX10_refusalBlock {a0 : Nat} {h : AH} {K : Int32 → AH → Prop} (w : wX10_refusalBlock a0 h K) : Cn mX10_refusalBlock (cwd mX10_refusalBlock) 2 0 0 [.ref a0] h (KI K) T0 := by
  refine Cn_of (by decide +kernel) rfl (Nat.le_of_ble_eq_true rfl) ?_
  show X mX10_refusalBlock 2 (KI K) T0 0 0 0 [(0, .ref a0)] [] h
  unfold wX10_refusalBlock at w
  refine X_aload_n (j := 0) (show decode cX10_refusalBlock 0 = .ok (.aload_n 0, 1) by decide +kernel) rfl rfl ?_
  refine X_iconst (v := (nI 0)) (show decode cX10_refusalBlock 1 = .ok (.iconst 0, 1) by decide +kernel) (by decide) ?_
  obtain ⟨s1, w⟩ := w
  refine X_putI fp_X10_56 (show decode cX10_refusalBlock 2 = .ok (.putfield 56, 3) by decide +kernel) (fun z => nomatch z) s1 rfl rfl ?_
  have w := w _ rfl
  refine X_aload_n (j := 0) (show decode cX10_refusalBlock 5 = .ok (.aload_n 0, 1) by decide +kernel) rfl rfl ?_
  refine X_getI fl_X10_53 (show decode cX10_refusalBlock 6 = .ok (.getfield 53, 3) by decide +kernel) s1 ?_
  refine X_iconst (v := (-1)) (show decode cX10_refusalBlock 9 = .ok (.iconst (-1), 1) by decide +kernel) (by decide) ?_
  refine X_icmp_ne (tgt := 21) (show decode cX10_refusalBlock 10 = .ok (.if_icmp .ne 11, 3) by decide +kernel) (by decide) ⟨fun c3 => ?_, fun c3 => ?_⟩
  · have w := w.1 c3
    refine X_aload_n (j := 0) (show decode cX10_refusalBlock 21 = .ok (.aload_n 0, 1) by decide +kernel) rfl rfl ?_
    refine X_getI fl_X10_53 (show decode cX10_refusalBlock 22 = .ok (.getfield 53, 3) by decide +kernel) s1 ?_
    exact X_iret ⟨(show decode cX10_refusalBlock 25 = .ok (.ireturn, 1) by decide +kernel), .int, rfl, rfl⟩ ⟨_, rfl, w⟩
  · have w := w.2 c3
    refine X_aload_n (j := 0) (show decode cX10_refusalBlock 13 = .ok (.aload_n 0, 1) by decide +kernel) rfl rfl ?_
    refine X_iconst (v := (nI 1)) (show decode cX10_refusalBlock 14 = .ok (.iconst 1, 1) by decide +kernel) (by decide) ?_
    refine X_vI (rc' := 0) (rs' := 0) (as := [.int _]) mv_X10_69 (show decode cX10_refusalBlock 15 = .ok (.invokevirtual 69, 3) by decide +kernel) (by decide) (Nat.le_of_ble_eq_true rfl) (Nat.le_of_ble_eq_true rfl) rfl rfl (Nat.le_of_ble_eq_true rfl) (rcvD s1 (by decide) rfl) (kX10_fails w) (fun E h hk => hk.elim) (fun r5 h4 w => ?_)
    refine X_goto (tgt := 25) (show decode cX10_refusalBlock 18 = .ok (.goto 7, 3) by decide +kernel) (by decide) ?_
    exact X_iret ⟨(show decode cX10_refusalBlock 25 = .ok (.ireturn, 1) by decide +kernel), .int, rfl, rfl⟩ ⟨_, rfl, w⟩
set_option maxRecDepth 100000 in
set_option maxHeartbeats 4000000 in
theorem kX10_time {a0 : Nat} {h : AH} {K : Int32 → AH → Prop} (w : wX10_time a0 h K) : Cn mX10_time (cwd mX10_time) 1 0 0 [.ref a0] h (KI K) T0 := by
  refine Cn_of (by decide +kernel) rfl (Nat.le_of_ble_eq_true rfl) ?_
  show X mX10_time 1 (KI K) T0 0 0 0 [(0, .ref a0)] [] h
  unfold wX10_time at w
  refine X_aload_n (j := 0) (show decode cX10_time 0 = .ok (.aload_n 0, 1) by decide +kernel) rfl rfl ?_
  refine X_iconst (v := (nI 0)) (show decode cX10_time 1 = .ok (.iconst 0, 1) by decide +kernel) (by decide) ?_
  obtain ⟨s1, w⟩ := w
  refine X_putI fp_X10_56 (show decode cX10_time 2 = .ok (.putfield 56, 3) by decide +kernel) (fun z => nomatch z) s1 rfl rfl ?_
  have w := w _ rfl
  refine X_aload_n (j := 0) (show decode cX10_time 5 = .ok (.aload_n 0, 1) by decide +kernel) rfl rfl ?_
  refine X_getR fl_X10_7 (show decode cX10_time 6 = .ok (.getfield 7, 3) by decide +kernel) s1 ?_
  refine X_bipush (v := (nI 6)) (show decode cX10_time 9 = .ok (.bipush 6, 2) by decide +kernel) (by decide) ?_
  obtain ⟨s3, w⟩ := w
  obtain ⟨s4, w⟩ := w
  refine X_iald (show decode cX10_time 11 = .ok (.iaload, 1) by decide +kernel) (isA_eq s3) s4 ?_
  exact X_iret ⟨(show decode cX10_time 12 = .ok (.ireturn, 1) by decide +kernel), .int, rfl, rfl⟩ ⟨_, rfl, w⟩
set_option maxRecDepth 100000 in
set_option maxHeartbeats 4000000 in
theorem kX10_arrived {a0 : Nat} {h : AH} {K : Int32 → AH → Prop} (w : wX10_arrived a0 h K) : Cn mX10_arrived (cwd mX10_arrived) 1 0 0 [.ref a0] h (KI K) T0 := by
  refine Cn_of (by decide +kernel) rfl (Nat.le_of_ble_eq_true rfl) ?_
  show X mX10_arrived 1 (KI K) T0 0 0 0 [(0, .ref a0)] [] h
  unfold wX10_arrived at w
  refine X_aload_n (j := 0) (show decode cX10_arrived 0 = .ok (.aload_n 0, 1) by decide +kernel) rfl rfl ?_
  refine X_iconst (v := (nI 0)) (show decode cX10_arrived 1 = .ok (.iconst 0, 1) by decide +kernel) (by decide) ?_
  obtain ⟨s1, w⟩ := w
  refine X_putI fp_X10_56 (show decode cX10_arrived 2 = .ok (.putfield 56, 3) by decide +kernel) (fun z => nomatch z) s1 rfl rfl ?_
  have w := w _ rfl
  refine X_aload_n (j := 0) (show decode cX10_arrived 5 = .ok (.aload_n 0, 1) by decide +kernel) rfl rfl ?_
  refine X_getR fl_X10_7 (show decode cX10_arrived 6 = .ok (.getfield 7, 3) by decide +kernel) s1 ?_
  refine X_bipush (v := (nI 7)) (show decode cX10_arrived 9 = .ok (.bipush 7, 2) by decide +kernel) (by decide) ?_
  obtain ⟨s3, w⟩ := w
  obtain ⟨s4, w⟩ := w
  refine X_iald (show decode cX10_arrived 11 = .ok (.iaload, 1) by decide +kernel) (isA_eq s3) s4 ?_
  exact X_iret ⟨(show decode cX10_arrived 12 = .ok (.ireturn, 1) by decide +kernel), .int, rfl, rfl⟩ ⟨_, rfl, w⟩
set_option maxRecDepth 100000 in
set_option maxHeartbeats 4000000 in
theorem kX10_totalDelay {a0 : Nat} {h : AH} {K : Int64 → AH → Prop} (w : wX10_totalDelay a0 h K) : Cn mX10_totalDelay (cwd mX10_totalDelay) 1 0 0 [.ref a0] h (KL K) T0 := by
  refine Cn_of (by decide +kernel) rfl (Nat.le_of_ble_eq_true rfl) ?_
  show X mX10_totalDelay 1 (KL K) T0 0 0 0 [(0, .ref a0)] [] h
  unfold wX10_totalDelay at w
  refine X_aload_n (j := 0) (show decode cX10_totalDelay 0 = .ok (.aload_n 0, 1) by decide +kernel) rfl rfl ?_
  refine X_iconst (v := (nI 0)) (show decode cX10_totalDelay 1 = .ok (.iconst 0, 1) by decide +kernel) (by decide) ?_
  obtain ⟨s1, w⟩ := w
  refine X_putI fp_X10_56 (show decode cX10_totalDelay 2 = .ok (.putfield 56, 3) by decide +kernel) (fun z => nomatch z) s1 rfl rfl ?_
  have w := w _ rfl
  refine X_aload_n (j := 0) (show decode cX10_totalDelay 5 = .ok (.aload_n 0, 1) by decide +kernel) rfl rfl ?_
  refine X_getR fl_X10_7 (show decode cX10_totalDelay 6 = .ok (.getfield 7, 3) by decide +kernel) s1 ?_
  refine X_bipush (v := (nI 8)) (show decode cX10_totalDelay 9 = .ok (.bipush 8, 2) by decide +kernel) (by decide) ?_
  obtain ⟨s3, w⟩ := w
  obtain ⟨s4, w⟩ := w
  refine X_iald (show decode cX10_totalDelay 11 = .ok (.iaload, 1) by decide +kernel) (isA_eq s3) s4 ?_
  refine X_i2l (show decode cX10_totalDelay 12 = .ok (.i2l, 1) by decide +kernel) ?_
  exact X_lret ⟨(show decode cX10_totalDelay 13 = .ok (.lreturn, 1) by decide +kernel), rfl⟩ ⟨_, rfl, w⟩
set_option maxRecDepth 100000 in
set_option maxHeartbeats 4000000 in
theorem kX10_meanDelay_J15 {K : UInt64 → AH → Prop}   (x0 : Nat) (y0 : Nat) (y1 : Int32) (h : AH) (w : wX10_meanDelay_J15 K  x0 y0 y1 h) : X mX10_meanDelay 1 (KD K) T0 0 0 15 [(0, .ref x0)] [.int y1, .ref y0] h := by
  unfold wX10_meanDelay_J15 at w
  obtain ⟨s5, w⟩ := w
  refine X_putI fp_X10_56 (show decode cX10_meanDelay 15 = .ok (.putfield 56, 3) by decide +kernel) (fun z => nomatch z) s5 rfl rfl ?_
  have w := w _ rfl
  refine X_aload_n (j := 0) (show decode cX10_meanDelay 18 = .ok (.aload_n 0, 1) by decide +kernel) rfl rfl ?_
  obtain ⟨s7, w⟩ := w
  refine X_getI fl_X10_56 (show decode cX10_meanDelay 19 = .ok (.getfield 56, 3) by decide +kernel) s7 ?_
  refine X_if_le (tgt := 29) (show decode cX10_meanDelay 22 = .ok (.ifCond .le 7, 3) by decide +kernel) (by decide) ⟨fun c8 => ?_, fun c8 => ?_⟩
  · have w := w.1 c8
    refine X_aload_n (j := 0) (show decode cX10_meanDelay 29 = .ok (.aload_n 0, 1) by decide +kernel) rfl rfl ?_
    refine X_getR fl_X10_7 (show decode cX10_meanDelay 30 = .ok (.getfield 7, 3) by decide +kernel) s7 ?_
    refine X_bipush (v := (nI 8)) (show decode cX10_meanDelay 33 = .ok (.bipush 8, 2) by decide +kernel) (by decide) ?_
    obtain ⟨s9, w⟩ := w
    obtain ⟨s10, w⟩ := w
    refine X_iald (show decode cX10_meanDelay 35 = .ok (.iaload, 1) by decide +kernel) (isA_eq s9) s10 ?_
    refine X_i2d (show decode cX10_meanDelay 36 = .ok (.i2d, 1) by decide +kernel) ?_
    refine X_aload_n (j := 0) (show decode cX10_meanDelay 37 = .ok (.aload_n 0, 1) by decide +kernel) rfl rfl ?_
    refine X_getR fl_X10_7 (show decode cX10_meanDelay 38 = .ok (.getfield 7, 3) by decide +kernel) s7 ?_
    refine X_iconst (v := (nI 3)) (show decode cX10_meanDelay 41 = .ok (.iconst 3, 1) by decide +kernel) (by decide) ?_
    obtain ⟨s11, w⟩ := w
    refine X_iald (show decode cX10_meanDelay 42 = .ok (.iaload, 1) by decide +kernel) (isA_eq s9) s11 ?_
    refine X_i2d (show decode cX10_meanDelay 43 = .ok (.i2d, 1) by decide +kernel) ?_
    obtain ⟨s12, w⟩ := w
    refine X_ddiv (show decode cX10_meanDelay 44 = .ok (.ddiv, 1) by decide +kernel) s12 ?_
    exact X_dret ⟨(show decode cX10_meanDelay 45 = .ok (.dreturn, 1) by decide +kernel), rfl⟩ ⟨_, rfl, w⟩
  · have w := w.2 c8
    refine X_dconst0 (show decode cX10_meanDelay 25 = .ok (.dconst 0, 1) by decide +kernel) ?_
    refine X_goto (tgt := 45) (show decode cX10_meanDelay 26 = .ok (.goto 19, 3) by decide +kernel) (by decide) ?_
    exact X_dret ⟨(show decode cX10_meanDelay 45 = .ok (.dreturn, 1) by decide +kernel), rfl⟩ ⟨_, rfl, w⟩
set_option maxRecDepth 100000 in
set_option maxHeartbeats 4000000 in
theorem kX10_meanDelay {a0 : Nat} {h : AH} {K : UInt64 → AH → Prop} (w : wX10_meanDelay a0 h K) : Cn mX10_meanDelay (cwd mX10_meanDelay) 1 0 0 [.ref a0] h (KD K) T0 := by
  refine Cn_of (by decide +kernel) rfl (Nat.le_of_ble_eq_true rfl) ?_
  show X mX10_meanDelay 1 (KD K) T0 0 0 0 [(0, .ref a0)] [] h
  unfold wX10_meanDelay at w
  refine X_aload_n (j := 0) (show decode cX10_meanDelay 0 = .ok (.aload_n 0, 1) by decide +kernel) rfl rfl ?_
  refine X_aload_n (j := 0) (show decode cX10_meanDelay 1 = .ok (.aload_n 0, 1) by decide +kernel) rfl rfl ?_
  obtain ⟨s1, w⟩ := w
  refine X_getR fl_X10_7 (show decode cX10_meanDelay 2 = .ok (.getfield 7, 3) by decide +kernel) s1 ?_
  refine X_iconst (v := (nI 3)) (show decode cX10_meanDelay 5 = .ok (.iconst 3, 1) by decide +kernel) (by decide) ?_
  obtain ⟨s2, w⟩ := w
  obtain ⟨s3, w⟩ := w
  refine X_iald (show decode cX10_meanDelay 6 = .ok (.iaload, 1) by decide +kernel) (isA_eq s2) s3 ?_
  refine X_if_ne (tgt := 14) (show decode cX10_meanDelay 7 = .ok (.ifCond .ne 7, 3) by decide +kernel) (by decide) ⟨fun c4 => ?_, fun c4 => ?_⟩
  · have w := w.1 c4
    refine X_iconst (v := (nI 0)) (show decode cX10_meanDelay 14 = .ok (.iconst 0, 1) by decide +kernel) (by decide) ?_
    exact kX10_meanDelay_J15  _ _ _ _ w
  · have w := w.2 c4
    refine X_iconst (v := (nI 1)) (show decode cX10_meanDelay 10 = .ok (.iconst 1, 1) by decide +kernel) (by decide) ?_
    refine X_goto (tgt := 15) (show decode cX10_meanDelay 11 = .ok (.goto 4, 3) by decide +kernel) (by decide) ?_
    exact kX10_meanDelay_J15  _ _ _ _ w
set_option maxRecDepth 100000 in
set_option maxHeartbeats 4000000 in
theorem kX10_usedShare_L31 {K : UInt32 → AH → Prop}    : ∀ (n : Nat) (x0 : Nat) (x1 : Int32) (x2 : Int32) (h : AH), wX10_usedShare_L31 K   n x0 x1 x2 h → X mX10_usedShare 2 (KF K) T0 0 0 31 [(0, .ref x0), (1, .int x1), (2, .int x2)] [] h := by
  intro n
  induction n with
  | zero => intro _ _ _ _ w; exact w.elim
  | succ n ih =>
    intro x0 x1 x2 h w
    rw [wX10_usedShare_L31] at w
    refine X_iload_n (j := 2) (show decode cX10_usedShare 31 = .ok (.iload_n 2, 1) by decide +kernel) rfl rfl ?_
    refine X_aload_n (j := 0) (show decode cX10_usedShare 32 = .ok (.aload_n 0, 1) by decide +kernel) rfl rfl ?_
    obtain ⟨s9, w⟩ := w
    refine X_getR fl_X10_7 (show decode cX10_usedShare 33 = .ok (.getfield 7, 3) by decide +kernel) s9 ?_
    refine X_iconst (v := (nI 0)) (show decode cX10_usedShare 36 = .ok (.iconst 0, 1) by decide +kernel) (by decide) ?_
    obtain ⟨s10, w⟩ := w
    obtain ⟨s11, w⟩ := w
    refine X_iald (show decode cX10_usedShare 37 = .ok (.iaload, 1) by decide +kernel) (isA_eq s10) s11 ?_
    refine X_icmp_ge (tgt := 71) (show decode cX10_usedShare 38 = .ok (.if_icmp .ge 33, 3) by decide +kernel) (by decide) ⟨fun c12 => ?_, fun c12 => ?_⟩
    · have w := w.1 c12
      refine X_iload_n (j := 1) (show decode cX10_usedShare 71 = .ok (.iload_n 1, 1) by decide +kernel) rfl rfl ?_
      refine X_i2f (show decode cX10_usedShare 72 = .ok (.i2f, 1) by decide +kernel) ?_
      refine X_aload_n (j := 0) (show decode cX10_usedShare 73 = .ok (.aload_n 0, 1) by decide +kernel) rfl rfl ?_
      refine X_getR fl_X10_7 (show decode cX10_usedShare 74 = .ok (.getfield 7, 3) by decide +kernel) s9 ?_
      refine X_iconst (v := (nI 0)) (show decode cX10_usedShare 77 = .ok (.iconst 0, 1) by decide +kernel) (by decide) ?_
      refine X_iald (show decode cX10_usedShare 78 = .ok (.iaload, 1) by decide +kernel) (isA_eq s10) s11 ?_
      refine X_i2f (show decode cX10_usedShare 79 = .ok (.i2f, 1) by decide +kernel) ?_
      obtain ⟨s13, w⟩ := w
      refine X_fdiv (show decode cX10_usedShare 80 = .ok (.fdiv, 1) by decide +kernel) s13 ?_
      exact X_fret ⟨(show decode cX10_usedShare 81 = .ok (.freturn, 1) by decide +kernel), rfl⟩ ⟨_, rfl, w⟩
    · have w := w.2 c12
      refine X_iload_n (j := 1) (show decode cX10_usedShare 41 = .ok (.iload_n 1, 1) by decide +kernel) rfl rfl ?_
      refine X_aload_n (j := 0) (show decode cX10_usedShare 42 = .ok (.aload_n 0, 1) by decide +kernel) rfl rfl ?_
      refine X_iload_n (j := 2) (show decode cX10_usedShare 43 = .ok (.iload_n 2, 1) by decide +kernel) rfl rfl ?_
      refine X_iconst (v := (nI 4)) (show decode cX10_usedShare 44 = .ok (.iconst 4, 1) by decide +kernel) (by decide) ?_
      refine X_vI (rc' := 0) (rs' := 0) (as := [.int _, .int _]) mv_X10_80 (show decode cX10_usedShare 45 = .ok (.invokevirtual 80, 3) by decide +kernel) (by decide) (Nat.le_of_ble_eq_true rfl) (Nat.le_of_ble_eq_true rfl) rfl rfl (Nat.le_of_ble_eq_true rfl) (rcvD s9 (by decide) rfl) (kX10_block w) (fun E h hk => hk.elim) (fun r15 h14 w => ?_)
      refine X_aload_n (j := 0) (show decode cX10_usedShare 48 = .ok (.aload_n 0, 1) by decide +kernel) rfl rfl ?_
      refine X_iload_n (j := 2) (show decode cX10_usedShare 49 = .ok (.iload_n 2, 1) by decide +kernel) rfl rfl ?_
      refine X_iconst (v := (nI 5)) (show decode cX10_usedShare 50 = .ok (.iconst 5, 1) by decide +kernel) (by decide) ?_
      obtain ⟨s19, w⟩ := w
      refine X_vI (rc' := 0) (rs' := 0) (as := [.int _, .int _]) mv_X10_80 (show decode cX10_usedShare 51 = .ok (.invokevirtual 80, 3) by decide +kernel) (by decide) (Nat.le_of_ble_eq_true rfl) (Nat.le_of_ble_eq_true rfl) rfl rfl (Nat.le_of_ble_eq_true rfl) (rcvD s19 (by decide) rfl) (kX10_block w) (fun E h hk => hk.elim) (fun r17 h16 w => ?_)
      refine X_iadd (show decode cX10_usedShare 54 = .ok (.iadd, 1) by decide +kernel) ?_
      refine X_if_le (tgt := 62) (show decode cX10_usedShare 55 = .ok (.ifCond .le 7, 3) by decide +kernel) (by decide) ⟨fun c18 => ?_, fun c18 => ?_⟩
      · have w := w.1 c18
        refine X_iconst (v := (nI 0)) (show decode cX10_usedShare 62 = .ok (.iconst 0, 1) by decide +kernel) (by decide) ?_
        refine X_iadd (show decode cX10_usedShare 63 = .ok (.iadd, 1) by decide +kernel) ?_
        refine X_istore_n (ls' := [(0, .ref _), (1, .int _), (2, .int _)]) (show decode cX10_usedShare 64 = .ok (.istore_n 1, 1) by decide +kernel) rfl (by decide) rfl ?_
        refine X_iinc (j := 2) (v := _ + (nI 1)) (ls' := [(0, .ref _), (1, .int _), (2, .int _)]) (show decode cX10_usedShare 65 = .ok (.iinc 2 1, 3) by decide +kernel) rfl rfl (Nat.le_of_ble_eq_true rfl) rfl ?_
        refine X_goto (tgt := 31) (show decode cX10_usedShare 68 = .ok (.goto (-37), 3) by decide +kernel) (by decide) ?_
        exact ih _ _ _ _ w
      · have w := w.2 c18
        refine X_iconst (v := (nI 1)) (show decode cX10_usedShare 58 = .ok (.iconst 1, 1) by decide +kernel) (by decide) ?_
        refine X_goto (tgt := 63) (show decode cX10_usedShare 59 = .ok (.goto 4, 3) by decide +kernel) (by decide) ?_
        refine X_iadd (show decode cX10_usedShare 63 = .ok (.iadd, 1) by decide +kernel) ?_
        refine X_istore_n (ls' := [(0, .ref _), (1, .int _), (2, .int _)]) (show decode cX10_usedShare 64 = .ok (.istore_n 1, 1) by decide +kernel) rfl (by decide) rfl ?_
        refine X_iinc (j := 2) (v := _ + (nI 1)) (ls' := [(0, .ref _), (1, .int _), (2, .int _)]) (show decode cX10_usedShare 65 = .ok (.iinc 2 1, 3) by decide +kernel) rfl rfl (Nat.le_of_ble_eq_true rfl) rfl ?_
        refine X_goto (tgt := 31) (show decode cX10_usedShare 68 = .ok (.goto (-37), 3) by decide +kernel) (by decide) ?_
        exact ih _ _ _ _ w
set_option maxRecDepth 100000 in
set_option maxHeartbeats 4000000 in
theorem kX10_usedShare_J15 {K : UInt32 → AH → Prop}   (x0 : Nat) (y0 : Nat) (y1 : Int32) (h : AH) (w : wX10_usedShare_J15 K  x0 y0 y1 h) : X mX10_usedShare 2 (KF K) T0 0 0 15 [(0, .ref x0)] [.int y1, .ref y0] h := by
  unfold wX10_usedShare_J15 at w
  obtain ⟨s5, w⟩ := w
  refine X_putI fp_X10_56 (show decode cX10_usedShare 15 = .ok (.putfield 56, 3) by decide +kernel) (fun z => nomatch z) s5 rfl rfl ?_
  have w := w _ rfl
  refine X_aload_n (j := 0) (show decode cX10_usedShare 18 = .ok (.aload_n 0, 1) by decide +kernel) rfl rfl ?_
  obtain ⟨s7, w⟩ := w
  refine X_getI fl_X10_56 (show decode cX10_usedShare 19 = .ok (.getfield 56, 3) by decide +kernel) s7 ?_
  refine X_if_le (tgt := 27) (show decode cX10_usedShare 22 = .ok (.ifCond .le 5, 3) by decide +kernel) (by decide) ⟨fun c8 => ?_, fun c8 => ?_⟩
  · have w := w.1 c8
    refine X_iconst (v := (nI 0)) (show decode cX10_usedShare 27 = .ok (.iconst 0, 1) by decide +kernel) (by decide) ?_
    refine X_istore_n (ls' := [(0, .ref _), (1, .int _)]) (show decode cX10_usedShare 28 = .ok (.istore_n 1, 1) by decide +kernel) rfl (by decide) rfl ?_
    refine X_iconst (v := (nI 0)) (show decode cX10_usedShare 29 = .ok (.iconst 0, 1) by decide +kernel) (by decide) ?_
    refine X_istore_n (ls' := [(0, .ref _), (1, .int _), (2, .int _)]) (show decode cX10_usedShare 30 = .ok (.istore_n 2, 1) by decide +kernel) rfl (by decide) rfl ?_
    obtain ⟨n20, w⟩ := w
    exact kX10_usedShare_L31  n20 _ _ _ _ w
  · have w := w.2 c8
    refine X_fconst0 (show decode cX10_usedShare 25 = .ok (.fconst 0, 1) by decide +kernel) ?_
    exact X_fret ⟨(show decode cX10_usedShare 26 = .ok (.freturn, 1) by decide +kernel), rfl⟩ ⟨_, rfl, w⟩
set_option maxRecDepth 100000 in
set_option maxHeartbeats 4000000 in
theorem kX10_usedShare {a0 : Nat} {h : AH} {K : UInt32 → AH → Prop} (w : wX10_usedShare a0 h K) : Cn mX10_usedShare (cwd mX10_usedShare) 2 0 0 [.ref a0] h (KF K) T0 := by
  refine Cn_of (by decide +kernel) rfl (Nat.le_of_ble_eq_true rfl) ?_
  show X mX10_usedShare 2 (KF K) T0 0 0 0 [(0, .ref a0)] [] h
  unfold wX10_usedShare at w
  refine X_aload_n (j := 0) (show decode cX10_usedShare 0 = .ok (.aload_n 0, 1) by decide +kernel) rfl rfl ?_
  refine X_aload_n (j := 0) (show decode cX10_usedShare 1 = .ok (.aload_n 0, 1) by decide +kernel) rfl rfl ?_
  obtain ⟨s1, w⟩ := w
  refine X_getR fl_X10_7 (show decode cX10_usedShare 2 = .ok (.getfield 7, 3) by decide +kernel) s1 ?_
  refine X_iconst (v := (nI 0)) (show decode cX10_usedShare 5 = .ok (.iconst 0, 1) by decide +kernel) (by decide) ?_
  obtain ⟨s2, w⟩ := w
  obtain ⟨s3, w⟩ := w
  refine X_iald (show decode cX10_usedShare 6 = .ok (.iaload, 1) by decide +kernel) (isA_eq s2) s3 ?_
  refine X_if_ne (tgt := 14) (show decode cX10_usedShare 7 = .ok (.ifCond .ne 7, 3) by decide +kernel) (by decide) ⟨fun c4 => ?_, fun c4 => ?_⟩
  · have w := w.1 c4
    refine X_iconst (v := (nI 0)) (show decode cX10_usedShare 14 = .ok (.iconst 0, 1) by decide +kernel) (by decide) ?_
    exact kX10_usedShare_J15  _ _ _ _ w
  · have w := w.2 c4
    refine X_iconst (v := (nI 1)) (show decode cX10_usedShare 10 = .ok (.iconst 1, 1) by decide +kernel) (by decide) ?_
    refine X_goto (tgt := 15) (show decode cX10_usedShare 11 = .ok (.goto 4, 3) by decide +kernel) (by decide) ?_
    exact kX10_usedShare_J15  _ _ _ _ w
set_option maxRecDepth 100000 in
set_option maxHeartbeats 4000000 in
theorem kX10_isConsistent {a0 : Nat} {h : AH} {K : Int32 → AH → Prop} (w : wX10_isConsistent a0 h K) : Cn mX10_isConsistent (cwd mX10_isConsistent) 1 0 0 [.ref a0] h (KI K) T0 := by
  refine Cn_of (by decide +kernel) rfl (Nat.le_of_ble_eq_true rfl) ?_
  show X mX10_isConsistent 1 (KI K) T0 0 0 0 [(0, .ref a0)] [] h
  unfold wX10_isConsistent at w
  refine X_aload_n (j := 0) (show decode cX10_isConsistent 0 = .ok (.aload_n 0, 1) by decide +kernel) rfl rfl ?_
  refine X_iconst (v := (nI 0)) (show decode cX10_isConsistent 1 = .ok (.iconst 0, 1) by decide +kernel) (by decide) ?_
  obtain ⟨s1, w⟩ := w
  refine X_putI fp_X10_56 (show decode cX10_isConsistent 2 = .ok (.putfield 56, 3) by decide +kernel) (fun z => nomatch z) s1 rfl rfl ?_
  have w := w _ rfl
  refine X_iconst (v := (nI 1)) (show decode cX10_isConsistent 5 = .ok (.iconst 1, 1) by decide +kernel) (by decide) ?_
  exact X_iret ⟨(show decode cX10_isConsistent 6 = .ok (.ireturn, 1) by decide +kernel), .boolean, rfl, (by decide)⟩ ⟨_, rfl, w⟩
set_option maxRecDepth 100000 in
set_option maxHeartbeats 4000000 in
theorem kX10_writes {a0 : Nat} {a1 : Int32} {h : AH} {K : AH → Prop} (w : wX10_writes a0 a1 h K) : Cn mX10_writes (cwd mX10_writes) 1 0 0 [.ref a0, .int a1] h (KV K) T0 := by
  refine Cn_of (by decide +kernel) rfl (Nat.le_of_ble_eq_true rfl) ?_
  show X mX10_writes 1 (KV K) T0 0 0 0 [(0, .ref a0), (1, .int a1)] [] h
  unfold wX10_writes at w
  refine X_aload_n (j := 0) (show decode cX10_writes 0 = .ok (.aload_n 0, 1) by decide +kernel) rfl rfl ?_
  obtain ⟨s1, w⟩ := w
  refine X_getR fl_X10_28 (show decode cX10_writes 1 = .ok (.getfield 28, 3) by decide +kernel) s1 ?_
  refine X_aload_n (j := 0) (show decode cX10_writes 4 = .ok (.aload_n 0, 1) by decide +kernel) rfl rfl ?_
  refine X_getI fl_X10_230 (show decode cX10_writes 5 = .ok (.getfield 230, 3) by decide +kernel) s1 ?_
  refine X_iload_n (j := 1) (show decode cX10_writes 8 = .ok (.iload_n 1, 1) by decide +kernel) rfl rfl ?_
  obtain ⟨s2, w⟩ := w
  obtain ⟨s3, w⟩ := w
  obtain ⟨s4, w⟩ := w
  refine X_iast (show decode cX10_writes 9 = .ok (.iastore, 1) by decide +kernel) (isA_eq s2) s3 s4 ?_
  have w := w _ rfl
  refine X_aload_n (j := 0) (show decode cX10_writes 10 = .ok (.aload_n 0, 1) by decide +kernel) rfl rfl ?_
  refine X_dup (show decode cX10_writes 11 = .ok (.dup, 1) by decide +kernel) rfl ?_
  refine X_getI fl_X10_230 (show decode cX10_writes 12 = .ok (.getfield 230, 3) by decide +kernel) s1 ?_
  refine X_iconst (v := (nI 1)) (show decode cX10_writes 15 = .ok (.iconst 1, 1) by decide +kernel) (by decide) ?_
  refine X_iadd (show decode cX10_writes 16 = .ok (.iadd, 1) by decide +kernel) ?_
  refine X_putI fp_X10_230 (show decode cX10_writes 17 = .ok (.putfield 230, 3) by decide +kernel) (fun z => nomatch z) s1 rfl rfl ?_
  have w := w _ rfl
  exact X_vret ⟨(show decode cX10_writes 20 = .ok (.return_, 1) by decide +kernel), rfl⟩ ⟨rfl, w⟩
set_option maxRecDepth 100000 in
set_option maxHeartbeats 4000000 in
theorem kX10_writesNumber_J62 {K : AH → Prop}   (x0 : Nat) (x1 : Int32) (h : AH) (w : wX10_writesNumber_J62 K  x0 x1 h) : X mX10_writesNumber 2 (KV K) T0 0 0 62 [(0, .ref x0), (1, .int x1)] [] h := by
  unfold wX10_writesNumber_J62 at w
  refine X_aload_n (j := 0) (show decode cX10_writesNumber 62 = .ok (.aload_n 0, 1) by decide +kernel) rfl rfl ?_
  refine X_bipush (v := (nI 48)) (show decode cX10_writesNumber 63 = .ok (.bipush 48, 2) by decide +kernel) (by decide) ?_
  refine X_iload_n (j := 1) (show decode cX10_writesNumber 65 = .ok (.iload_n 1, 1) by decide +kernel) rfl rfl ?_
  refine X_bipush (v := (nI 10)) (show decode cX10_writesNumber 66 = .ok (.bipush 10, 2) by decide +kernel) (by decide) ?_
  refine X_irem (show decode cX10_writesNumber 68 = .ok (.irem, 1) by decide +kernel) (by decide) ?_
  refine X_iadd (show decode cX10_writesNumber 69 = .ok (.iadd, 1) by decide +kernel) ?_
  obtain ⟨s6, w⟩ := w
  refine X_vV (rc' := 0) (rs' := 0) (as := [.int _]) mv_X10_233 (show decode cX10_writesNumber 70 = .ok (.invokevirtual 233, 3) by decide +kernel) (by decide) (Nat.le_of_ble_eq_true rfl) (Nat.le_of_ble_eq_true rfl) rfl rfl (Nat.le_of_ble_eq_true rfl) (rcvD s6 (by decide) rfl) (kX10_writes w) (fun E h hk => hk.elim) (fun h4 w => ?_)
  exact X_vret ⟨(show decode cX10_writesNumber 73 = .ok (.return_, 1) by decide +kernel), rfl⟩ ⟨rfl, w⟩
set_option maxRecDepth 100000 in
set_option maxHeartbeats 4000000 in
theorem kX10_writesNumber_J42 {K : AH → Prop}   (x0 : Nat) (x1 : Int32) (h : AH) (w : wX10_writesNumber_J42 K  x0 x1 h) : X mX10_writesNumber 2 (KV K) T0 0 0 42 [(0, .ref x0), (1, .int x1)] [] h := by
  unfold wX10_writesNumber_J42 at w
  refine X_iload_n (j := 1) (show decode cX10_writesNumber 42 = .ok (.iload_n 1, 1) by decide +kernel) rfl rfl ?_
  refine X_bipush (v := (nI 9)) (show decode cX10_writesNumber 43 = .ok (.bipush 9, 2) by decide +kernel) (by decide) ?_
  refine X_icmp_le (tgt := 62) (show decode cX10_writesNumber 45 = .ok (.if_icmp .le 17, 3) by decide +kernel) (by decide) ⟨fun c3 => ?_, fun c3 => ?_⟩
  · have w := w.1 c3
    exact kX10_writesNumber_J62  _ _ _ w
  · have w := w.2 c3
    refine X_aload_n (j := 0) (show decode cX10_writesNumber 48 = .ok (.aload_n 0, 1) by decide +kernel) rfl rfl ?_
    refine X_bipush (v := (nI 48)) (show decode cX10_writesNumber 49 = .ok (.bipush 48, 2) by decide +kernel) (by decide) ?_
    refine X_iload_n (j := 1) (show decode cX10_writesNumber 51 = .ok (.iload_n 1, 1) by decide +kernel) rfl rfl ?_
    refine X_bipush (v := (nI 10)) (show decode cX10_writesNumber 52 = .ok (.bipush 10, 2) by decide +kernel) (by decide) ?_
    refine X_idiv (show decode cX10_writesNumber 54 = .ok (.idiv, 1) by decide +kernel) (by decide) ?_
    refine X_bipush (v := (nI 10)) (show decode cX10_writesNumber 55 = .ok (.bipush 10, 2) by decide +kernel) (by decide) ?_
    refine X_irem (show decode cX10_writesNumber 57 = .ok (.irem, 1) by decide +kernel) (by decide) ?_
    refine X_iadd (show decode cX10_writesNumber 58 = .ok (.iadd, 1) by decide +kernel) ?_
    obtain ⟨s9, w⟩ := w
    refine X_vV (rc' := 0) (rs' := 0) (as := [.int _]) mv_X10_233 (show decode cX10_writesNumber 59 = .ok (.invokevirtual 233, 3) by decide +kernel) (by decide) (Nat.le_of_ble_eq_true rfl) (Nat.le_of_ble_eq_true rfl) rfl rfl (Nat.le_of_ble_eq_true rfl) (rcvD s9 (by decide) rfl) (kX10_writes w) (fun E h hk => hk.elim) (fun h7 w => ?_)
    exact kX10_writesNumber_J62  _ _ _ w
set_option maxRecDepth 100000 in
set_option maxHeartbeats 4000000 in
theorem kX10_writesNumber_J22 {K : AH → Prop}   (x0 : Nat) (x1 : Int32) (h : AH) (w : wX10_writesNumber_J22 K  x0 x1 h) : X mX10_writesNumber 2 (KV K) T0 0 0 22 [(0, .ref x0), (1, .int x1)] [] h := by
  unfold wX10_writesNumber_J22 at w
  refine X_iload_n (j := 1) (show decode cX10_writesNumber 22 = .ok (.iload_n 1, 1) by decide +kernel) rfl rfl ?_
  refine X_bipush (v := (nI 99)) (show decode cX10_writesNumber 23 = .ok (.bipush 99, 2) by decide +kernel) (by decide) ?_
  refine X_icmp_le (tgt := 42) (show decode cX10_writesNumber 25 = .ok (.if_icmp .le 17, 3) by decide +kernel) (by decide) ⟨fun c2 => ?_, fun c2 => ?_⟩
  · have w := w.1 c2
    exact kX10_writesNumber_J42  _ _ _ w
  · have w := w.2 c2
    refine X_aload_n (j := 0) (show decode cX10_writesNumber 28 = .ok (.aload_n 0, 1) by decide +kernel) rfl rfl ?_
    refine X_bipush (v := (nI 48)) (show decode cX10_writesNumber 29 = .ok (.bipush 48, 2) by decide +kernel) (by decide) ?_
    refine X_iload_n (j := 1) (show decode cX10_writesNumber 31 = .ok (.iload_n 1, 1) by decide +kernel) rfl rfl ?_
    refine X_bipush (v := (nI 100)) (show decode cX10_writesNumber 32 = .ok (.bipush 100, 2) by decide +kernel) (by decide) ?_
    refine X_idiv (show decode cX10_writesNumber 34 = .ok (.idiv, 1) by decide +kernel) (by decide) ?_
    refine X_bipush (v := (nI 10)) (show decode cX10_writesNumber 35 = .ok (.bipush 10, 2) by decide +kernel) (by decide) ?_
    refine X_irem (show decode cX10_writesNumber 37 = .ok (.irem, 1) by decide +kernel) (by decide) ?_
    refine X_iadd (show decode cX10_writesNumber 38 = .ok (.iadd, 1) by decide +kernel) ?_
    obtain ⟨s12, w⟩ := w
    refine X_vV (rc' := 0) (rs' := 0) (as := [.int _]) mv_X10_233 (show decode cX10_writesNumber 39 = .ok (.invokevirtual 233, 3) by decide +kernel) (by decide) (Nat.le_of_ble_eq_true rfl) (Nat.le_of_ble_eq_true rfl) rfl rfl (Nat.le_of_ble_eq_true rfl) (rcvD s12 (by decide) rfl) (kX10_writes w) (fun E h hk => hk.elim) (fun h10 w => ?_)
    exact kX10_writesNumber_J42  _ _ _ w
set_option maxRecDepth 100000 in
set_option maxHeartbeats 4000000 in
theorem kX10_writesNumber {a0 : Nat} {a1 : Int32} {h : AH} {K : AH → Prop} (w : wX10_writesNumber a0 a1 h K) : Cn mX10_writesNumber (cwd mX10_writesNumber) 2 0 0 [.ref a0, .int a1] h (KV K) T0 := by
  refine Cn_of (by decide +kernel) rfl (Nat.le_of_ble_eq_true rfl) ?_
  show X mX10_writesNumber 2 (KV K) T0 0 0 0 [(0, .ref a0), (1, .int a1)] [] h
  unfold wX10_writesNumber at w
  refine X_iload_n (j := 1) (show decode cX10_writesNumber 0 = .ok (.iload_n 1, 1) by decide +kernel) rfl rfl ?_
  refine X_sipush (v := (nI 999)) (show decode cX10_writesNumber 1 = .ok (.sipush 999, 3) by decide +kernel) (by decide) ?_
  refine X_icmp_le (tgt := 22) (show decode cX10_writesNumber 4 = .ok (.if_icmp .le 18, 3) by decide +kernel) (by decide) ⟨fun c1 => ?_, fun c1 => ?_⟩
  · have w := w.1 c1
    exact kX10_writesNumber_J22  _ _ _ w
  · have w := w.2 c1
    refine X_aload_n (j := 0) (show decode cX10_writesNumber 7 = .ok (.aload_n 0, 1) by decide +kernel) rfl rfl ?_
    refine X_bipush (v := (nI 48)) (show decode cX10_writesNumber 8 = .ok (.bipush 48, 2) by decide +kernel) (by decide) ?_
    refine X_iload_n (j := 1) (show decode cX10_writesNumber 10 = .ok (.iload_n 1, 1) by decide +kernel) rfl rfl ?_
    refine X_sipush (v := (nI 1000)) (show decode cX10_writesNumber 11 = .ok (.sipush 1000, 3) by decide +kernel) (by decide) ?_
    refine X_idiv (show decode cX10_writesNumber 14 = .ok (.idiv, 1) by decide +kernel) (by decide) ?_
    refine X_bipush (v := (nI 10)) (show decode cX10_writesNumber 15 = .ok (.bipush 10, 2) by decide +kernel) (by decide) ?_
    refine X_irem (show decode cX10_writesNumber 17 = .ok (.irem, 1) by decide +kernel) (by decide) ?_
    refine X_iadd (show decode cX10_writesNumber 18 = .ok (.iadd, 1) by decide +kernel) ?_
    obtain ⟨s15, w⟩ := w
    refine X_vV (rc' := 0) (rs' := 0) (as := [.int _]) mv_X10_233 (show decode cX10_writesNumber 19 = .ok (.invokevirtual 233, 3) by decide +kernel) (by decide) (Nat.le_of_ble_eq_true rfl) (Nat.le_of_ble_eq_true rfl) rfl rfl (Nat.le_of_ble_eq_true rfl) (rcvD s15 (by decide) rfl) (kX10_writes w) (fun E h hk => hk.elim) (fun h13 w => ?_)
    exact kX10_writesNumber_J22  _ _ _ w
set_option maxRecDepth 100000 in
set_option maxHeartbeats 4000000 in
theorem kX10_writeBlocks_J51 {K : Int32 → AH → Prop} {c12 : Nat → Int32 → AH → Prop} (hc12 : ∀ x0 x1 h, c12 x0 x1 h → X mX10_writeBlocks 3 (KI K) T0 0 0 12 [(0, .ref x0), (1, .int x1)] [] h) (x0 : Nat) (x1 : Int32) (x2 : Int32) (h : AH) (w : wX10_writeBlocks_J51 K c12 x0 x1 x2 h) : X mX10_writeBlocks 3 (KI K) T0 0 0 51 [(0, .ref x0), (1, .int x1), (2, .int x2)] [] h := by
  unfold wX10_writeBlocks_J51 at w
  refine X_iload_n (j := 2) (show decode cX10_writeBlocks 51 = .ok (.iload_n 2, 1) by decide +kernel) rfl rfl ?_
  refine X_bipush (v := (nI 114)) (show decode cX10_writeBlocks 52 = .ok (.bipush 114, 2) by decide +kernel) (by decide) ?_
  refine X_icmp_ne (tgt := 69) (show decode cX10_writeBlocks 54 = .ok (.if_icmp .ne 15, 3) by decide +kernel) (by decide) ⟨fun c13 => ?_, fun c13 => ?_⟩
  · have w := w.1 c13
    refine X_iinc (j := 1) (v := _ + (nI 1)) (ls' := [(0, .ref _), (1, .int _), (2, .int _)]) (show decode cX10_writeBlocks 69 = .ok (.iinc 1 1, 3) by decide +kernel) rfl rfl (Nat.le_of_ble_eq_true rfl) rfl ?_
    refine X_goto (tgt := 12) (show decode cX10_writeBlocks 72 = .ok (.goto (-60), 3) by decide +kernel) (by decide) ?_
    refine X_pick (ls' := [(0, .ref _), (1, .int _)]) [0, 1] rfl ?_
    exact hc12 _ _ _ w
  · have w := w.2 c13
    refine X_aload_n (j := 0) (show decode cX10_writeBlocks 57 = .ok (.aload_n 0, 1) by decide +kernel) rfl rfl ?_
    refine X_aload_n (j := 0) (show decode cX10_writeBlocks 58 = .ok (.aload_n 0, 1) by decide +kernel) rfl rfl ?_
    refine X_iload_n (j := 1) (show decode cX10_writeBlocks 59 = .ok (.iload_n 1, 1) by decide +kernel) rfl rfl ?_
    refine X_iconst (v := (nI 5)) (show decode cX10_writeBlocks 60 = .ok (.iconst 5, 1) by decide +kernel) (by decide) ?_
    obtain ⟨s19, w⟩ := w
    refine X_vI (rc' := 0) (rs' := 0) (as := [.int _, .int _]) mv_X10_80 (show decode cX10_writeBlocks 61 = .ok (.invokevirtual 80, 3) by decide +kernel) (by decide) (Nat.le_of_ble_eq_true rfl) (Nat.le_of_ble_eq_true rfl) rfl rfl (Nat.le_of_ble_eq_true rfl) (rcvD s19 (by decide) rfl) (kX10_block w) (fun E h hk => hk.elim) (fun r15 h14 w => ?_)
    refine X_iconst (v := (nI 1)) (show decode cX10_writeBlocks 64 = .ok (.iconst 1, 1) by decide +kernel) (by decide) ?_
    refine X_isub (show decode cX10_writeBlocks 65 = .ok (.isub, 1) by decide +kernel) ?_
    obtain ⟨s18, w⟩ := w
    refine X_vV (rc' := 0) (rs' := 0) (as := [.int _]) mv_X10_236 (show decode cX10_writeBlocks 66 = .ok (.invokevirtual 236, 3) by decide +kernel) (by decide) (Nat.le_of_ble_eq_true rfl) (Nat.le_of_ble_eq_true rfl) rfl rfl (Nat.le_of_ble_eq_true rfl) (rcvD s18 (by decide) rfl) (kX10_writesNumber w) (fun E h hk => hk.elim) (fun h16 w => ?_)
    refine X_iinc (j := 1) (v := _ + (nI 1)) (ls' := [(0, .ref _), (1, .int _), (2, .int _)]) (show decode cX10_writeBlocks 69 = .ok (.iinc 1 1, 3) by decide +kernel) rfl rfl (Nat.le_of_ble_eq_true rfl) rfl ?_
    refine X_goto (tgt := 12) (show decode cX10_writeBlocks 72 = .ok (.goto (-60), 3) by decide +kernel) (by decide) ?_
    refine X_pick (ls' := [(0, .ref _), (1, .int _)]) [0, 1] rfl ?_
    exact hc12 _ _ _ w
set_option maxRecDepth 100000 in
set_option maxHeartbeats 4000000 in
theorem kX10_writeBlocks_L12 {K : Int32 → AH → Prop}    : ∀ (n : Nat) (x0 : Nat) (x1 : Int32) (h : AH), wX10_writeBlocks_L12 K   n x0 x1 h → X mX10_writeBlocks 3 (KI K) T0 0 0 12 [(0, .ref x0), (1, .int x1)] [] h := by
  intro n
  induction n with
  | zero => intro _ _ _ w; exact w.elim
  | succ n ih =>
    intro x0 x1 h w
    rw [wX10_writeBlocks_L12] at w
    refine X_iload_n (j := 1) (show decode cX10_writeBlocks 12 = .ok (.iload_n 1, 1) by decide +kernel) rfl rfl ?_
    refine X_aload_n (j := 0) (show decode cX10_writeBlocks 13 = .ok (.aload_n 0, 1) by decide +kernel) rfl rfl ?_
    obtain ⟨s4, w⟩ := w
    refine X_getR fl_X10_7 (show decode cX10_writeBlocks 14 = .ok (.getfield 7, 3) by decide +kernel) s4 ?_
    refine X_iconst (v := (nI 0)) (show decode cX10_writeBlocks 17 = .ok (.iconst 0, 1) by decide +kernel) (by decide) ?_
    obtain ⟨s5, w⟩ := w
    obtain ⟨s6, w⟩ := w
    refine X_iald (show decode cX10_writeBlocks 18 = .ok (.iaload, 1) by decide +kernel) (isA_eq s5) s6 ?_
    refine X_icmp_ge (tgt := 75) (show decode cX10_writeBlocks 19 = .ok (.if_icmp .ge 56, 3) by decide +kernel) (by decide) ⟨fun c7 => ?_, fun c7 => ?_⟩
    · have w := w.1 c7
      refine X_aload_n (j := 0) (show decode cX10_writeBlocks 75 = .ok (.aload_n 0, 1) by decide +kernel) rfl rfl ?_
      refine X_getI fl_X10_230 (show decode cX10_writeBlocks 76 = .ok (.getfield 230, 3) by decide +kernel) s4 ?_
      exact X_iret ⟨(show decode cX10_writeBlocks 79 = .ok (.ireturn, 1) by decide +kernel), .int, rfl, rfl⟩ ⟨_, rfl, w⟩
    · have w := w.2 c7
      refine X_aload_n (j := 0) (show decode cX10_writeBlocks 22 = .ok (.aload_n 0, 1) by decide +kernel) rfl rfl ?_
      refine X_iload_n (j := 1) (show decode cX10_writeBlocks 23 = .ok (.iload_n 1, 1) by decide +kernel) rfl rfl ?_
      refine X_vI (rc' := 0) (rs' := 0) (as := [.int _]) mv_X10_103 (show decode cX10_writeBlocks 24 = .ok (.invokevirtual 103, 3) by decide +kernel) (by decide) (Nat.le_of_ble_eq_true rfl) (Nat.le_of_ble_eq_true rfl) rfl rfl (Nat.le_of_ble_eq_true rfl) (rcvD s4 (by decide) rfl) (kX10_look w) (fun E h hk => hk.elim) (fun r9 h8 w => ?_)
      refine X_istore_n (ls' := [(0, .ref _), (1, .int _), (2, .int _)]) (show decode cX10_writeBlocks 27 = .ok (.istore_n 2, 1) by decide +kernel) rfl (by decide) rfl ?_
      refine X_aload_n (j := 0) (show decode cX10_writeBlocks 28 = .ok (.aload_n 0, 1) by decide +kernel) rfl rfl ?_
      refine X_iload_n (j := 2) (show decode cX10_writeBlocks 29 = .ok (.iload_n 2, 1) by decide +kernel) rfl rfl ?_
      obtain ⟨s26, w⟩ := w
      refine X_vV (rc' := 0) (rs' := 0) (as := [.int _]) mv_X10_233 (show decode cX10_writeBlocks 30 = .ok (.invokevirtual 233, 3) by decide +kernel) (by decide) (Nat.le_of_ble_eq_true rfl) (Nat.le_of_ble_eq_true rfl) rfl rfl (Nat.le_of_ble_eq_true rfl) (rcvD s26 (by decide) rfl) (kX10_writes w) (fun E h hk => hk.elim) (fun h10 w => ?_)
      refine X_iload_n (j := 2) (show decode cX10_writeBlocks 33 = .ok (.iload_n 2, 1) by decide +kernel) rfl rfl ?_
      refine X_bipush (v := (nI 111)) (show decode cX10_writeBlocks 34 = .ok (.bipush 111, 2) by decide +kernel) (by decide) ?_
      refine X_icmp_ne (tgt := 51) (show decode cX10_writeBlocks 36 = .ok (.if_icmp .ne 15, 3) by decide +kernel) (by decide) ⟨fun c12 => ?_, fun c12 => ?_⟩
      · have w := w.1 c12
        exact kX10_writeBlocks_J51 ih _ _ _ _ w
      · have w := w.2 c12
        refine X_aload_n (j := 0) (show decode cX10_writeBlocks 39 = .ok (.aload_n 0, 1) by decide +kernel) rfl rfl ?_
        refine X_aload_n (j := 0) (show decode cX10_writeBlocks 40 = .ok (.aload_n 0, 1) by decide +kernel) rfl rfl ?_
        refine X_iload_n (j := 1) (show decode cX10_writeBlocks 41 = .ok (.iload_n 1, 1) by decide +kernel) rfl rfl ?_
        refine X_iconst (v := (nI 4)) (show decode cX10_writeBlocks 42 = .ok (.iconst 4, 1) by decide +kernel) (by decide) ?_
        obtain ⟨s25, w⟩ := w
        refine X_vI (rc' := 0) (rs' := 0) (as := [.int _, .int _]) mv_X10_80 (show decode cX10_writeBlocks 43 = .ok (.invokevirtual 80, 3) by decide +kernel) (by decide) (Nat.le_of_ble_eq_true rfl) (Nat.le_of_ble_eq_true rfl) rfl rfl (Nat.le_of_ble_eq_true rfl) (rcvD s25 (by decide) rfl) (kX10_block w) (fun E h hk => hk.elim) (fun r21 h20 w => ?_)
        refine X_iconst (v := (nI 1)) (show decode cX10_writeBlocks 46 = .ok (.iconst 1, 1) by decide +kernel) (by decide) ?_
        refine X_isub (show decode cX10_writeBlocks 47 = .ok (.isub, 1) by decide +kernel) ?_
        obtain ⟨s24, w⟩ := w
        refine X_vV (rc' := 0) (rs' := 0) (as := [.int _]) mv_X10_236 (show decode cX10_writeBlocks 48 = .ok (.invokevirtual 236, 3) by decide +kernel) (by decide) (Nat.le_of_ble_eq_true rfl) (Nat.le_of_ble_eq_true rfl) rfl rfl (Nat.le_of_ble_eq_true rfl) (rcvD s24 (by decide) rfl) (kX10_writesNumber w) (fun E h hk => hk.elim) (fun h22 w => ?_)
        exact kX10_writeBlocks_J51 ih _ _ _ _ w
set_option maxRecDepth 100000 in
set_option maxHeartbeats 4000000 in
theorem kX10_writeBlocks {a0 : Nat} {h : AH} {K : Int32 → AH → Prop} (w : wX10_writeBlocks a0 h K) : Cn mX10_writeBlocks (cwd mX10_writeBlocks) 3 0 0 [.ref a0] h (KI K) T0 := by
  refine Cn_of (by decide +kernel) rfl (Nat.le_of_ble_eq_true rfl) ?_
  show X mX10_writeBlocks 3 (KI K) T0 0 0 0 [(0, .ref a0)] [] h
  unfold wX10_writeBlocks at w
  refine X_aload_n (j := 0) (show decode cX10_writeBlocks 0 = .ok (.aload_n 0, 1) by decide +kernel) rfl rfl ?_
  refine X_iconst (v := (nI 0)) (show decode cX10_writeBlocks 1 = .ok (.iconst 0, 1) by decide +kernel) (by decide) ?_
  obtain ⟨s1, w⟩ := w
  refine X_putI fp_X10_56 (show decode cX10_writeBlocks 2 = .ok (.putfield 56, 3) by decide +kernel) (fun z => nomatch z) s1 rfl rfl ?_
  have w := w _ rfl
  refine X_aload_n (j := 0) (show decode cX10_writeBlocks 5 = .ok (.aload_n 0, 1) by decide +kernel) rfl rfl ?_
  refine X_iconst (v := (nI 0)) (show decode cX10_writeBlocks 6 = .ok (.iconst 0, 1) by decide +kernel) (by decide) ?_
  refine X_putI fp_X10_230 (show decode cX10_writeBlocks 7 = .ok (.putfield 230, 3) by decide +kernel) (fun z => nomatch z) s1 rfl rfl ?_
  have w := w _ rfl
  refine X_iconst (v := (nI 0)) (show decode cX10_writeBlocks 10 = .ok (.iconst 0, 1) by decide +kernel) (by decide) ?_
  refine X_istore_n (ls' := [(0, .ref _), (1, .int _)]) (show decode cX10_writeBlocks 11 = .ok (.istore_n 1, 1) by decide +kernel) rfl (by decide) rfl ?_
  obtain ⟨n27, w⟩ := w
  exact kX10_writeBlocks_L12  n27 _ _ _ w
set_option maxRecDepth 100000 in
set_option maxHeartbeats 4000000 in
theorem kX10_writeTrain_L57 {K : Int32 → AH → Prop}    : ∀ (n : Nat) (x0 : Nat) (x2 : Int32) (x3 : Int32) (h : AH), wX10_writeTrain_L57 K   n x0 x2 x3 h → X mX10_writeTrain 3 (KI K) T0 0 0 57 [(0, .ref x0), (2, .int x2), (3, .int x3)] [] h := by
  intro n
  induction n with
  | zero => intro _ _ _ _ w; exact w.elim
  | succ n ih =>
    intro x0 x2 x3 h w
    rw [wX10_writeTrain_L57] at w
    refine X_iload_n (j := 2) (show decode cX10_writeTrain 57 = .ok (.iload_n 3, 1) by decide +kernel) rfl rfl ?_
    refine X_aload_n (j := 0) (show decode cX10_writeTrain 58 = .ok (.aload_n 0, 1) by decide +kernel) rfl rfl ?_
    refine X_iload_n (j := 1) (show decode cX10_writeTrain 59 = .ok (.iload_n 2, 1) by decide +kernel) rfl rfl ?_
    refine X_bipush (v := (nI 6)) (show decode cX10_writeTrain 60 = .ok (.bipush 6, 2) by decide +kernel) (by decide) ?_
    obtain ⟨s44, w⟩ := w
    refine X_vI (rc' := 0) (rs' := 0) (as := [.int _, .int _]) mv_X10_76 (show decode cX10_writeTrain 62 = .ok (.invokevirtual 76, 3) by decide +kernel) (by decide) (Nat.le_of_ble_eq_true rfl) (Nat.le_of_ble_eq_true rfl) rfl rfl (Nat.le_of_ble_eq_true rfl) (rcvD s44 (by decide) rfl) (kX10_train w) (fun E h hk => hk.elim) (fun r18 h17 w => ?_)
    refine X_icmp_ge (tgt := 93) (show decode cX10_writeTrain 65 = .ok (.if_icmp .ge 28, 3) by decide +kernel) (by decide) ⟨fun c19 => ?_, fun c19 => ?_⟩
    · have w := w.1 c19
      refine X_aload_n (j := 0) (show decode cX10_writeTrain 93 = .ok (.aload_n 0, 1) by decide +kernel) rfl rfl ?_
      refine X_iload_n (j := 1) (show decode cX10_writeTrain 94 = .ok (.iload_n 2, 1) by decide +kernel) rfl rfl ?_
      refine X_iconst (v := (nI 3)) (show decode cX10_writeTrain 95 = .ok (.iconst 3, 1) by decide +kernel) (by decide) ?_
      obtain ⟨s34, w⟩ := w
      refine X_vI (rc' := 0) (rs' := 0) (as := [.int _, .int _]) mv_X10_76 (show decode cX10_writeTrain 96 = .ok (.invokevirtual 76, 3) by decide +kernel) (by decide) (Nat.le_of_ble_eq_true rfl) (Nat.le_of_ble_eq_true rfl) rfl rfl (Nat.le_of_ble_eq_true rfl) (rcvD s34 (by decide) rfl) (kX10_train w) (fun E h hk => hk.elim) (fun r21 h20 w => ?_)
      refine X_if_ne (tgt := 118) (show decode cX10_writeTrain 99 = .ok (.ifCond .ne 19, 3) by decide +kernel) (by decide) ⟨fun c22 => ?_, fun c22 => ?_⟩
      · have w := w.1 c22
        refine X_aload_n (j := 0) (show decode cX10_writeTrain 118 = .ok (.aload_n 0, 1) by decide +kernel) rfl rfl ?_
        obtain ⟨s23, w⟩ := w
        refine X_getI fl_X10_230 (show decode cX10_writeTrain 119 = .ok (.getfield 230, 3) by decide +kernel) s23 ?_
        exact X_iret ⟨(show decode cX10_writeTrain 122 = .ok (.ireturn, 1) by decide +kernel), .int, rfl, rfl⟩ ⟨_, rfl, w⟩
      · have w := w.2 c22
        refine X_aload_n (j := 0) (show decode cX10_writeTrain 102 = .ok (.aload_n 0, 1) by decide +kernel) rfl rfl ?_
        refine X_bipush (v := (nI 63)) (show decode cX10_writeTrain 103 = .ok (.bipush 63, 2) by decide +kernel) (by decide) ?_
        obtain ⟨s33, w⟩ := w
        refine X_vV (rc' := 0) (rs' := 0) (as := [.int _]) mv_X10_233 (show decode cX10_writeTrain 105 = .ok (.invokevirtual 233, 3) by decide +kernel) (by decide) (Nat.le_of_ble_eq_true rfl) (Nat.le_of_ble_eq_true rfl) rfl rfl (Nat.le_of_ble_eq_true rfl) (rcvD s33 (by decide) rfl) (kX10_writes w) (fun E h hk => hk.elim) (fun h24 w => ?_)
        refine X_aload_n (j := 0) (show decode cX10_writeTrain 108 = .ok (.aload_n 0, 1) by decide +kernel) rfl rfl ?_
        refine X_aload_n (j := 0) (show decode cX10_writeTrain 109 = .ok (.aload_n 0, 1) by decide +kernel) rfl rfl ?_
        refine X_iload_n (j := 1) (show decode cX10_writeTrain 110 = .ok (.iload_n 2, 1) by decide +kernel) rfl rfl ?_
        refine X_iconst (v := (nI 2)) (show decode cX10_writeTrain 111 = .ok (.iconst 2, 1) by decide +kernel) (by decide) ?_
        obtain ⟨s32, w⟩ := w
        refine X_vI (rc' := 0) (rs' := 0) (as := [.int _, .int _]) mv_X10_76 (show decode cX10_writeTrain 112 = .ok (.invokevirtual 76, 3) by decide +kernel) (by decide) (Nat.le_of_ble_eq_true rfl) (Nat.le_of_ble_eq_true rfl) rfl rfl (Nat.le_of_ble_eq_true rfl) (rcvD s32 (by decide) rfl) (kX10_train w) (fun E h hk => hk.elim) (fun r27 h26 w => ?_)
        obtain ⟨s31, w⟩ := w
        refine X_vV (rc' := 0) (rs' := 0) (as := [.int _]) mv_X10_236 (show decode cX10_writeTrain 115 = .ok (.invokevirtual 236, 3) by decide +kernel) (by decide) (Nat.le_of_ble_eq_true rfl) (Nat.le_of_ble_eq_true rfl) rfl rfl (Nat.le_of_ble_eq_true rfl) (rcvD s31 (by decide) rfl) (kX10_writesNumber w) (fun E h hk => hk.elim) (fun h28 w => ?_)
        refine X_aload_n (j := 0) (show decode cX10_writeTrain 118 = .ok (.aload_n 0, 1) by decide +kernel) rfl rfl ?_
        obtain ⟨s30, w⟩ := w
        refine X_getI fl_X10_230 (show decode cX10_writeTrain 119 = .ok (.getfield 230, 3) by decide +kernel) s30 ?_
        exact X_iret ⟨(show decode cX10_writeTrain 122 = .ok (.ireturn, 1) by decide +kernel), .int, rfl, rfl⟩ ⟨_, rfl, w⟩
    · have w := w.2 c19
      refine X_aload_n (j := 0) (show decode cX10_writeTrain 68 = .ok (.aload_n 0, 1) by decide +kernel) rfl rfl ?_
      refine X_bipush (v := (nI 62)) (show decode cX10_writeTrain 69 = .ok (.bipush 62, 2) by decide +kernel) (by decide) ?_
      obtain ⟨s43, w⟩ := w
      refine X_vV (rc' := 0) (rs' := 0) (as := [.int _]) mv_X10_233 (show decode cX10_writeTrain 71 = .ok (.invokevirtual 233, 3) by decide +kernel) (by decide) (Nat.le_of_ble_eq_true rfl) (Nat.le_of_ble_eq_true rfl) rfl rfl (Nat.le_of_ble_eq_true rfl) (rcvD s43 (by decide) rfl) (kX10_writes w) (fun E h hk => hk.elim) (fun h35 w => ?_)
      refine X_aload_n (j := 0) (show decode cX10_writeTrain 74 = .ok (.aload_n 0, 1) by decide +kernel) rfl rfl ?_
      refine X_aload_n (j := 0) (show decode cX10_writeTrain 75 = .ok (.aload_n 0, 1) by decide +kernel) rfl rfl ?_
      refine X_iload_n (j := 1) (show decode cX10_writeTrain 76 = .ok (.iload_n 2, 1) by decide +kernel) rfl rfl ?_
      refine X_bipush (v := (nI 7)) (show decode cX10_writeTrain 77 = .ok (.bipush 7, 2) by decide +kernel) (by decide) ?_
      refine X_iload_n (j := 2) (show decode cX10_writeTrain 79 = .ok (.iload_n 3, 1) by decide +kernel) rfl rfl ?_
      refine X_iadd (show decode cX10_writeTrain 80 = .ok (.iadd, 1) by decide +kernel) ?_
      obtain ⟨s42, w⟩ := w
      refine X_vI (rc' := 0) (rs' := 0) (as := [.int _, .int _]) mv_X10_76 (show decode cX10_writeTrain 81 = .ok (.invokevirtual 76, 3) by decide +kernel) (by decide) (Nat.le_of_ble_eq_true rfl) (Nat.le_of_ble_eq_true rfl) rfl rfl (Nat.le_of_ble_eq_true rfl) (rcvD s42 (by decide) rfl) (kX10_train w) (fun E h hk => hk.elim) (fun r38 h37 w => ?_)
      obtain ⟨s41, w⟩ := w
      refine X_vV (rc' := 0) (rs' := 0) (as := [.int _]) mv_X10_236 (show decode cX10_writeTrain 84 = .ok (.invokevirtual 236, 3) by decide +kernel) (by decide) (Nat.le_of_ble_eq_true rfl) (Nat.le_of_ble_eq_true rfl) rfl rfl (Nat.le_of_ble_eq_true rfl) (rcvD s41 (by decide) rfl) (kX10_writesNumber w) (fun E h hk => hk.elim) (fun h39 w => ?_)
      refine X_iinc (j := 2) (v := _ + (nI 1)) (ls' := [(0, .ref _), (2, .int _), (3, .int _)]) (show decode cX10_writeTrain 87 = .ok (.iinc 3 1, 3) by decide +kernel) rfl rfl (Nat.le_of_ble_eq_true rfl) rfl ?_
      refine X_goto (tgt := 57) (show decode cX10_writeTrain 90 = .ok (.goto (-33), 3) by decide +kernel) (by decide) ?_
      exact ih _ _ _ _ w
set_option maxRecDepth 100000 in
set_option maxHeartbeats 4000000 in
theorem kX10_writeTrain_J17 {K : Int32 → AH → Prop}   (x0 : Nat) (x1 : Int32) (x2 : Int32) (y0 : Nat) (y1 : Int32) (h : AH) (w : wX10_writeTrain_J17 K  x0 x1 x2 y0 y1 h) : X mX10_writeTrain 3 (KI K) T0 0 0 17 [(0, .ref x0), (1, .int x1), (2, .int x2)] [.int y1, .ref y0] h := by
  unfold wX10_writeTrain_J17 at w
  obtain ⟨s4, w⟩ := w
  refine X_putI fp_X10_56 (show decode cX10_writeTrain 17 = .ok (.putfield 56, 3) by decide +kernel) (fun z => nomatch z) s4 rfl rfl ?_
  have w := w _ rfl
  refine X_aload_n (j := 0) (show decode cX10_writeTrain 20 = .ok (.aload_n 0, 1) by decide +kernel) rfl rfl ?_
  obtain ⟨s6, w⟩ := w
  refine X_getI fl_X10_56 (show decode cX10_writeTrain 21 = .ok (.getfield 56, 3) by decide +kernel) s6 ?_
  refine X_if_le (tgt := 29) (show decode cX10_writeTrain 24 = .ok (.ifCond .le 5, 3) by decide +kernel) (by decide) ⟨fun c7 => ?_, fun c7 => ?_⟩
  · have w := w.1 c7
    refine X_aload_n (j := 0) (show decode cX10_writeTrain 29 = .ok (.aload_n 0, 1) by decide +kernel) rfl rfl ?_
    refine X_iconst (v := (nI 0)) (show decode cX10_writeTrain 30 = .ok (.iconst 0, 1) by decide +kernel) (by decide) ?_
    refine X_putI fp_X10_230 (show decode cX10_writeTrain 31 = .ok (.putfield 230, 3) by decide +kernel) (fun z => nomatch z) s6 rfl rfl ?_
    have w := w _ rfl
    refine X_aload_n (j := 0) (show decode cX10_writeTrain 34 = .ok (.aload_n 0, 1) by decide +kernel) rfl rfl ?_
    refine X_iload_n (j := 1) (show decode cX10_writeTrain 35 = .ok (.iload_n 1, 1) by decide +kernel) rfl rfl ?_
    refine X_vV (rc' := 0) (rs' := 0) (as := [.int _]) mv_X10_236 (show decode cX10_writeTrain 36 = .ok (.invokevirtual 236, 3) by decide +kernel) (by decide) (Nat.le_of_ble_eq_true rfl) (Nat.le_of_ble_eq_true rfl) rfl rfl (Nat.le_of_ble_eq_true rfl) (rcvD s6 (by decide) rfl) (kX10_writesNumber w) (fun E h hk => hk.elim) (fun h9 w => ?_)
    refine X_aload_n (j := 0) (show decode cX10_writeTrain 39 = .ok (.aload_n 0, 1) by decide +kernel) rfl rfl ?_
    refine X_bipush (v := (nI 64)) (show decode cX10_writeTrain 40 = .ok (.bipush 64, 2) by decide +kernel) (by decide) ?_
    obtain ⟨s48, w⟩ := w
    refine X_vV (rc' := 0) (rs' := 0) (as := [.int _]) mv_X10_233 (show decode cX10_writeTrain 42 = .ok (.invokevirtual 233, 3) by decide +kernel) (by decide) (Nat.le_of_ble_eq_true rfl) (Nat.le_of_ble_eq_true rfl) rfl rfl (Nat.le_of_ble_eq_true rfl) (rcvD s48 (by decide) rfl) (kX10_writes w) (fun E h hk => hk.elim) (fun h11 w => ?_)
    refine X_aload_n (j := 0) (show decode cX10_writeTrain 45 = .ok (.aload_n 0, 1) by decide +kernel) rfl rfl ?_
    refine X_aload_n (j := 0) (show decode cX10_writeTrain 46 = .ok (.aload_n 0, 1) by decide +kernel) rfl rfl ?_
    refine X_iload_n (j := 2) (show decode cX10_writeTrain 47 = .ok (.iload_n 2, 1) by decide +kernel) rfl rfl ?_
    refine X_iconst (v := (nI 1)) (show decode cX10_writeTrain 48 = .ok (.iconst 1, 1) by decide +kernel) (by decide) ?_
    obtain ⟨s47, w⟩ := w
    refine X_vI (rc' := 0) (rs' := 0) (as := [.int _, .int _]) mv_X10_76 (show decode cX10_writeTrain 49 = .ok (.invokevirtual 76, 3) by decide +kernel) (by decide) (Nat.le_of_ble_eq_true rfl) (Nat.le_of_ble_eq_true rfl) rfl rfl (Nat.le_of_ble_eq_true rfl) (rcvD s47 (by decide) rfl) (kX10_train w) (fun E h hk => hk.elim) (fun r14 h13 w => ?_)
    obtain ⟨s46, w⟩ := w
    refine X_vV (rc' := 0) (rs' := 0) (as := [.int _]) mv_X10_236 (show decode cX10_writeTrain 52 = .ok (.invokevirtual 236, 3) by decide +kernel) (by decide) (Nat.le_of_ble_eq_true rfl) (Nat.le_of_ble_eq_true rfl) rfl rfl (Nat.le_of_ble_eq_true rfl) (rcvD s46 (by decide) rfl) (kX10_writesNumber w) (fun E h hk => hk.elim) (fun h15 w => ?_)
    refine X_iconst (v := (nI 1)) (show decode cX10_writeTrain 55 = .ok (.iconst 1, 1) by decide +kernel) (by decide) ?_
    refine X_istore_n (ls' := [(0, .ref _), (1, .int _), (2, .int _), (3, .int _)]) (show decode cX10_writeTrain 56 = .ok (.istore_n 3, 1) by decide +kernel) rfl (by decide) rfl ?_
    refine X_pick (ls' := [(0, .ref _), (2, .int _), (3, .int _)]) [0, 2, 3] rfl ?_
    obtain ⟨n45, w⟩ := w
    exact kX10_writeTrain_L57  n45 _ _ _ _ w
  · have w := w.2 c7
    refine X_iconst (v := (nI 0)) (show decode cX10_writeTrain 27 = .ok (.iconst 0, 1) by decide +kernel) (by decide) ?_
    exact X_iret ⟨(show decode cX10_writeTrain 28 = .ok (.ireturn, 1) by decide +kernel), .int, rfl, rfl⟩ ⟨_, rfl, w⟩
set_option maxRecDepth 100000 in
set_option maxHeartbeats 4000000 in
theorem kX10_writeTrain {a0 : Nat} {a1 : Int32} {h : AH} {K : Int32 → AH → Prop} (w : wX10_writeTrain a0 a1 h K) : Cn mX10_writeTrain (cwd mX10_writeTrain) 3 0 0 [.ref a0, .int a1] h (KI K) T0 := by
  refine Cn_of (by decide +kernel) rfl (Nat.le_of_ble_eq_true rfl) ?_
  show X mX10_writeTrain 3 (KI K) T0 0 0 0 [(0, .ref a0), (1, .int a1)] [] h
  unfold wX10_writeTrain at w
  refine X_aload_n (j := 0) (show decode cX10_writeTrain 0 = .ok (.aload_n 0, 1) by decide +kernel) rfl rfl ?_
  refine X_iload_n (j := 1) (show decode cX10_writeTrain 1 = .ok (.iload_n 1, 1) by decide +kernel) rfl rfl ?_
  obtain ⟨s49, w⟩ := w
  refine X_vI (rc' := 0) (rs' := 0) (as := [.int _]) mv_X10_132 (show decode cX10_writeTrain 2 = .ok (.invokevirtual 132, 3) by decide +kernel) (by decide) (Nat.le_of_ble_eq_true rfl) (Nat.le_of_ble_eq_true rfl) rfl rfl (Nat.le_of_ble_eq_true rfl) (rcvD s49 (by decide) rfl) (kX10_placeOf w) (fun E h hk => hk.elim) (fun r2 h1 w => ?_)
  refine X_istore_n (ls' := [(0, .ref _), (1, .int _), (2, .int _)]) (show decode cX10_writeTrain 5 = .ok (.istore_n 2, 1) by decide +kernel) rfl (by decide) rfl ?_
  refine X_aload_n (j := 0) (show decode cX10_writeTrain 6 = .ok (.aload_n 0, 1) by decide +kernel) rfl rfl ?_
  refine X_iload_n (j := 2) (show decode cX10_writeTrain 7 = .ok (.iload_n 2, 1) by decide +kernel) rfl rfl ?_
  refine X_iconst (v := (-1)) (show decode cX10_writeTrain 8 = .ok (.iconst (-1), 1) by decide +kernel) (by decide) ?_
  refine X_icmp_ne (tgt := 16) (show decode cX10_writeTrain 9 = .ok (.if_icmp .ne 7, 3) by decide +kernel) (by decide) ⟨fun c3 => ?_, fun c3 => ?_⟩
  · have w := w.1 c3
    refine X_iconst (v := (nI 0)) (show decode cX10_writeTrain 16 = .ok (.iconst 0, 1) by decide +kernel) (by decide) ?_
    exact kX10_writeTrain_J17  _ _ _ _ _ _ w
  · have w := w.2 c3
    refine X_iconst (v := (nI 1)) (show decode cX10_writeTrain 12 = .ok (.iconst 1, 1) by decide +kernel) (by decide) ?_
    refine X_goto (tgt := 17) (show decode cX10_writeTrain 13 = .ok (.goto 4, 3) by decide +kernel) (by decide) ?_
    exact kX10_writeTrain_J17  _ _ _ _ _ _ w
set_option maxRecDepth 100000 in
set_option maxHeartbeats 4000000 in
theorem kX10_charAt_J20 {K : Int32 → AH → Prop}   (x0 : Nat) (x1 : Int32) (y0 : Nat) (y1 : Int32) (h : AH) (w : wX10_charAt_J20 K  x0 x1 y0 y1 h) : X mX10_charAt 2 (KI K) T0 0 0 20 [(0, .ref x0), (1, .int x1)] [.int y1, .ref y0] h := by
  unfold wX10_charAt_J20 at w
  obtain ⟨s5, w⟩ := w
  refine X_putI fp_X10_56 (show decode cX10_charAt 20 = .ok (.putfield 56, 3) by decide +kernel) (fun z => nomatch z) s5 rfl rfl ?_
  have w := w _ rfl
  refine X_aload_n (j := 0) (show decode cX10_charAt 23 = .ok (.aload_n 0, 1) by decide +kernel) rfl rfl ?_
  obtain ⟨s7, w⟩ := w
  refine X_getI fl_X10_56 (show decode cX10_charAt 24 = .ok (.getfield 56, 3) by decide +kernel) s7 ?_
  refine X_if_le (tgt := 34) (show decode cX10_charAt 27 = .ok (.ifCond .le 7, 3) by decide +kernel) (by decide) ⟨fun c8 => ?_, fun c8 => ?_⟩
  · have w := w.1 c8
    refine X_aload_n (j := 0) (show decode cX10_charAt 34 = .ok (.aload_n 0, 1) by decide +kernel) rfl rfl ?_
    refine X_getR fl_X10_28 (show decode cX10_charAt 35 = .ok (.getfield 28, 3) by decide +kernel) s7 ?_
    refine X_iload_n (j := 1) (show decode cX10_charAt 38 = .ok (.iload_n 1, 1) by decide +kernel) rfl rfl ?_
    obtain ⟨s9, w⟩ := w
    obtain ⟨s10, w⟩ := w
    refine X_iald (show decode cX10_charAt 39 = .ok (.iaload, 1) by decide +kernel) (isA_eq s9) s10 ?_
    refine X_i2c (show decode cX10_charAt 40 = .ok (.i2c, 1) by decide +kernel) ?_
    obtain ⟨s11, w⟩ := w
    exact X_iret ⟨(show decode cX10_charAt 41 = .ok (.ireturn, 1) by decide +kernel), .char, rfl, s11⟩ ⟨_, rfl, w⟩
  · have w := w.2 c8
    refine X_iconst (v := (nI 0)) (show decode cX10_charAt 30 = .ok (.iconst 0, 1) by decide +kernel) (by decide) ?_
    refine X_goto (tgt := 41) (show decode cX10_charAt 31 = .ok (.goto 10, 3) by decide +kernel) (by decide) ?_
    exact X_iret ⟨(show decode cX10_charAt 41 = .ok (.ireturn, 1) by decide +kernel), .char, rfl, (by decide)⟩ ⟨_, rfl, w⟩
set_option maxRecDepth 100000 in
set_option maxHeartbeats 4000000 in
theorem kX10_charAt {a0 : Nat} {a1 : Int32} {h : AH} {K : Int32 → AH → Prop} (w : wX10_charAt a0 a1 h K) : Cn mX10_charAt (cwd mX10_charAt) 2 0 0 [.ref a0, .int a1] h (KI K) T0 := by
  refine Cn_of (by decide +kernel) rfl (Nat.le_of_ble_eq_true rfl) ?_
  show X mX10_charAt 2 (KI K) T0 0 0 0 [(0, .ref a0), (1, .int a1)] [] h
  unfold wX10_charAt at w
  refine X_aload_n (j := 0) (show decode cX10_charAt 0 = .ok (.aload_n 0, 1) by decide +kernel) rfl rfl ?_
  refine X_iload_n (j := 1) (show decode cX10_charAt 1 = .ok (.iload_n 1, 1) by decide +kernel) rfl rfl ?_
  refine X_iconst (v := (nI 0)) (show decode cX10_charAt 2 = .ok (.iconst 0, 1) by decide +kernel) (by decide) ?_
  refine X_aload_n (j := 0) (show decode cX10_charAt 3 = .ok (.aload_n 0, 1) by decide +kernel) rfl rfl ?_
  obtain ⟨s1, w⟩ := w
  refine X_getI fl_X10_230 (show decode cX10_charAt 4 = .ok (.getfield 230, 3) by decide +kernel) s1 ?_
  refine X_iconst (v := (nI 1)) (show decode cX10_charAt 7 = .ok (.iconst 1, 1) by decide +kernel) (by decide) ?_
  refine X_isub (show decode cX10_charAt 8 = .ok (.isub, 1) by decide +kernel) ?_
  refine X_sI (rc' := 0) (rs' := 0) (as := [.int _, .int _, .int _]) ms_X10_72 (show decode cX10_charAt 9 = .ok (.invokestatic 72, 3) by decide +kernel) (by decide) (Nat.le_of_ble_eq_true rfl) (Nat.le_of_ble_eq_true rfl) rfl rfl (Nat.le_of_ble_eq_true rfl) (kX10_in w) (fun E h hk => hk.elim) (fun r3 h2 w => ?_)
  refine X_if_eq (tgt := 19) (show decode cX10_charAt 12 = .ok (.ifCond .eq 7, 3) by decide +kernel) (by decide) ⟨fun c4 => ?_, fun c4 => ?_⟩
  · have w := w.1 c4
    refine X_iconst (v := (nI 1)) (show decode cX10_charAt 19 = .ok (.iconst 1, 1) by decide +kernel) (by decide) ?_
    exact kX10_charAt_J20  _ _ _ _ _ w
  · have w := w.2 c4
    refine X_iconst (v := (nI 0)) (show decode cX10_charAt 15 = .ok (.iconst 0, 1) by decide +kernel) (by decide) ?_
    refine X_goto (tgt := 20) (show decode cX10_charAt 16 = .ok (.goto 4, 3) by decide +kernel) (by decide) ?_
    exact kX10_charAt_J20  _ _ _ _ _ w
set_option maxRecDepth 100000 in
set_option maxHeartbeats 4000000 in
theorem kX10_type_J15 {K : Int32 → AH → Prop}   (x0 : Nat) (x1 : Int32) (y0 : Nat) (y1 : Int32) (h : AH) (w : wX10_type_J15 K  x0 x1 y0 y1 h) : X mX10_type 1 (KI K) T0 0 0 15 [(0, .ref x0), (1, .int x1)] [.int y1, .ref y0] h := by
  unfold wX10_type_J15 at w
  obtain ⟨s3, w⟩ := w
  refine X_putI fp_X10_56 (show decode cX10_type 15 = .ok (.putfield 56, 3) by decide +kernel) (fun z => nomatch z) s3 rfl rfl ?_
  have w := w _ rfl
  refine X_aload_n (j := 0) (show decode cX10_type 18 = .ok (.aload_n 0, 1) by decide +kernel) rfl rfl ?_
  obtain ⟨s5, w⟩ := w
  refine X_getI fl_X10_56 (show decode cX10_type 19 = .ok (.getfield 56, 3) by decide +kernel) s5 ?_
  refine X_if_le (tgt := 27) (show decode cX10_type 22 = .ok (.ifCond .le 5, 3) by decide +kernel) (by decide) ⟨fun c6 => ?_, fun c6 => ?_⟩
  · have w := w.1 c6
    refine X_aload_n (j := 0) (show decode cX10_type 27 = .ok (.aload_n 0, 1) by decide +kernel) rfl rfl ?_
    refine X_getR fl_X10_22 (show decode cX10_type 28 = .ok (.getfield 22, 3) by decide +kernel) s5 ?_
    refine X_aload_n (j := 0) (show decode cX10_type 31 = .ok (.aload_n 0, 1) by decide +kernel) rfl rfl ?_
    refine X_getI fl_X10_239 (show decode cX10_type 32 = .ok (.getfield 239, 3) by decide +kernel) s5 ?_
    refine X_iload_n (j := 1) (show decode cX10_type 35 = .ok (.iload_n 1, 1) by decide +kernel) rfl rfl ?_
    obtain ⟨s7, w⟩ := w
    obtain ⟨s8, w⟩ := w
    obtain ⟨s9, w⟩ := w
    refine X_iast (show decode cX10_type 36 = .ok (.iastore, 1) by decide +kernel) (isA_eq s7) s8 s9 ?_
    have w := w _ rfl
    refine X_aload_n (j := 0) (show decode cX10_type 37 = .ok (.aload_n 0, 1) by decide +kernel) rfl rfl ?_
    refine X_dup (show decode cX10_type 38 = .ok (.dup, 1) by decide +kernel) rfl ?_
    refine X_getI fl_X10_239 (show decode cX10_type 39 = .ok (.getfield 239, 3) by decide +kernel) s5 ?_
    refine X_iconst (v := (nI 1)) (show decode cX10_type 42 = .ok (.iconst 1, 1) by decide +kernel) (by decide) ?_
    refine X_iadd (show decode cX10_type 43 = .ok (.iadd, 1) by decide +kernel) ?_
    refine X_putI fp_X10_239 (show decode cX10_type 44 = .ok (.putfield 239, 3) by decide +kernel) (fun z => nomatch z) s5 rfl rfl ?_
    have w := w _ rfl
    refine X_aload_n (j := 0) (show decode cX10_type 47 = .ok (.aload_n 0, 1) by decide +kernel) rfl rfl ?_
    refine X_getI fl_X10_239 (show decode cX10_type 48 = .ok (.getfield 239, 3) by decide +kernel) s5 ?_
    exact X_iret ⟨(show decode cX10_type 51 = .ok (.ireturn, 1) by decide +kernel), .int, rfl, rfl⟩ ⟨_, rfl, w⟩
  · have w := w.2 c6
    refine X_iconst (v := (nI 0)) (show decode cX10_type 25 = .ok (.iconst 0, 1) by decide +kernel) (by decide) ?_
    exact X_iret ⟨(show decode cX10_type 26 = .ok (.ireturn, 1) by decide +kernel), .int, rfl, rfl⟩ ⟨_, rfl, w⟩
set_option maxRecDepth 100000 in
set_option maxHeartbeats 4000000 in
theorem kX10_type {a0 : Nat} {a1 : Int32} {h : AH} {K : Int32 → AH → Prop} (w : wX10_type a0 a1 h K) : Cn mX10_type (cwd mX10_type) 1 0 0 [.ref a0, .int a1] h (KI K) T0 := by
  refine Cn_of (by decide +kernel) rfl (Nat.le_of_ble_eq_true rfl) ?_
  show X mX10_type 1 (KI K) T0 0 0 0 [(0, .ref a0), (1, .int a1)] [] h
  unfold wX10_type at w
  refine X_aload_n (j := 0) (show decode cX10_type 0 = .ok (.aload_n 0, 1) by decide +kernel) rfl rfl ?_
  refine X_aload_n (j := 0) (show decode cX10_type 1 = .ok (.aload_n 0, 1) by decide +kernel) rfl rfl ?_
  obtain ⟨s1, w⟩ := w
  refine X_getI fl_X10_239 (show decode cX10_type 2 = .ok (.getfield 239, 3) by decide +kernel) s1 ?_
  refine X_bipush (v := (nI 60)) (show decode cX10_type 5 = .ok (.bipush 60, 2) by decide +kernel) (by decide) ?_
  refine X_icmp_ne (tgt := 14) (show decode cX10_type 7 = .ok (.if_icmp .ne 7, 3) by decide +kernel) (by decide) ⟨fun c2 => ?_, fun c2 => ?_⟩
  · have w := w.1 c2
    refine X_iconst (v := (nI 0)) (show decode cX10_type 14 = .ok (.iconst 0, 1) by decide +kernel) (by decide) ?_
    exact kX10_type_J15  _ _ _ _ _ w
  · have w := w.2 c2
    refine X_iconst (v := (nI 1)) (show decode cX10_type 10 = .ok (.iconst 1, 1) by decide +kernel) (by decide) ?_
    refine X_goto (tgt := 15) (show decode cX10_type 11 = .ok (.goto 4, 3) by decide +kernel) (by decide) ?_
    exact kX10_type_J15  _ _ _ _ _ w
set_option maxRecDepth 100000 in
set_option maxHeartbeats 4000000 in
theorem kX10_here {a0 : Nat} {a1 : Int32} {h : AH} {K : Int32 → AH → Prop} (w : wX10_here a0 a1 h K) : Cn mX10_here (cwd mX10_here) 1 0 0 [.ref a0, .int a1] h (KI K) T0 := by
  refine Cn_of (by decide +kernel) rfl (Nat.le_of_ble_eq_true rfl) ?_
  show X mX10_here 1 (KI K) T0 0 0 0 [(0, .ref a0), (1, .int a1)] [] h
  unfold wX10_here at w
  refine X_aload_n (j := 0) (show decode cX10_here 0 = .ok (.aload_n 0, 1) by decide +kernel) rfl rfl ?_
  obtain ⟨s1, w⟩ := w
  refine X_getI fl_X10_242 (show decode cX10_here 1 = .ok (.getfield 242, 3) by decide +kernel) s1 ?_
  refine X_iload_n (j := 1) (show decode cX10_here 4 = .ok (.iload_n 1, 1) by decide +kernel) rfl rfl ?_
  refine X_iadd (show decode cX10_here 5 = .ok (.iadd, 1) by decide +kernel) ?_
  refine X_aload_n (j := 0) (show decode cX10_here 6 = .ok (.aload_n 0, 1) by decide +kernel) rfl rfl ?_
  refine X_getI fl_X10_245 (show decode cX10_here 7 = .ok (.getfield 245, 3) by decide +kernel) s1 ?_
  refine X_icmp_ge (tgt := 27) (show decode cX10_here 10 = .ok (.if_icmp .ge 17, 3) by decide +kernel) (by decide) ⟨fun c2 => ?_, fun c2 => ?_⟩
  · have w := w.1 c2
    refine X_iconst (v := (-1)) (show decode cX10_here 27 = .ok (.iconst (-1), 1) by decide +kernel) (by decide) ?_
    exact X_iret ⟨(show decode cX10_here 28 = .ok (.ireturn, 1) by decide +kernel), .int, rfl, rfl⟩ ⟨_, rfl, w⟩
  · have w := w.2 c2
    refine X_aload_n (j := 0) (show decode cX10_here 13 = .ok (.aload_n 0, 1) by decide +kernel) rfl rfl ?_
    refine X_getR fl_X10_22 (show decode cX10_here 14 = .ok (.getfield 22, 3) by decide +kernel) s1 ?_
    refine X_aload_n (j := 0) (show decode cX10_here 17 = .ok (.aload_n 0, 1) by decide +kernel) rfl rfl ?_
    refine X_getI fl_X10_242 (show decode cX10_here 18 = .ok (.getfield 242, 3) by decide +kernel) s1 ?_
    refine X_iload_n (j := 1) (show decode cX10_here 21 = .ok (.iload_n 1, 1) by decide +kernel) rfl rfl ?_
    refine X_iadd (show decode cX10_here 22 = .ok (.iadd, 1) by decide +kernel) ?_
    obtain ⟨s3, w⟩ := w
    obtain ⟨s4, w⟩ := w
    refine X_iald (show decode cX10_here 23 = .ok (.iaload, 1) by decide +kernel) (isA_eq s3) s4 ?_
    refine X_goto (tgt := 28) (show decode cX10_here 24 = .ok (.goto 4, 3) by decide +kernel) (by decide) ?_
    exact X_iret ⟨(show decode cX10_here 28 = .ok (.ireturn, 1) by decide +kernel), .int, rfl, rfl⟩ ⟨_, rfl, w⟩
set_option maxRecDepth 100000 in
set_option maxHeartbeats 4000000 in
theorem kX10_says_J56 {K : AH → Prop} {c2 : Nat → Nat → Int32 → AH → Prop} (hc2 : ∀ x0 x1 x2 h, c2 x0 x1 x2 h → X mX10_says 6 (KV K) T0 0 0 2 [(0, .ref x0), (1, .ref x1), (2, .int x2)] [] h) (x0 : Nat) (x1 : Nat) (x2 : Int32) (y0 : Nat) (y1 : Int32) (y2 : Int32) (h : AH) (w : wX10_says_J56 K c2 x0 x1 x2 y0 y1 y2 h) : X mX10_says 6 (KV K) T0 0 0 56 [(0, .ref x0), (1, .ref x1), (2, .int x2)] [.int y2, .int y1, .ref y0] h := by
  unfold wX10_says_J56 at w
  refine X_iadd (show decode cX10_says 56 = .ok (.iadd, 1) by decide +kernel) ?_
  obtain ⟨s17, w⟩ := w
  refine X_putI fp_X10_242 (show decode cX10_says 57 = .ok (.putfield 242, 3) by decide +kernel) (fun z => nomatch z) s17 rfl rfl ?_
  have w := w _ rfl
  refine X_iinc (j := 2) (v := _ + (nI 1)) (ls' := [(0, .ref _), (1, .ref _), (2, .int _)]) (show decode cX10_says 60 = .ok (.iinc 2 1, 3) by decide +kernel) rfl rfl (Nat.le_of_ble_eq_true rfl) rfl ?_
  refine X_goto (tgt := 2) (show decode cX10_says 63 = .ok (.goto (-61), 3) by decide +kernel) (by decide) ?_
  exact hc2 _ _ _ _ w
set_option maxRecDepth 100000 in
set_option maxHeartbeats 4000000 in
theorem kX10_says_J36 {K : AH → Prop} {c2 : Nat → Nat → Int32 → AH → Prop} (hc2 : ∀ x0 x1 x2 h, c2 x0 x1 x2 h → X mX10_says 6 (KV K) T0 0 0 2 [(0, .ref x0), (1, .ref x1), (2, .int x2)] [] h) (x0 : Nat) (x1 : Nat) (x2 : Int32) (y0 : Nat) (y1 : Int32) (h : AH) (w : wX10_says_J36 K c2 x0 x1 x2 y0 y1 h) : X mX10_says 6 (KV K) T0 0 0 36 [(0, .ref x0), (1, .ref x1), (2, .int x2)] [.int y1, .ref y0] h := by
  unfold wX10_says_J36 at w
  obtain ⟨s11, w⟩ := w
  obtain ⟨s13, w⟩ := w
  obtain ⟨s14, w⟩ := w
  refine X_putI fp_X10_253 (show decode cX10_says 36 = .ok (.putfield 253, 3) by decide +kernel) (fun z => nomatch z) s11 s13 s14 ?_
  have w := w _ rfl
  refine X_aload_n (j := 0) (show decode cX10_says 39 = .ok (.aload_n 0, 1) by decide +kernel) rfl rfl ?_
  refine X_dup (show decode cX10_says 40 = .ok (.dup, 1) by decide +kernel) rfl ?_
  obtain ⟨s15, w⟩ := w
  refine X_getI fl_X10_242 (show decode cX10_says 41 = .ok (.getfield 242, 3) by decide +kernel) s15 ?_
  refine X_aload_n (j := 0) (show decode cX10_says 44 = .ok (.aload_n 0, 1) by decide +kernel) rfl rfl ?_
  refine X_getI fl_X10_253 (show decode cX10_says 45 = .ok (.getfield 253, 3) by decide +kernel) s15 ?_
  refine X_if_eq (tgt := 55) (show decode cX10_says 48 = .ok (.ifCond .eq 7, 3) by decide +kernel) (by decide) ⟨fun c16 => ?_, fun c16 => ?_⟩
  · have w := w.1 c16
    refine X_iconst (v := (nI 1)) (show decode cX10_says 55 = .ok (.iconst 1, 1) by decide +kernel) (by decide) ?_
    exact kX10_says_J56 hc2 _ _ _ _ _ _ _ w
  · have w := w.2 c16
    refine X_iconst (v := (nI 0)) (show decode cX10_says 51 = .ok (.iconst 0, 1) by decide +kernel) (by decide) ?_
    refine X_goto (tgt := 56) (show decode cX10_says 52 = .ok (.goto 4, 3) by decide +kernel) (by decide) ?_
    exact kX10_says_J56 hc2 _ _ _ _ _ _ _ w
set_option maxRecDepth 100000 in
set_option maxHeartbeats 4000000 in
theorem kX10_says_L2 {K : AH → Prop}    : ∀ (n : Nat) (x0 : Nat) (x1 : Nat) (x2 : Int32) (h : AH), wX10_says_L2 K   n x0 x1 x2 h → X mX10_says 6 (KV K) T0 0 0 2 [(0, .ref x0), (1, .ref x1), (2, .int x2)] [] h := by
  intro n
  induction n with
  | zero => intro _ _ _ _ w; exact w.elim
  | succ n ih =>
    intro x0 x1 x2 h w
    rw [wX10_says_L2] at w
    refine X_iload_n (j := 2) (show decode cX10_says 2 = .ok (.iload_n 2, 1) by decide +kernel) rfl rfl ?_
    refine X_aload_n (j := 1) (show decode cX10_says 3 = .ok (.aload_n 1, 1) by decide +kernel) rfl rfl ?_
    obtain ⟨s21, w⟩ := w
    obtain ⟨s22, w⟩ := w
    refine X_vI (rc' := 0) (rs' := 0) (as := []) mv_X10_248 (show decode cX10_says 4 = .ok (.invokevirtual 248, 3) by decide +kernel) (by decide) (Nat.le_of_ble_eq_true rfl) (Nat.le_of_ble_eq_true rfl) rfl rfl (Nat.le_of_ble_eq_true rfl) (Or.inr ⟨s22, Or.inl ⟨s21, rfl⟩⟩) (kJ0_length_8abf5 w) (fun E h hk => hk.elim) (fun r2 h1 w => ?_)
    refine X_icmp_ge (tgt := 66) (show decode cX10_says 7 = .ok (.if_icmp .ge 59, 3) by decide +kernel) (by decide) ⟨fun c3 => ?_, fun c3 => ?_⟩
    · have w := w.1 c3
      exact X_vret ⟨(show decode cX10_says 66 = .ok (.return_, 1) by decide +kernel), rfl⟩ ⟨rfl, w⟩
    · have w := w.2 c3
      refine X_aload_n (j := 0) (show decode cX10_says 10 = .ok (.aload_n 0, 1) by decide +kernel) rfl rfl ?_
      obtain ⟨s4, w⟩ := w
      refine X_getI fl_X10_253 (show decode cX10_says 11 = .ok (.getfield 253, 3) by decide +kernel) s4 ?_
      refine X_if_ne (tgt := 66) (show decode cX10_says 14 = .ok (.ifCond .ne 52, 3) by decide +kernel) (by decide) ⟨fun c5 => ?_, fun c5 => ?_⟩
      · have w := w.1 c5
        exact X_vret ⟨(show decode cX10_says 66 = .ok (.return_, 1) by decide +kernel), rfl⟩ ⟨rfl, w⟩
      · have w := w.2 c5
        refine X_aload_n (j := 0) (show decode cX10_says 17 = .ok (.aload_n 0, 1) by decide +kernel) rfl rfl ?_
        refine X_aload_n (j := 0) (show decode cX10_says 18 = .ok (.aload_n 0, 1) by decide +kernel) rfl rfl ?_
        refine X_iconst (v := (nI 0)) (show decode cX10_says 19 = .ok (.iconst 0, 1) by decide +kernel) (by decide) ?_
        refine X_vI (rc' := 0) (rs' := 0) (as := [.int _]) mv_X10_257 (show decode cX10_says 20 = .ok (.invokevirtual 257, 3) by decide +kernel) (by decide) (Nat.le_of_ble_eq_true rfl) (Nat.le_of_ble_eq_true rfl) rfl rfl (Nat.le_of_ble_eq_true rfl) (rcvD s4 (by decide) rfl) (kX10_here w) (fun E h hk => hk.elim) (fun r7 h6 w => ?_)
        refine X_aload_n (j := 1) (show decode cX10_says 23 = .ok (.aload_n 1, 1) by decide +kernel) rfl rfl ?_
        refine X_iload_n (j := 2) (show decode cX10_says 24 = .ok (.iload_n 2, 1) by decide +kernel) rfl rfl ?_
        obtain ⟨s19, w⟩ := w
        obtain ⟨s20, w⟩ := w
        refine X_vI (rc' := 0) (rs' := 0) (as := [.int _]) mv_X10_260 (show decode cX10_says 25 = .ok (.invokevirtual 260, 3) by decide +kernel) (by decide) (Nat.le_of_ble_eq_true rfl) (Nat.le_of_ble_eq_true rfl) rfl rfl (Nat.le_of_ble_eq_true rfl) (Or.inr ⟨s20, Or.inl ⟨s19, rfl⟩⟩) (kJ0_charAt_5068e w) (fun E h hk => hk.elim) (fun r9 h8 w => ?_)
        refine X_icmp_eq (tgt := 35) (show decode cX10_says 28 = .ok (.if_icmp .eq 7, 3) by decide +kernel) (by decide) ⟨fun c10 => ?_, fun c10 => ?_⟩
        · have w := w.1 c10
          refine X_iconst (v := (nI 0)) (show decode cX10_says 35 = .ok (.iconst 0, 1) by decide +kernel) (by decide) ?_
          exact kX10_says_J36 ih _ _ _ _ _ _ w
        · have w := w.2 c10
          refine X_iconst (v := (nI 1)) (show decode cX10_says 31 = .ok (.iconst 1, 1) by decide +kernel) (by decide) ?_
          refine X_goto (tgt := 36) (show decode cX10_says 32 = .ok (.goto 4, 3) by decide +kernel) (by decide) ?_
          exact kX10_says_J36 ih _ _ _ _ _ _ w
set_option maxRecDepth 100000 in
set_option maxHeartbeats 4000000 in
theorem kX10_says {a0 : Nat} {a1 : Nat} {h : AH} {K : AH → Prop} (w : wX10_says a0 a1 h K) : Cn mX10_says (cwd mX10_says) 6 0 0 [.ref a0, .ref a1] h (KV K) T0 := by
  refine Cn_of (by decide +kernel) rfl (Nat.le_of_ble_eq_true rfl) ?_
  show X mX10_says 6 (KV K) T0 0 0 0 [(0, .ref a0), (1, .ref a1)] [] h
  unfold wX10_says at w
  refine X_iconst (v := (nI 0)) (show decode cX10_says 0 = .ok (.iconst 0, 1) by decide +kernel) (by decide) ?_
  refine X_istore_n (ls' := [(0, .ref _), (1, .ref _), (2, .int _)]) (show decode cX10_says 1 = .ok (.istore_n 2, 1) by decide +kernel) rfl (by decide) rfl ?_
  obtain ⟨n23, w⟩ := w
  exact kX10_says_L2  n23 _ _ _ _ w
set_option maxRecDepth 100000 in
set_option maxHeartbeats 4000000 in
theorem kX10_number_L11 {K : AH → Prop} {c71 : Nat → Int32 → Int32 → Int32 → AH → Prop} (hc71 : ∀ x0 x2 x4 x5 h, c71 x0 x2 x4 x5 h → X mX10_number 7 (KV K) T0 0 0 71 [(0, .ref x0), (2, .int x2), (4, .int x4), (5, .int x5)] [] h)  : ∀ (n : Nat) (x0 : Nat) (x2 : Int32) (x3 : Int32) (x4 : Int32) (x5 : Int32) (h : AH), wX10_number_L11 K c71  n x0 x2 x3 x4 x5 h → X mX10_number 7 (KV K) T0 0 0 11 [(0, .ref x0), (2, .int x2), (3, .int x3), (4, .int x4), (5, .int x5)] [] h := by
  intro n
  induction n with
  | zero => intro _ _ _ _ _ _ w; exact w.elim
  | succ n ih =>
    intro x0 x2 x3 x4 x5 h w
    rw [wX10_number_L11] at w
    refine X_aload_n (j := 0) (show decode cX10_number 11 = .ok (.aload_n 0, 1) by decide +kernel) rfl rfl ?_
    obtain ⟨s3, w⟩ := w
    refine X_getI fl_X10_253 (show decode cX10_number 12 = .ok (.getfield 253, 3) by decide +kernel) s3 ?_
    refine X_if_ne (tgt := 71) (show decode cX10_number 15 = .ok (.ifCond .ne 56, 3) by decide +kernel) (by decide) ⟨fun c4 => ?_, fun c4 => ?_⟩
    · have w := w.1 c4
      refine X_pick (ls' := [(0, .ref _), (2, .int _), (4, .int _), (5, .int _)]) [0, 1, 3, 4] rfl ?_
      exact hc71 _ _ _ _ _ w
    · have w := w.2 c4
      refine X_iload (j := 4) (show decode cX10_number 18 = .ok (.iload 5, 2) by decide +kernel) rfl ?_
      refine X_iload_n (j := 2) (show decode cX10_number 20 = .ok (.iload_n 3, 1) by decide +kernel) rfl rfl ?_
      refine X_icmp_ge (tgt := 71) (show decode cX10_number 21 = .ok (.if_icmp .ge 50, 3) by decide +kernel) (by decide) ⟨fun c5 => ?_, fun c5 => ?_⟩
      · have w := w.1 c5
        refine X_pick (ls' := [(0, .ref _), (2, .int _), (4, .int _), (5, .int _)]) [0, 1, 3, 4] rfl ?_
        exact hc71 _ _ _ _ _ w
      · have w := w.2 c5
        refine X_aload_n (j := 0) (show decode cX10_number 24 = .ok (.aload_n 0, 1) by decide +kernel) rfl rfl ?_
        refine X_iconst (v := (nI 0)) (show decode cX10_number 25 = .ok (.iconst 0, 1) by decide +kernel) (by decide) ?_
        refine X_vI (rc' := 0) (rs' := 0) (as := [.int _]) mv_X10_257 (show decode cX10_number 26 = .ok (.invokevirtual 257, 3) by decide +kernel) (by decide) (Nat.le_of_ble_eq_true rfl) (Nat.le_of_ble_eq_true rfl) rfl rfl (Nat.le_of_ble_eq_true rfl) (rcvD s3 (by decide) rfl) (kX10_here w) (fun E h hk => hk.elim) (fun r7 h6 w => ?_)
        refine X_bipush (v := (nI 48)) (show decode cX10_number 29 = .ok (.bipush 48, 2) by decide +kernel) (by decide) ?_
        refine X_bipush (v := (nI 57)) (show decode cX10_number 31 = .ok (.bipush 57, 2) by decide +kernel) (by decide) ?_
        refine X_sI (rc' := 0) (rs' := 0) (as := [.int _, .int _, .int _]) ms_X10_72 (show decode cX10_number 33 = .ok (.invokestatic 72, 3) by decide +kernel) (by decide) (Nat.le_of_ble_eq_true rfl) (Nat.le_of_ble_eq_true rfl) rfl rfl (Nat.le_of_ble_eq_true rfl) (kX10_in w) (fun E h hk => hk.elim) (fun r9 h8 w => ?_)
        refine X_if_eq (tgt := 71) (show decode cX10_number 36 = .ok (.ifCond .eq 35, 3) by decide +kernel) (by decide) ⟨fun c10 => ?_, fun c10 => ?_⟩
        · have w := w.1 c10
          refine X_pick (ls' := [(0, .ref _), (2, .int _), (4, .int _), (5, .int _)]) [0, 1, 3, 4] rfl ?_
          exact hc71 _ _ _ _ _ w
        · have w := w.2 c10
          refine X_bipush (v := (nI 10)) (show decode cX10_number 39 = .ok (.bipush 10, 2) by decide +kernel) (by decide) ?_
          refine X_iload (j := 3) (show decode cX10_number 41 = .ok (.iload 4, 2) by decide +kernel) rfl ?_
          refine X_imul (show decode cX10_number 43 = .ok (.imul, 1) by decide +kernel) ?_
          refine X_aload_n (j := 0) (show decode cX10_number 44 = .ok (.aload_n 0, 1) by decide +kernel) rfl rfl ?_
          refine X_iconst (v := (nI 0)) (show decode cX10_number 45 = .ok (.iconst 0, 1) by decide +kernel) (by decide) ?_
          obtain ⟨s15, w⟩ := w
          refine X_vI (rc' := 0) (rs' := 0) (as := [.int _]) mv_X10_257 (show decode cX10_number 46 = .ok (.invokevirtual 257, 3) by decide +kernel) (by decide) (Nat.le_of_ble_eq_true rfl) (Nat.le_of_ble_eq_true rfl) rfl rfl (Nat.le_of_ble_eq_true rfl) (rcvD s15 (by decide) rfl) (kX10_here w) (fun E h hk => hk.elim) (fun r12 h11 w => ?_)
          refine X_iadd (show decode cX10_number 49 = .ok (.iadd, 1) by decide +kernel) ?_
          refine X_bipush (v := (nI 48)) (show decode cX10_number 50 = .ok (.bipush 48, 2) by decide +kernel) (by decide) ?_
          refine X_isub (show decode cX10_number 52 = .ok (.isub, 1) by decide +kernel) ?_
          refine X_istore (ls' := [(0, .ref _), (2, .int _), (3, .int _), (4, .int _), (5, .int _)]) (show decode cX10_number 53 = .ok (.istore 4, 2) by decide +kernel) (by decide) rfl ?_
          refine X_aload_n (j := 0) (show decode cX10_number 55 = .ok (.aload_n 0, 1) by decide +kernel) rfl rfl ?_
          refine X_dup (show decode cX10_number 56 = .ok (.dup, 1) by decide +kernel) rfl ?_
          obtain ⟨s13, w⟩ := w
          refine X_getI fl_X10_242 (show decode cX10_number 57 = .ok (.getfield 242, 3) by decide +kernel) s13 ?_
          refine X_iconst (v := (nI 1)) (show decode cX10_number 60 = .ok (.iconst 1, 1) by decide +kernel) (by decide) ?_
          refine X_iadd (show decode cX10_number 61 = .ok (.iadd, 1) by decide +kernel) ?_
          refine X_putI fp_X10_242 (show decode cX10_number 62 = .ok (.putfield 242, 3) by decide +kernel) (fun z => nomatch z) s13 rfl rfl ?_
          have w := w _ rfl
          refine X_iinc (j := 4) (v := _ + (nI 1)) (ls' := [(0, .ref _), (2, .int _), (3, .int _), (4, .int _), (5, .int _)]) (show decode cX10_number 65 = .ok (.iinc 5 1, 3) by decide +kernel) rfl rfl (Nat.le_of_ble_eq_true rfl) rfl ?_
          refine X_goto (tgt := 11) (show decode cX10_number 68 = .ok (.goto (-57), 3) by decide +kernel) (by decide) ?_
          exact ih _ _ _ _ _ _ w
set_option maxRecDepth 100000 in
set_option maxHeartbeats 4000000 in
theorem kX10_number_J89 {K : AH → Prop}   (x0 : Nat) (x2 : Int32) (x4 : Int32) (y0 : Nat) (y1 : Int32) (h : AH) (w : wX10_number_J89 K  x0 x2 x4 y0 y1 h) : X mX10_number 7 (KV K) T0 0 0 89 [(0, .ref x0), (2, .int x2), (4, .int x4)] [.int y1, .ref y0] h := by
  unfold wX10_number_J89 at w
  obtain ⟨s23, w⟩ := w
  obtain ⟨s25, w⟩ := w
  obtain ⟨s26, w⟩ := w
  refine X_putI fp_X10_253 (show decode cX10_number 89 = .ok (.putfield 253, 3) by decide +kernel) (fun z => nomatch z) s23 s25 s26 ?_
  have w := w _ rfl
  refine X_aload_n (j := 0) (show decode cX10_number 92 = .ok (.aload_n 0, 1) by decide +kernel) rfl rfl ?_
  obtain ⟨s27, w⟩ := w
  refine X_getR fl_X10_25 (show decode cX10_number 93 = .ok (.getfield 25, 3) by decide +kernel) s27 ?_
  refine X_iconst (v := (nI 4)) (show decode cX10_number 96 = .ok (.iconst 4, 1) by decide +kernel) (by decide) ?_
  refine X_aload_n (j := 0) (show decode cX10_number 97 = .ok (.aload_n 0, 1) by decide +kernel) rfl rfl ?_
  refine X_getI fl_X10_268 (show decode cX10_number 98 = .ok (.getfield 268, 3) by decide +kernel) s27 ?_
  refine X_imul (show decode cX10_number 101 = .ok (.imul, 1) by decide +kernel) ?_
  refine X_iload_n (j := 1) (show decode cX10_number 102 = .ok (.iload_n 2, 1) by decide +kernel) rfl rfl ?_
  refine X_iadd (show decode cX10_number 103 = .ok (.iadd, 1) by decide +kernel) ?_
  refine X_iload (j := 2) (show decode cX10_number 104 = .ok (.iload 4, 2) by decide +kernel) rfl ?_
  obtain ⟨s28, w⟩ := w
  obtain ⟨s29, w⟩ := w
  obtain ⟨s30, w⟩ := w
  refine X_iast (show decode cX10_number 106 = .ok (.iastore, 1) by decide +kernel) (isA_eq s28) s29 s30 ?_
  have w := w _ rfl
  exact X_vret ⟨(show decode cX10_number 107 = .ok (.return_, 1) by decide +kernel), rfl⟩ ⟨rfl, w⟩
set_option maxRecDepth 100000 in
set_option maxHeartbeats 4000000 in
theorem kX10_number_J84 {K : AH → Prop}   (x0 : Nat) (x2 : Int32) (x4 : Int32) (y0 : Nat) (h : AH) (w : wX10_number_J84 K  x0 x2 x4 y0 h) : X mX10_number 7 (KV K) T0 0 0 84 [(0, .ref x0), (2, .int x2), (4, .int x4)] [.ref y0] h := by
  unfold wX10_number_J84 at w
  refine X_iconst (v := (nI 1)) (show decode cX10_number 84 = .ok (.iconst 1, 1) by decide +kernel) (by decide) ?_
  refine X_goto (tgt := 89) (show decode cX10_number 85 = .ok (.goto 4, 3) by decide +kernel) (by decide) ?_
  exact kX10_number_J89  _ _ _ _ _ _ w
set_option maxRecDepth 100000 in
set_option maxHeartbeats 4000000 in
theorem kX10_number {a0 : Nat} {a1 : Nat} {a2 : Int32} {a3 : Int32} {h : AH} {K : AH → Prop} (w : wX10_number a0 a1 a2 a3 h K) : Cn mX10_number (cwd mX10_number) 7 0 0 [.ref a0, .ref a1, .int a2, .int a3] h (KV K) T0 := by
  refine Cn_of (by decide +kernel) rfl (Nat.le_of_ble_eq_true rfl) ?_
  show X mX10_number 7 (KV K) T0 0 0 0 [(0, .ref a0), (1, .ref a1), (2, .int a2), (3, .int a3)] [] h
  unfold wX10_number at w
  refine X_aload_n (j := 0) (show decode cX10_number 0 = .ok (.aload_n 0, 1) by decide +kernel) rfl rfl ?_
  refine X_aload_n (j := 1) (show decode cX10_number 1 = .ok (.aload_n 1, 1) by decide +kernel) rfl rfl ?_
  obtain ⟨s34, w⟩ := w
  refine X_vV (rc' := 0) (rs' := 0) (as := [.ref _]) mv_X10_264 (show decode cX10_number 2 = .ok (.invokevirtual 264, 3) by decide +kernel) (by decide) (Nat.le_of_ble_eq_true rfl) (Nat.le_of_ble_eq_true rfl) rfl rfl (Nat.le_of_ble_eq_true rfl) (rcvD s34 (by decide) rfl) (kX10_says w) (fun E h hk => hk.elim) (fun h1 w => ?_)
  refine X_iconst (v := (nI 0)) (show decode cX10_number 5 = .ok (.iconst 0, 1) by decide +kernel) (by decide) ?_
  refine X_istore (ls' := [(0, .ref _), (1, .ref _), (2, .int _), (3, .int _), (4, .int _)]) (show decode cX10_number 6 = .ok (.istore 4, 2) by decide +kernel) (by decide) rfl ?_
  refine X_iconst (v := (nI 0)) (show decode cX10_number 8 = .ok (.iconst 0, 1) by decide +kernel) (by decide) ?_
  refine X_istore (ls' := [(0, .ref _), (1, .ref _), (2, .int _), (3, .int _), (4, .int _), (5, .int _)]) (show decode cX10_number 9 = .ok (.istore 5, 2) by decide +kernel) (by decide) rfl ?_
  refine X_pick (ls' := [(0, .ref _), (2, .int _), (3, .int _), (4, .int _), (5, .int _)]) [0, 2, 3, 4, 5] rfl ?_
  obtain ⟨n33, w⟩ := w
  refine kX10_number_L11 ?_ n33 _ _ _ _ _ _ w
  · intro x0_16 x2_17 x4_18 x5_19 h20 w
    refine X_aload_n (j := 0) (show decode cX10_number 71 = .ok (.aload_n 0, 1) by decide +kernel) rfl rfl ?_
    refine X_aload_n (j := 0) (show decode cX10_number 72 = .ok (.aload_n 0, 1) by decide +kernel) rfl rfl ?_
    obtain ⟨s21, w⟩ := w
    refine X_getI fl_X10_253 (show decode cX10_number 73 = .ok (.getfield 253, 3) by decide +kernel) s21 ?_
    refine X_if_ne (tgt := 84) (show decode cX10_number 76 = .ok (.ifCond .ne 8, 3) by decide +kernel) (by decide) ⟨fun c22 => ?_, fun c22 => ?_⟩
    · have w := w.1 c22
      refine X_pick (ls' := [(0, .ref _), (2, .int _), (4, .int _)]) [0, 1, 2] rfl ?_
      exact kX10_number_J84  _ _ _ _ _ w
    · have w := w.2 c22
      refine X_iload (j := 3) (show decode cX10_number 79 = .ok (.iload 5, 2) by decide +kernel) rfl ?_
      refine X_if_ne (tgt := 88) (show decode cX10_number 81 = .ok (.ifCond .ne 7, 3) by decide +kernel) (by decide) ⟨fun c32 => ?_, fun c32 => ?_⟩
      · have w := w.1 c32
        refine X_iconst (v := (nI 0)) (show decode cX10_number 88 = .ok (.iconst 0, 1) by decide +kernel) (by decide) ?_
        refine X_pick (ls' := [(0, .ref _), (2, .int _), (4, .int _)]) [0, 1, 2] rfl ?_
        exact kX10_number_J89  _ _ _ _ _ _ w
      · have w := w.2 c32
        refine X_pick (ls' := [(0, .ref _), (2, .int _), (4, .int _)]) [0, 1, 2] rfl ?_
        exact kX10_number_J84  _ _ _ _ _ w
set_option maxRecDepth 100000 in
set_option maxHeartbeats 4000000 in
theorem kX10_readsWait {a0 : Nat} {h : AH} {K : AH → Prop} (w : wX10_readsWait a0 h K) : Cn mX10_readsWait (cwd mX10_readsWait) 8 0 0 [.ref a0] h (KV K) T0 := by
  refine Cn_of (by decide +kernel) rfl (Nat.le_of_ble_eq_true rfl) ?_
  show X mX10_readsWait 8 (KV K) T0 0 0 0 [(0, .ref a0)] [] h
  unfold wX10_readsWait at w
  refine X_aload_n (j := 0) (show decode cX10_readsWait 0 = .ok (.aload_n 0, 1) by decide +kernel) rfl rfl ?_
  refine X_ldcSW (j := 11) rfl (by decide) rfl (show decode cX10_readsWait 1 = .ok (.ldc_w 271, 3) by decide +kernel) ?_
  obtain ⟨s15, w⟩ := w
  refine X_vV (rc' := 0) (rs' := 0) (as := [.ref _]) mv_X10_264 (show decode cX10_readsWait 4 = .ok (.invokevirtual 264, 3) by decide +kernel) (by decide) (Nat.le_of_ble_eq_true rfl) (Nat.le_of_ble_eq_true rfl) rfl rfl (Nat.le_of_ble_eq_true rfl) (rcvD s15 (by decide) rfl) (kX10_says w) (fun E h hk => hk.elim) (fun h1 w => ?_)
  refine X_aload_n (j := 0) (show decode cX10_readsWait 7 = .ok (.aload_n 0, 1) by decide +kernel) rfl rfl ?_
  obtain ⟨s3, w⟩ := w
  refine X_getR fl_X10_25 (show decode cX10_readsWait 8 = .ok (.getfield 25, 3) by decide +kernel) s3 ?_
  refine X_iconst (v := (nI 4)) (show decode cX10_readsWait 11 = .ok (.iconst 4, 1) by decide +kernel) (by decide) ?_
  refine X_aload_n (j := 0) (show decode cX10_readsWait 12 = .ok (.aload_n 0, 1) by decide +kernel) rfl rfl ?_
  refine X_getI fl_X10_268 (show decode cX10_readsWait 13 = .ok (.getfield 268, 3) by decide +kernel) s3 ?_
  refine X_imul (show decode cX10_readsWait 16 = .ok (.imul, 1) by decide +kernel) ?_
  refine X_iconst (v := (nI 1)) (show decode cX10_readsWait 17 = .ok (.iconst 1, 1) by decide +kernel) (by decide) ?_
  refine X_iadd (show decode cX10_readsWait 18 = .ok (.iadd, 1) by decide +kernel) ?_
  refine X_iconst (v := (nI 1)) (show decode cX10_readsWait 19 = .ok (.iconst 1, 1) by decide +kernel) (by decide) ?_
  obtain ⟨s4, w⟩ := w
  obtain ⟨s5, w⟩ := w
  obtain ⟨s6, w⟩ := w
  refine X_iast (show decode cX10_readsWait 20 = .ok (.iastore, 1) by decide +kernel) (isA_eq s4) s5 s6 ?_
  have w := w _ rfl
  refine X_aload_n (j := 0) (show decode cX10_readsWait 21 = .ok (.aload_n 0, 1) by decide +kernel) rfl rfl ?_
  refine X_getI fl_X10_253 (show decode cX10_readsWait 22 = .ok (.getfield 253, 3) by decide +kernel) s3 ?_
  refine X_if_ne (tgt := 47) (show decode cX10_readsWait 25 = .ok (.ifCond .ne 22, 3) by decide +kernel) (by decide) ⟨fun c8 => ?_, fun c8 => ?_⟩
  · have w := w.1 c8
    exact X_vret ⟨(show decode cX10_readsWait 47 = .ok (.return_, 1) by decide +kernel), rfl⟩ ⟨rfl, w⟩
  · have w := w.2 c8
    refine X_aload_n (j := 0) (show decode cX10_readsWait 28 = .ok (.aload_n 0, 1) by decide +kernel) rfl rfl ?_
    refine X_iconst (v := (nI 0)) (show decode cX10_readsWait 29 = .ok (.iconst 0, 1) by decide +kernel) (by decide) ?_
    refine X_vI (rc' := 0) (rs' := 0) (as := [.int _]) mv_X10_257 (show decode cX10_readsWait 30 = .ok (.invokevirtual 257, 3) by decide +kernel) (by decide) (Nat.le_of_ble_eq_true rfl) (Nat.le_of_ble_eq_true rfl) rfl rfl (Nat.le_of_ble_eq_true rfl) (rcvD s3 (by decide) rfl) (kX10_here w) (fun E h hk => hk.elim) (fun r10 h9 w => ?_)
    refine X_bipush (v := (nI 32)) (show decode cX10_readsWait 33 = .ok (.bipush 32, 2) by decide +kernel) (by decide) ?_
    refine X_icmp_ne (tgt := 47) (show decode cX10_readsWait 35 = .ok (.if_icmp .ne 12, 3) by decide +kernel) (by decide) ⟨fun c11 => ?_, fun c11 => ?_⟩
    · have w := w.1 c11
      exact X_vret ⟨(show decode cX10_readsWait 47 = .ok (.return_, 1) by decide +kernel), rfl⟩ ⟨rfl, w⟩
    · have w := w.2 c11
      refine X_aload_n (j := 0) (show decode cX10_readsWait 38 = .ok (.aload_n 0, 1) by decide +kernel) rfl rfl ?_
      refine X_ldcSW (j := 12) rfl (by decide) rfl (show decode cX10_readsWait 39 = .ok (.ldc_w 273, 3) by decide +kernel) ?_
      refine X_iconst (v := (nI 1)) (show decode cX10_readsWait 42 = .ok (.iconst 1, 1) by decide +kernel) (by decide) ?_
      refine X_iconst (v := (nI 3)) (show decode cX10_readsWait 43 = .ok (.iconst 3, 1) by decide +kernel) (by decide) ?_
      obtain ⟨s14, w⟩ := w
      refine X_vV (rc' := 0) (rs' := 0) (as := [.ref _, .int _, .int _]) mv_X10_275 (show decode cX10_readsWait 44 = .ok (.invokevirtual 275, 3) by decide +kernel) (by decide) (Nat.le_of_ble_eq_true rfl) (Nat.le_of_ble_eq_true rfl) rfl rfl (Nat.le_of_ble_eq_true rfl) (rcvD s14 (by decide) rfl) (kX10_number w) (fun E h hk => hk.elim) (fun h12 w => ?_)
      exact X_vret ⟨(show decode cX10_readsWait 47 = .ok (.return_, 1) by decide +kernel), rfl⟩ ⟨rfl, w⟩
set_option maxRecDepth 100000 in
set_option maxHeartbeats 4000000 in
theorem kX10_readsOne_J324 {K : AH → Prop}   (x0 : Nat) (h : AH) (w : wX10_readsOne_J324 K  x0 h) : X mX10_readsOne 9 (KV K) T0 0 0 324 [(0, .ref x0)] [] h := by
  unfold wX10_readsOne_J324 at w
  refine X_aload_n (j := 0) (show decode cX10_readsOne 324 = .ok (.aload_n 0, 1) by decide +kernel) rfl rfl ?_
  refine X_dup (show decode cX10_readsOne 325 = .ok (.dup, 1) by decide +kernel) rfl ?_
  obtain ⟨s14, w⟩ := w
  refine X_getI fl_X10_268 (show decode cX10_readsOne 326 = .ok (.getfield 268, 3) by decide +kernel) s14 ?_
  refine X_iconst (v := (nI 1)) (show decode cX10_readsOne 329 = .ok (.iconst 1, 1) by decide +kernel) (by decide) ?_
  refine X_iadd (show decode cX10_readsOne 330 = .ok (.iadd, 1) by decide +kernel) ?_
  refine X_putI fp_X10_268 (show decode cX10_readsOne 331 = .ok (.putfield 268, 3) by decide +kernel) (fun z => nomatch z) s14 rfl rfl ?_
  have w := w _ rfl
  exact X_vret ⟨(show decode cX10_readsOne 334 = .ok (.return_, 1) by decide +kernel), rfl⟩ ⟨rfl, w⟩
set_option maxRecDepth 100000 in
set_option maxHeartbeats 4000000 in
theorem kX10_readsOne_J56 {K : AH → Prop}   (x0 : Nat) (x1 : Int32) (x2 : Int32) (y0 : Nat) (y1 : Int32) (y2 : Int32) (h : AH) (w : wX10_readsOne_J56 K  x0 x1 x2 y0 y1 y2 h) : X mX10_readsOne 9 (KV K) T0 0 0 56 [(0, .ref x0), (1, .int x1), (2, .int x2)] [.int y2, .int y1, .ref y0] h := by
  unfold wX10_readsOne_J56 at w
  obtain ⟨s8, w⟩ := w
  obtain ⟨s9, w⟩ := w
  obtain ⟨s10, w⟩ := w
  refine X_iast (show decode cX10_readsOne 56 = .ok (.iastore, 1) by decide +kernel) (isA_eq s8) s9 s10 ?_
  have w := w _ rfl
  refine X_iload_n (j := 1) (show decode cX10_readsOne 57 = .ok (.iload_n 1, 1) by decide +kernel) rfl rfl ?_
  by_cases z98 : x1 = (nI 98)
  · have w := w.1 z98
    refine X_tableIn (tgt := 160) (show decode cX10_readsOne 58 = .ok (.tableswitch 261 98 119 #[102, 261, 261, 261, 230, 261, 261, 261, 261, 261, 144, 261, 261, 242, 114, 261, 261, 202, 165, 261, 261, 254], 102) by decide +kernel) (by rw [z98]; decide) (by rw [z98]; decide) (by rw [z98] <;> rfl) (by decide) ?_
    refine X_aload_n (j := 0) (show decode cX10_readsOne 160 = .ok (.aload_n 0, 1) by decide +kernel) rfl rfl ?_
    refine X_ldcSW (j := 0) rfl (by decide) rfl (show decode cX10_readsOne 161 = .ok (.ldc_w 279, 3) by decide +kernel) ?_
    refine X_iconst (v := (nI 1)) (show decode cX10_readsOne 164 = .ok (.iconst 1, 1) by decide +kernel) (by decide) ?_
    refine X_iconst (v := (nI 1)) (show decode cX10_readsOne 165 = .ok (.iconst 1, 1) by decide +kernel) (by decide) ?_
    obtain ⟨s16, w⟩ := w
    refine X_vV (rc' := 0) (rs' := 0) (as := [.ref _, .int _, .int _]) mv_X10_275 (show decode cX10_readsOne 166 = .ok (.invokevirtual 275, 3) by decide +kernel) (by decide) (Nat.le_of_ble_eq_true rfl) (Nat.le_of_ble_eq_true rfl) rfl rfl (Nat.le_of_ble_eq_true rfl) (rcvD s16 (by decide) rfl) (kX10_number w) (fun E h hk => hk.elim) (fun h12 w => ?_)
    refine X_goto (tgt := 324) (show decode cX10_readsOne 169 = .ok (.goto 155, 3) by decide +kernel) (by decide) ?_
    refine X_pick (ls' := [(0, .ref _)]) [0] rfl ?_
    exact kX10_readsOne_J324  _ _ w
  by_cases z102 : x1 = (nI 102)
  · have w := w.2.1 z102
    refine X_tableIn (tgt := 288) (show decode cX10_readsOne 58 = .ok (.tableswitch 261 98 119 #[102, 261, 261, 261, 230, 261, 261, 261, 261, 261, 144, 261, 261, 242, 114, 261, 261, 202, 165, 261, 261, 254], 102) by decide +kernel) (by rw [z102]; decide) (by rw [z102]; decide) (by rw [z102] <;> rfl) (by decide) ?_
    refine X_aload_n (j := 0) (show decode cX10_readsOne 288 = .ok (.aload_n 0, 1) by decide +kernel) rfl rfl ?_
    refine X_ldcSW (j := 9) rfl (by decide) rfl (show decode cX10_readsOne 289 = .ok (.ldc_w 297, 3) by decide +kernel) ?_
    refine X_iconst (v := (nI 1)) (show decode cX10_readsOne 292 = .ok (.iconst 1, 1) by decide +kernel) (by decide) ?_
    refine X_iconst (v := (nI 3)) (show decode cX10_readsOne 293 = .ok (.iconst 3, 1) by decide +kernel) (by decide) ?_
    obtain ⟨s19, w⟩ := w
    refine X_vV (rc' := 0) (rs' := 0) (as := [.ref _, .int _, .int _]) mv_X10_275 (show decode cX10_readsOne 294 = .ok (.invokevirtual 275, 3) by decide +kernel) (by decide) (Nat.le_of_ble_eq_true rfl) (Nat.le_of_ble_eq_true rfl) rfl rfl (Nat.le_of_ble_eq_true rfl) (rcvD s19 (by decide) rfl) (kX10_number w) (fun E h hk => hk.elim) (fun h17 w => ?_)
    refine X_goto (tgt := 324) (show decode cX10_readsOne 297 = .ok (.goto 27, 3) by decide +kernel) (by decide) ?_
    refine X_pick (ls' := [(0, .ref _)]) [0] rfl ?_
    exact kX10_readsOne_J324  _ _ w
  by_cases z108 : x1 = (nI 108)
  · have w := w.2.2.1 z108
    refine X_tableIn (tgt := 202) (show decode cX10_readsOne 58 = .ok (.tableswitch 261 98 119 #[102, 261, 261, 261, 230, 261, 261, 261, 261, 261, 144, 261, 261, 242, 114, 261, 261, 202, 165, 261, 261, 254], 102) by decide +kernel) (by rw [z108]; decide) (by rw [z108]; decide) (by rw [z108] <;> rfl) (by decide) ?_
    refine X_aload_n (j := 0) (show decode cX10_readsOne 202 = .ok (.aload_n 0, 1) by decide +kernel) rfl rfl ?_
    refine X_ldcSW (j := 4) rfl (by decide) rfl (show decode cX10_readsOne 203 = .ok (.ldc_w 287, 3) by decide +kernel) ?_
    refine X_iconst (v := (nI 1)) (show decode cX10_readsOne 206 = .ok (.iconst 1, 1) by decide +kernel) (by decide) ?_
    refine X_iconst (v := (nI 3)) (show decode cX10_readsOne 207 = .ok (.iconst 3, 1) by decide +kernel) (by decide) ?_
    obtain ⟨s25, w⟩ := w
    refine X_vV (rc' := 0) (rs' := 0) (as := [.ref _, .int _, .int _]) mv_X10_275 (show decode cX10_readsOne 208 = .ok (.invokevirtual 275, 3) by decide +kernel) (by decide) (Nat.le_of_ble_eq_true rfl) (Nat.le_of_ble_eq_true rfl) rfl rfl (Nat.le_of_ble_eq_true rfl) (rcvD s25 (by decide) rfl) (kX10_number w) (fun E h hk => hk.elim) (fun h20 w => ?_)
    refine X_aload_n (j := 0) (show decode cX10_readsOne 211 = .ok (.aload_n 0, 1) by decide +kernel) rfl rfl ?_
    refine X_ldcSW (j := 2) rfl (by decide) rfl (show decode cX10_readsOne 212 = .ok (.ldc_w 283, 3) by decide +kernel) ?_
    refine X_iconst (v := (nI 2)) (show decode cX10_readsOne 215 = .ok (.iconst 2, 1) by decide +kernel) (by decide) ?_
    refine X_iconst (v := (nI 3)) (show decode cX10_readsOne 216 = .ok (.iconst 3, 1) by decide +kernel) (by decide) ?_
    obtain ⟨s24, w⟩ := w
    refine X_vV (rc' := 0) (rs' := 0) (as := [.ref _, .int _, .int _]) mv_X10_275 (show decode cX10_readsOne 217 = .ok (.invokevirtual 275, 3) by decide +kernel) (by decide) (Nat.le_of_ble_eq_true rfl) (Nat.le_of_ble_eq_true rfl) rfl rfl (Nat.le_of_ble_eq_true rfl) (rcvD s24 (by decide) rfl) (kX10_number w) (fun E h hk => hk.elim) (fun h22 w => ?_)
    refine X_goto (tgt := 324) (show decode cX10_readsOne 220 = .ok (.goto 104, 3) by decide +kernel) (by decide) ?_
    refine X_pick (ls' := [(0, .ref _)]) [0] rfl ?_
    exact kX10_readsOne_J324  _ _ w
  by_cases z111 : x1 = (nI 111)
  · have w := w.2.2.2.1 z111
    refine X_tableIn (tgt := 300) (show decode cX10_readsOne 58 = .ok (.tableswitch 261 98 119 #[102, 261, 261, 261, 230, 261, 261, 261, 261, 261, 144, 261, 261, 242, 114, 261, 261, 202, 165, 261, 261, 254], 102) by decide +kernel) (by rw [z111]; decide) (by rw [z111]; decide) (by rw [z111] <;> rfl) (by decide) ?_
    refine X_aload_n (j := 0) (show decode cX10_readsOne 300 = .ok (.aload_n 0, 1) by decide +kernel) rfl rfl ?_
    refine X_ldcSW (j := 10) rfl (by decide) rfl (show decode cX10_readsOne 301 = .ok (.ldc_w 299, 3) by decide +kernel) ?_
    refine X_iconst (v := (nI 1)) (show decode cX10_readsOne 304 = .ok (.iconst 1, 1) by decide +kernel) (by decide) ?_
    refine X_iconst (v := (nI 3)) (show decode cX10_readsOne 305 = .ok (.iconst 3, 1) by decide +kernel) (by decide) ?_
    obtain ⟨s28, w⟩ := w
    refine X_vV (rc' := 0) (rs' := 0) (as := [.ref _, .int _, .int _]) mv_X10_275 (show decode cX10_readsOne 306 = .ok (.invokevirtual 275, 3) by decide +kernel) (by decide) (Nat.le_of_ble_eq_true rfl) (Nat.le_of_ble_eq_true rfl) rfl rfl (Nat.le_of_ble_eq_true rfl) (rcvD s28 (by decide) rfl) (kX10_number w) (fun E h hk => hk.elim) (fun h26 w => ?_)
    refine X_goto (tgt := 324) (show decode cX10_readsOne 309 = .ok (.goto 15, 3) by decide +kernel) (by decide) ?_
    refine X_pick (ls' := [(0, .ref _)]) [0] rfl ?_
    exact kX10_readsOne_J324  _ _ w
  by_cases z112 : x1 = (nI 112)
  · have w := w.2.2.2.2.1 z112
    refine X_tableIn (tgt := 172) (show decode cX10_readsOne 58 = .ok (.tableswitch 261 98 119 #[102, 261, 261, 261, 230, 261, 261, 261, 261, 261, 144, 261, 261, 242, 114, 261, 261, 202, 165, 261, 261, 254], 102) by decide +kernel) (by rw [z112]; decide) (by rw [z112]; decide) (by rw [z112] <;> rfl) (by decide) ?_
    refine X_aload_n (j := 0) (show decode cX10_readsOne 172 = .ok (.aload_n 0, 1) by decide +kernel) rfl rfl ?_
    refine X_ldcSW (j := 1) rfl (by decide) rfl (show decode cX10_readsOne 173 = .ok (.ldc_w 281, 3) by decide +kernel) ?_
    refine X_iconst (v := (nI 1)) (show decode cX10_readsOne 176 = .ok (.iconst 1, 1) by decide +kernel) (by decide) ?_
    refine X_iconst (v := (nI 3)) (show decode cX10_readsOne 177 = .ok (.iconst 3, 1) by decide +kernel) (by decide) ?_
    obtain ⟨s37, w⟩ := w
    refine X_vV (rc' := 0) (rs' := 0) (as := [.ref _, .int _, .int _]) mv_X10_275 (show decode cX10_readsOne 178 = .ok (.invokevirtual 275, 3) by decide +kernel) (by decide) (Nat.le_of_ble_eq_true rfl) (Nat.le_of_ble_eq_true rfl) rfl rfl (Nat.le_of_ble_eq_true rfl) (rcvD s37 (by decide) rfl) (kX10_number w) (fun E h hk => hk.elim) (fun h29 w => ?_)
    refine X_aload_n (j := 0) (show decode cX10_readsOne 181 = .ok (.aload_n 0, 1) by decide +kernel) rfl rfl ?_
    refine X_ldcSW (j := 2) rfl (by decide) rfl (show decode cX10_readsOne 182 = .ok (.ldc_w 283, 3) by decide +kernel) ?_
    refine X_iconst (v := (nI 2)) (show decode cX10_readsOne 185 = .ok (.iconst 2, 1) by decide +kernel) (by decide) ?_
    refine X_iconst (v := (nI 3)) (show decode cX10_readsOne 186 = .ok (.iconst 3, 1) by decide +kernel) (by decide) ?_
    obtain ⟨s36, w⟩ := w
    refine X_vV (rc' := 0) (rs' := 0) (as := [.ref _, .int _, .int _]) mv_X10_275 (show decode cX10_readsOne 187 = .ok (.invokevirtual 275, 3) by decide +kernel) (by decide) (Nat.le_of_ble_eq_true rfl) (Nat.le_of_ble_eq_true rfl) rfl rfl (Nat.le_of_ble_eq_true rfl) (rcvD s36 (by decide) rfl) (kX10_number w) (fun E h hk => hk.elim) (fun h31 w => ?_)
    refine X_aload_n (j := 0) (show decode cX10_readsOne 190 = .ok (.aload_n 0, 1) by decide +kernel) rfl rfl ?_
    refine X_ldcSW (j := 3) rfl (by decide) rfl (show decode cX10_readsOne 191 = .ok (.ldc_w 285, 3) by decide +kernel) ?_
    refine X_iconst (v := (nI 3)) (show decode cX10_readsOne 194 = .ok (.iconst 3, 1) by decide +kernel) (by decide) ?_
    refine X_iconst (v := (nI 3)) (show decode cX10_readsOne 195 = .ok (.iconst 3, 1) by decide +kernel) (by decide) ?_
    obtain ⟨s35, w⟩ := w
    refine X_vV (rc' := 0) (rs' := 0) (as := [.ref _, .int _, .int _]) mv_X10_275 (show decode cX10_readsOne 196 = .ok (.invokevirtual 275, 3) by decide +kernel) (by decide) (Nat.le_of_ble_eq_true rfl) (Nat.le_of_ble_eq_true rfl) rfl rfl (Nat.le_of_ble_eq_true rfl) (rcvD s35 (by decide) rfl) (kX10_number w) (fun E h hk => hk.elim) (fun h33 w => ?_)
    refine X_goto (tgt := 324) (show decode cX10_readsOne 199 = .ok (.goto 125, 3) by decide +kernel) (by decide) ?_
    refine X_pick (ls' := [(0, .ref _)]) [0] rfl ?_
    exact kX10_readsOne_J324  _ _ w
  by_cases z115 : x1 = (nI 115)
  · have w := w.2.2.2.2.2.1 z115
    refine X_tableIn (tgt := 260) (show decode cX10_readsOne 58 = .ok (.tableswitch 261 98 119 #[102, 261, 261, 261, 230, 261, 261, 261, 261, 261, 144, 261, 261, 242, 114, 261, 261, 202, 165, 261, 261, 254], 102) by decide +kernel) (by rw [z115]; decide) (by rw [z115]; decide) (by rw [z115] <;> rfl) (by decide) ?_
    refine X_iload_n (j := 2) (show decode cX10_readsOne 260 = .ok (.iload_n 2, 1) by decide +kernel) rfl rfl ?_
    refine X_if_eq (tgt := 276) (show decode cX10_readsOne 261 = .ok (.ifCond .eq 15, 3) by decide +kernel) (by decide) ⟨fun c38 => ?_, fun c38 => ?_⟩
    · have w := w.1 c38
      refine X_aload_n (j := 0) (show decode cX10_readsOne 276 = .ok (.aload_n 0, 1) by decide +kernel) rfl rfl ?_
      refine X_ldcSW (j := 8) rfl (by decide) rfl (show decode cX10_readsOne 277 = .ok (.ldc_w 295, 3) by decide +kernel) ?_
      refine X_iconst (v := (nI 1)) (show decode cX10_readsOne 280 = .ok (.iconst 1, 1) by decide +kernel) (by decide) ?_
      refine X_iconst (v := (nI 3)) (show decode cX10_readsOne 281 = .ok (.iconst 3, 1) by decide +kernel) (by decide) ?_
      obtain ⟨s41, w⟩ := w
      refine X_vV (rc' := 0) (rs' := 0) (as := [.ref _, .int _, .int _]) mv_X10_275 (show decode cX10_readsOne 282 = .ok (.invokevirtual 275, 3) by decide +kernel) (by decide) (Nat.le_of_ble_eq_true rfl) (Nat.le_of_ble_eq_true rfl) rfl rfl (Nat.le_of_ble_eq_true rfl) (rcvD s41 (by decide) rfl) (kX10_number w) (fun E h hk => hk.elim) (fun h39 w => ?_)
      refine X_goto (tgt := 324) (show decode cX10_readsOne 285 = .ok (.goto 39, 3) by decide +kernel) (by decide) ?_
      refine X_pick (ls' := [(0, .ref _)]) [0] rfl ?_
      exact kX10_readsOne_J324  _ _ w
    · have w := w.2 c38
      refine X_aload_n (j := 0) (show decode cX10_readsOne 264 = .ok (.aload_n 0, 1) by decide +kernel) rfl rfl ?_
      refine X_ldcSW (j := 7) rfl (by decide) rfl (show decode cX10_readsOne 265 = .ok (.ldc_w 293, 3) by decide +kernel) ?_
      refine X_iconst (v := (nI 1)) (show decode cX10_readsOne 268 = .ok (.iconst 1, 1) by decide +kernel) (by decide) ?_
      refine X_iconst (v := (nI 3)) (show decode cX10_readsOne 269 = .ok (.iconst 3, 1) by decide +kernel) (by decide) ?_
      obtain ⟨s44, w⟩ := w
      refine X_vV (rc' := 0) (rs' := 0) (as := [.ref _, .int _, .int _]) mv_X10_275 (show decode cX10_readsOne 270 = .ok (.invokevirtual 275, 3) by decide +kernel) (by decide) (Nat.le_of_ble_eq_true rfl) (Nat.le_of_ble_eq_true rfl) rfl rfl (Nat.le_of_ble_eq_true rfl) (rcvD s44 (by decide) rfl) (kX10_number w) (fun E h hk => hk.elim) (fun h42 w => ?_)
      refine X_goto (tgt := 324) (show decode cX10_readsOne 273 = .ok (.goto 51, 3) by decide +kernel) (by decide) ?_
      refine X_pick (ls' := [(0, .ref _)]) [0] rfl ?_
      exact kX10_readsOne_J324  _ _ w
  by_cases z116 : x1 = (nI 116)
  · have w := w.2.2.2.2.2.2.1 z116
    refine X_tableIn (tgt := 223) (show decode cX10_readsOne 58 = .ok (.tableswitch 261 98 119 #[102, 261, 261, 261, 230, 261, 261, 261, 261, 261, 144, 261, 261, 242, 114, 261, 261, 202, 165, 261, 261, 254], 102) by decide +kernel) (by rw [z116]; decide) (by rw [z116]; decide) (by rw [z116] <;> rfl) (by decide) ?_
    refine X_iload_n (j := 2) (show decode cX10_readsOne 223 = .ok (.iload_n 2, 1) by decide +kernel) rfl rfl ?_
    refine X_if_eq (tgt := 239) (show decode cX10_readsOne 224 = .ok (.ifCond .eq 15, 3) by decide +kernel) (by decide) ⟨fun c45 => ?_, fun c45 => ?_⟩
    · have w := w.1 c45
      refine X_aload_n (j := 0) (show decode cX10_readsOne 239 = .ok (.aload_n 0, 1) by decide +kernel) rfl rfl ?_
      refine X_ldcSW (j := 6) rfl (by decide) rfl (show decode cX10_readsOne 240 = .ok (.ldc_w 291, 3) by decide +kernel) ?_
      refine X_iconst (v := (nI 1)) (show decode cX10_readsOne 243 = .ok (.iconst 1, 1) by decide +kernel) (by decide) ?_
      refine X_iconst (v := (nI 3)) (show decode cX10_readsOne 244 = .ok (.iconst 3, 1) by decide +kernel) (by decide) ?_
      obtain ⟨s51, w⟩ := w
      refine X_vV (rc' := 0) (rs' := 0) (as := [.ref _, .int _, .int _]) mv_X10_275 (show decode cX10_readsOne 245 = .ok (.invokevirtual 275, 3) by decide +kernel) (by decide) (Nat.le_of_ble_eq_true rfl) (Nat.le_of_ble_eq_true rfl) rfl rfl (Nat.le_of_ble_eq_true rfl) (rcvD s51 (by decide) rfl) (kX10_number w) (fun E h hk => hk.elim) (fun h46 w => ?_)
      refine X_aload_n (j := 0) (show decode cX10_readsOne 248 = .ok (.aload_n 0, 1) by decide +kernel) rfl rfl ?_
      refine X_ldcSW (j := 2) rfl (by decide) rfl (show decode cX10_readsOne 249 = .ok (.ldc_w 283, 3) by decide +kernel) ?_
      refine X_iconst (v := (nI 2)) (show decode cX10_readsOne 252 = .ok (.iconst 2, 1) by decide +kernel) (by decide) ?_
      refine X_iconst (v := (nI 3)) (show decode cX10_readsOne 253 = .ok (.iconst 3, 1) by decide +kernel) (by decide) ?_
      obtain ⟨s50, w⟩ := w
      refine X_vV (rc' := 0) (rs' := 0) (as := [.ref _, .int _, .int _]) mv_X10_275 (show decode cX10_readsOne 254 = .ok (.invokevirtual 275, 3) by decide +kernel) (by decide) (Nat.le_of_ble_eq_true rfl) (Nat.le_of_ble_eq_true rfl) rfl rfl (Nat.le_of_ble_eq_true rfl) (rcvD s50 (by decide) rfl) (kX10_number w) (fun E h hk => hk.elim) (fun h48 w => ?_)
      refine X_goto (tgt := 324) (show decode cX10_readsOne 257 = .ok (.goto 67, 3) by decide +kernel) (by decide) ?_
      refine X_pick (ls' := [(0, .ref _)]) [0] rfl ?_
      exact kX10_readsOne_J324  _ _ w
    · have w := w.2 c45
      refine X_aload_n (j := 0) (show decode cX10_readsOne 227 = .ok (.aload_n 0, 1) by decide +kernel) rfl rfl ?_
      refine X_ldcSW (j := 5) rfl (by decide) rfl (show decode cX10_readsOne 228 = .ok (.ldc_w 289, 3) by decide +kernel) ?_
      refine X_iconst (v := (nI 1)) (show decode cX10_readsOne 231 = .ok (.iconst 1, 1) by decide +kernel) (by decide) ?_
      refine X_iconst (v := (nI 1)) (show decode cX10_readsOne 232 = .ok (.iconst 1, 1) by decide +kernel) (by decide) ?_
      obtain ⟨s54, w⟩ := w
      refine X_vV (rc' := 0) (rs' := 0) (as := [.ref _, .int _, .int _]) mv_X10_275 (show decode cX10_readsOne 233 = .ok (.invokevirtual 275, 3) by decide +kernel) (by decide) (Nat.le_of_ble_eq_true rfl) (Nat.le_of_ble_eq_true rfl) rfl rfl (Nat.le_of_ble_eq_true rfl) (rcvD s54 (by decide) rfl) (kX10_number w) (fun E h hk => hk.elim) (fun h52 w => ?_)
      refine X_goto (tgt := 324) (show decode cX10_readsOne 236 = .ok (.goto 88, 3) by decide +kernel) (by decide) ?_
      refine X_pick (ls' := [(0, .ref _)]) [0] rfl ?_
      exact kX10_readsOne_J324  _ _ w
  by_cases z119 : x1 = (nI 119)
  · have w := w.2.2.2.2.2.2.2.1 z119
    refine X_tableIn (tgt := 312) (show decode cX10_readsOne 58 = .ok (.tableswitch 261 98 119 #[102, 261, 261, 261, 230, 261, 261, 261, 261, 261, 144, 261, 261, 242, 114, 261, 261, 202, 165, 261, 261, 254], 102) by decide +kernel) (by rw [z119]; decide) (by rw [z119]; decide) (by rw [z119] <;> rfl) (by decide) ?_
    refine X_aload_n (j := 0) (show decode cX10_readsOne 312 = .ok (.aload_n 0, 1) by decide +kernel) rfl rfl ?_
    obtain ⟨s57, w⟩ := w
    refine X_vV (rc' := 0) (rs' := 0) (as := []) mv_X10_301 (show decode cX10_readsOne 313 = .ok (.invokevirtual 301, 3) by decide +kernel) (by decide) (Nat.le_of_ble_eq_true rfl) (Nat.le_of_ble_eq_true rfl) rfl rfl (Nat.le_of_ble_eq_true rfl) (rcvD s57 (by decide) rfl) (kX10_readsWait w) (fun E h hk => hk.elim) (fun h55 w => ?_)
    refine X_goto (tgt := 324) (show decode cX10_readsOne 316 = .ok (.goto 8, 3) by decide +kernel) (by decide) ?_
    refine X_pick (ls' := [(0, .ref _)]) [0] rfl ?_
    exact kX10_readsOne_J324  _ _ w
  have w := w.2.2.2.2.2.2.2.2 ⟨z98, z102, z108, z111, z112, z115, z116, z119⟩
  refine X_tab (lo := 98) (hi := 119) (tgt := 319) (show decode cX10_readsOne 58 = .ok (.tableswitch 261 98 119 #[102, 261, 261, 261, 230, 261, 261, 261, 261, 261, 144, 261, 261, 242, 114, 261, 261, 202, 165, 261, 261, 254], 102) by decide +kernel) (by decide) (fun g1 g2 => ?_) ?_
  · have g3 : (x1).toInt = 98 ∨ (x1).toInt = 99 ∨ (x1).toInt = 100 ∨ (x1).toInt = 101 ∨ (x1).toInt = 102 ∨ (x1).toInt = 103 ∨ (x1).toInt = 104 ∨ (x1).toInt = 105 ∨ (x1).toInt = 106 ∨ (x1).toInt = 107 ∨ (x1).toInt = 108 ∨ (x1).toInt = 109 ∨ (x1).toInt = 110 ∨ (x1).toInt = 111 ∨ (x1).toInt = 112 ∨ (x1).toInt = 113 ∨ (x1).toInt = 114 ∨ (x1).toInt = 115 ∨ (x1).toInt = 116 ∨ (x1).toInt = 117 ∨ (x1).toInt = 118 ∨ (x1).toInt = 119 := by omega
    rcases g3 with g3 | g3 | g3 | g3 | g3 | g3 | g3 | g3 | g3 | g3 | g3 | g3 | g3 | g3 | g3 | g3 | g3 | g3 | g3 | g3 | g3 | g3
    · exact absurd (i32_of (k := (nI 98)) (g3.trans (by decide))) z98
    · exact ⟨_, by rw [g3]; rfl, by decide⟩
    · exact ⟨_, by rw [g3]; rfl, by decide⟩
    · exact ⟨_, by rw [g3]; rfl, by decide⟩
    · exact absurd (i32_of (k := (nI 102)) (g3.trans (by decide))) z102
    · exact ⟨_, by rw [g3]; rfl, by decide⟩
    · exact ⟨_, by rw [g3]; rfl, by decide⟩
    · exact ⟨_, by rw [g3]; rfl, by decide⟩
    · exact ⟨_, by rw [g3]; rfl, by decide⟩
    · exact ⟨_, by rw [g3]; rfl, by decide⟩
    · exact absurd (i32_of (k := (nI 108)) (g3.trans (by decide))) z108
    · exact ⟨_, by rw [g3]; rfl, by decide⟩
    · exact ⟨_, by rw [g3]; rfl, by decide⟩
    · exact absurd (i32_of (k := (nI 111)) (g3.trans (by decide))) z111
    · exact absurd (i32_of (k := (nI 112)) (g3.trans (by decide))) z112
    · exact ⟨_, by rw [g3]; rfl, by decide⟩
    · exact ⟨_, by rw [g3]; rfl, by decide⟩
    · exact absurd (i32_of (k := (nI 115)) (g3.trans (by decide))) z115
    · exact absurd (i32_of (k := (nI 116)) (g3.trans (by decide))) z116
    · exact ⟨_, by rw [g3]; rfl, by decide⟩
    · exact ⟨_, by rw [g3]; rfl, by decide⟩
    · exact absurd (i32_of (k := (nI 119)) (g3.trans (by decide))) z119
  · skip
    refine X_aload_n (j := 0) (show decode cX10_readsOne 319 = .ok (.aload_n 0, 1) by decide +kernel) rfl rfl ?_
    refine X_iconst (v := (nI 1)) (show decode cX10_readsOne 320 = .ok (.iconst 1, 1) by decide +kernel) (by decide) ?_
    obtain ⟨s58, w⟩ := w
    refine X_putI fp_X10_253 (show decode cX10_readsOne 321 = .ok (.putfield 253, 3) by decide +kernel) (fun z => nomatch z) s58 (by decide) (by decide) ?_
    have w := w _ rfl
    refine X_pick (ls' := [(0, .ref _)]) [0] rfl ?_
    exact kX10_readsOne_J324  _ _ w
set_option maxRecDepth 100000 in
set_option maxHeartbeats 4000000 in
theorem kX10_readsOne_J33 {K : AH → Prop}   (x0 : Nat) (x1 : Int32) (y0 : Int32) (h : AH) (w : wX10_readsOne_J33 K  x0 x1 y0 h) : X mX10_readsOne 9 (KV K) T0 0 0 33 [(0, .ref x0), (1, .int x1)] [.int y0] h := by
  unfold wX10_readsOne_J33 at w
  refine X_istore_n (ls' := [(0, .ref _), (1, .int _), (2, .int _)]) (show decode cX10_readsOne 33 = .ok (.istore_n 2, 1) by decide +kernel) rfl (by decide) rfl ?_
  refine X_aload_n (j := 0) (show decode cX10_readsOne 34 = .ok (.aload_n 0, 1) by decide +kernel) rfl rfl ?_
  obtain ⟨s6, w⟩ := w
  refine X_getR fl_X10_25 (show decode cX10_readsOne 35 = .ok (.getfield 25, 3) by decide +kernel) s6 ?_
  refine X_iconst (v := (nI 4)) (show decode cX10_readsOne 38 = .ok (.iconst 4, 1) by decide +kernel) (by decide) ?_
  refine X_aload_n (j := 0) (show decode cX10_readsOne 39 = .ok (.aload_n 0, 1) by decide +kernel) rfl rfl ?_
  refine X_getI fl_X10_268 (show decode cX10_readsOne 40 = .ok (.getfield 268, 3) by decide +kernel) s6 ?_
  refine X_imul (show decode cX10_readsOne 43 = .ok (.imul, 1) by decide +kernel) ?_
  refine X_iload_n (j := 2) (show decode cX10_readsOne 44 = .ok (.iload_n 2, 1) by decide +kernel) rfl rfl ?_
  refine X_if_eq (tgt := 55) (show decode cX10_readsOne 45 = .ok (.ifCond .eq 10, 3) by decide +kernel) (by decide) ⟨fun c7 => ?_, fun c7 => ?_⟩
  · have w := w.1 c7
    refine X_iload_n (j := 1) (show decode cX10_readsOne 55 = .ok (.iload_n 1, 1) by decide +kernel) rfl rfl ?_
    exact kX10_readsOne_J56  _ _ _ _ _ _ _ w
  · have w := w.2 c7
    refine X_iload_n (j := 1) (show decode cX10_readsOne 48 = .ok (.iload_n 1, 1) by decide +kernel) rfl rfl ?_
    refine X_bipush (v := (nI 100)) (show decode cX10_readsOne 49 = .ok (.bipush 100, 2) by decide +kernel) (by decide) ?_
    refine X_iadd (show decode cX10_readsOne 51 = .ok (.iadd, 1) by decide +kernel) ?_
    refine X_goto (tgt := 56) (show decode cX10_readsOne 52 = .ok (.goto 4, 3) by decide +kernel) (by decide) ?_
    exact kX10_readsOne_J56  _ _ _ _ _ _ _ w
set_option maxRecDepth 100000 in
set_option maxHeartbeats 4000000 in
theorem kX10_readsOne_J32 {K : AH → Prop}   (x0 : Nat) (x1 : Int32) (h : AH) (w : wX10_readsOne_J32 K  x0 x1 h) : X mX10_readsOne 9 (KV K) T0 0 0 32 [(0, .ref x0), (1, .int x1)] [] h := by
  unfold wX10_readsOne_J32 at w
  refine X_iconst (v := (nI 0)) (show decode cX10_readsOne 32 = .ok (.iconst 0, 1) by decide +kernel) (by decide) ?_
  exact kX10_readsOne_J33  _ _ _ _ w
set_option maxRecDepth 100000 in
set_option maxHeartbeats 4000000 in
theorem kX10_readsOne_J28 {K : AH → Prop}   (x0 : Nat) (x1 : Int32) (h : AH) (w : wX10_readsOne_J28 K  x0 x1 h) : X mX10_readsOne 9 (KV K) T0 0 0 28 [(0, .ref x0), (1, .int x1)] [] h := by
  unfold wX10_readsOne_J28 at w
  refine X_iconst (v := (nI 1)) (show decode cX10_readsOne 28 = .ok (.iconst 1, 1) by decide +kernel) (by decide) ?_
  refine X_goto (tgt := 33) (show decode cX10_readsOne 29 = .ok (.goto 4, 3) by decide +kernel) (by decide) ?_
  exact kX10_readsOne_J33  _ _ _ _ w
set_option maxRecDepth 100000 in
set_option maxHeartbeats 4000000 in
theorem kX10_readsOne {a0 : Nat} {h : AH} {K : AH → Prop} (w : wX10_readsOne a0 h K) : Cn mX10_readsOne (cwd mX10_readsOne) 9 0 0 [.ref a0] h (KV K) T0 := by
  refine Cn_of (by decide +kernel) rfl (Nat.le_of_ble_eq_true rfl) ?_
  show X mX10_readsOne 9 (KV K) T0 0 0 0 [(0, .ref a0)] [] h
  unfold wX10_readsOne at w
  refine X_aload_n (j := 0) (show decode cX10_readsOne 0 = .ok (.aload_n 0, 1) by decide +kernel) rfl rfl ?_
  refine X_iconst (v := (nI 0)) (show decode cX10_readsOne 1 = .ok (.iconst 0, 1) by decide +kernel) (by decide) ?_
  obtain ⟨s63, w⟩ := w
  refine X_vI (rc' := 0) (rs' := 0) (as := [.int _]) mv_X10_257 (show decode cX10_readsOne 2 = .ok (.invokevirtual 257, 3) by decide +kernel) (by decide) (Nat.le_of_ble_eq_true rfl) (Nat.le_of_ble_eq_true rfl) rfl rfl (Nat.le_of_ble_eq_true rfl) (rcvD s63 (by decide) rfl) (kX10_here w) (fun E h hk => hk.elim) (fun r2 h1 w => ?_)
  refine X_istore_n (ls' := [(0, .ref _), (1, .int _)]) (show decode cX10_readsOne 5 = .ok (.istore_n 1, 1) by decide +kernel) rfl (by decide) rfl ?_
  refine X_aload_n (j := 0) (show decode cX10_readsOne 6 = .ok (.aload_n 0, 1) by decide +kernel) rfl rfl ?_
  refine X_iconst (v := (nI 1)) (show decode cX10_readsOne 7 = .ok (.iconst 1, 1) by decide +kernel) (by decide) ?_
  obtain ⟨s62, w⟩ := w
  refine X_vI (rc' := 0) (rs' := 0) (as := [.int _]) mv_X10_257 (show decode cX10_readsOne 8 = .ok (.invokevirtual 257, 3) by decide +kernel) (by decide) (Nat.le_of_ble_eq_true rfl) (Nat.le_of_ble_eq_true rfl) rfl rfl (Nat.le_of_ble_eq_true rfl) (rcvD s62 (by decide) rfl) (kX10_here w) (fun E h hk => hk.elim) (fun r4 h3 w => ?_)
  refine X_bipush (v := (nI 104)) (show decode cX10_readsOne 11 = .ok (.bipush 104, 2) by decide +kernel) (by decide) ?_
  refine X_icmp_ne (tgt := 32) (show decode cX10_readsOne 13 = .ok (.if_icmp .ne 19, 3) by decide +kernel) (by decide) ⟨fun c5 => ?_, fun c5 => ?_⟩
  · have w := w.1 c5
    exact kX10_readsOne_J32  _ _ _ w
  · have w := w.2 c5
    refine X_iload_n (j := 1) (show decode cX10_readsOne 16 = .ok (.iload_n 1, 1) by decide +kernel) rfl rfl ?_
    refine X_bipush (v := (nI 115)) (show decode cX10_readsOne 17 = .ok (.bipush 115, 2) by decide +kernel) (by decide) ?_
    refine X_icmp_eq (tgt := 28) (show decode cX10_readsOne 19 = .ok (.if_icmp .eq 9, 3) by decide +kernel) (by decide) ⟨fun c60 => ?_, fun c60 => ?_⟩
    · have w := w.1 c60
      exact kX10_readsOne_J28  _ _ _ w
    · have w := w.2 c60
      refine X_iload_n (j := 1) (show decode cX10_readsOne 22 = .ok (.iload_n 1, 1) by decide +kernel) rfl rfl ?_
      refine X_bipush (v := (nI 116)) (show decode cX10_readsOne 23 = .ok (.bipush 116, 2) by decide +kernel) (by decide) ?_
      refine X_icmp_ne (tgt := 32) (show decode cX10_readsOne 25 = .ok (.if_icmp .ne 7, 3) by decide +kernel) (by decide) ⟨fun c61 => ?_, fun c61 => ?_⟩
      · have w := w.1 c61
        exact kX10_readsOne_J32  _ _ _ w
      · have w := w.2 c61
        exact kX10_readsOne_J28  _ _ _ w
