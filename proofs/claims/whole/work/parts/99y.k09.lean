set_option maxRecDepth 100000 in
set_option maxHeartbeats 4000000 in
theorem kX10_links {a0 : Nat} {a1 : Int32} {a2 : Int32} {h : AH} {K : Int32 → AH → Prop} (w : wX10_links a0 a1 a2 h K) : Cn mX10_links (cwd mX10_links) 3 0 0 [.ref a0, .int a1, .int a2] h (KI K) T0 := by
  refine Cn_of (by decide +kernel) rfl (Nat.le_of_ble_eq_true rfl) ?_
  show X mX10_links 3 (KI K) T0 0 0 0 [(0, .ref a0), (1, .int a1), (2, .int a2)] [] h
  unfold wX10_links at w
  refine X_aload_n (j := 0) (show decode cX10_links 0 = .ok (.aload_n 0, 1) by decide +kernel) rfl rfl ?_
  refine X_iload_n (j := 1) (show decode cX10_links 1 = .ok (.iload_n 1, 1) by decide +kernel) rfl rfl ?_
  obtain ⟨s27, w⟩ := w
  refine X_vI (rc' := 0) (rs' := 0) (as := [.int _]) mv_X10_144 (show decode cX10_links 2 = .ok (.invokevirtual 144, 3) by decide +kernel) (by decide) (Nat.le_of_ble_eq_true rfl) (Nat.le_of_ble_eq_true rfl) rfl rfl (Nat.le_of_ble_eq_true rfl) (rcvD s27 (by decide) rfl) (kX10_isBlock w) (fun E h hk => hk.elim) (fun r2 h1 w => ?_)
  refine X_if_eq (tgt := 16) (show decode cX10_links 5 = .ok (.ifCond .eq 11, 3) by decide +kernel) (by decide) ⟨fun c3 => ?_, fun c3 => ?_⟩
  · have w := w.1 c3
    refine X_iconst (v := (nI 1)) (show decode cX10_links 16 = .ok (.iconst 1, 1) by decide +kernel) (by decide) ?_
    exact X_iret ⟨(show decode cX10_links 17 = .ok (.ireturn, 1) by decide +kernel), .int, rfl, rfl⟩ ⟨_, rfl, w⟩
  · have w := w.2 c3
    refine X_aload_n (j := 0) (show decode cX10_links 8 = .ok (.aload_n 0, 1) by decide +kernel) rfl rfl ?_
    refine X_iload_n (j := 2) (show decode cX10_links 9 = .ok (.iload_n 2, 1) by decide +kernel) rfl rfl ?_
    obtain ⟨s26, w⟩ := w
    refine X_vI (rc' := 0) (rs' := 0) (as := [.int _]) mv_X10_144 (show decode cX10_links 10 = .ok (.invokevirtual 144, 3) by decide +kernel) (by decide) (Nat.le_of_ble_eq_true rfl) (Nat.le_of_ble_eq_true rfl) rfl rfl (Nat.le_of_ble_eq_true rfl) (rcvD s26 (by decide) rfl) (kX10_isBlock w) (fun E h hk => hk.elim) (fun r5 h4 w => ?_)
    refine X_if_ne (tgt := 18) (show decode cX10_links 13 = .ok (.ifCond .ne 5, 3) by decide +kernel) (by decide) ⟨fun c6 => ?_, fun c6 => ?_⟩
    · have w := w.1 c6
      refine X_iload_n (j := 1) (show decode cX10_links 18 = .ok (.iload_n 1, 1) by decide +kernel) rfl rfl ?_
      refine X_iload_n (j := 2) (show decode cX10_links 19 = .ok (.iload_n 2, 1) by decide +kernel) rfl rfl ?_
      refine X_icmp_ne (tgt := 25) (show decode cX10_links 20 = .ok (.if_icmp .ne 5, 3) by decide +kernel) (by decide) ⟨fun c7 => ?_, fun c7 => ?_⟩
      · have w := w.1 c7
        refine X_aload_n (j := 0) (show decode cX10_links 25 = .ok (.aload_n 0, 1) by decide +kernel) rfl rfl ?_
        refine X_iload_n (j := 1) (show decode cX10_links 26 = .ok (.iload_n 1, 1) by decide +kernel) rfl rfl ?_
        refine X_iconst (v := (nI 3)) (show decode cX10_links 27 = .ok (.iconst 3, 1) by decide +kernel) (by decide) ?_
        obtain ⟨s25, w⟩ := w
        refine X_vI (rc' := 0) (rs' := 0) (as := [.int _, .int _]) mv_X10_80 (show decode cX10_links 28 = .ok (.invokevirtual 80, 3) by decide +kernel) (by decide) (Nat.le_of_ble_eq_true rfl) (Nat.le_of_ble_eq_true rfl) rfl rfl (Nat.le_of_ble_eq_true rfl) (rcvD s25 (by decide) rfl) (kX10_block w) (fun E h hk => hk.elim) (fun r9 h8 w => ?_)
        refine X_if_gt (tgt := 43) (show decode cX10_links 31 = .ok (.ifCond .gt 12, 3) by decide +kernel) (by decide) ⟨fun c10 => ?_, fun c10 => ?_⟩
        · have w := w.1 c10
          refine X_iconst (v := (nI 3)) (show decode cX10_links 43 = .ok (.iconst 3, 1) by decide +kernel) (by decide) ?_
          exact X_iret ⟨(show decode cX10_links 44 = .ok (.ireturn, 1) by decide +kernel), .int, rfl, rfl⟩ ⟨_, rfl, w⟩
        · have w := w.2 c10
          refine X_aload_n (j := 0) (show decode cX10_links 34 = .ok (.aload_n 0, 1) by decide +kernel) rfl rfl ?_
          refine X_iload_n (j := 1) (show decode cX10_links 35 = .ok (.iload_n 1, 1) by decide +kernel) rfl rfl ?_
          refine X_iconst (v := (nI 2)) (show decode cX10_links 36 = .ok (.iconst 2, 1) by decide +kernel) (by decide) ?_
          obtain ⟨s24, w⟩ := w
          refine X_vI (rc' := 0) (rs' := 0) (as := [.int _, .int _]) mv_X10_80 (show decode cX10_links 37 = .ok (.invokevirtual 80, 3) by decide +kernel) (by decide) (Nat.le_of_ble_eq_true rfl) (Nat.le_of_ble_eq_true rfl) rfl rfl (Nat.le_of_ble_eq_true rfl) (rcvD s24 (by decide) rfl) (kX10_block w) (fun E h hk => hk.elim) (fun r12 h11 w => ?_)
          refine X_if_le (tgt := 45) (show decode cX10_links 40 = .ok (.ifCond .le 5, 3) by decide +kernel) (by decide) ⟨fun c13 => ?_, fun c13 => ?_⟩
          · have w := w.1 c13
            refine X_aload_n (j := 0) (show decode cX10_links 45 = .ok (.aload_n 0, 1) by decide +kernel) rfl rfl ?_
            refine X_iload_n (j := 1) (show decode cX10_links 46 = .ok (.iload_n 1, 1) by decide +kernel) rfl rfl ?_
            refine X_iconst (v := (nI 2)) (show decode cX10_links 47 = .ok (.iconst 2, 1) by decide +kernel) (by decide) ?_
            refine X_iload_n (j := 2) (show decode cX10_links 48 = .ok (.iload_n 2, 1) by decide +kernel) rfl rfl ?_
            refine X_iconst (v := (nI 1)) (show decode cX10_links 49 = .ok (.iconst 1, 1) by decide +kernel) (by decide) ?_
            refine X_iadd (show decode cX10_links 50 = .ok (.iadd, 1) by decide +kernel) ?_
            obtain ⟨s23, w⟩ := w
            refine X_vV (rc' := 0) (rs' := 0) (as := [.int _, .int _, .int _]) mv_X10_113 (show decode cX10_links 51 = .ok (.invokevirtual 113, 3) by decide +kernel) (by decide) (Nat.le_of_ble_eq_true rfl) (Nat.le_of_ble_eq_true rfl) rfl rfl (Nat.le_of_ble_eq_true rfl) (rcvD s23 (by decide) rfl) (kX10_puts w) (fun E h hk => hk.elim) (fun h14 w => ?_)
            refine X_aload_n (j := 0) (show decode cX10_links 54 = .ok (.aload_n 0, 1) by decide +kernel) rfl rfl ?_
            obtain ⟨s16, w⟩ := w
            refine X_getR fl_X10_7 (show decode cX10_links 55 = .ok (.getfield 7, 3) by decide +kernel) s16 ?_
            refine X_iconst (v := (nI 2)) (show decode cX10_links 58 = .ok (.iconst 2, 1) by decide +kernel) (by decide) ?_
            refine X_dup2 (show decode cX10_links 59 = .ok (.dup2, 1) by decide +kernel) rfl rfl ?_
            obtain ⟨s17, w⟩ := w
            obtain ⟨s18, w⟩ := w
            refine X_iald (show decode cX10_links 60 = .ok (.iaload, 1) by decide +kernel) (isA_eq s17) s18 ?_
            refine X_iconst (v := (nI 1)) (show decode cX10_links 61 = .ok (.iconst 1, 1) by decide +kernel) (by decide) ?_
            refine X_iadd (show decode cX10_links 62 = .ok (.iadd, 1) by decide +kernel) ?_
            obtain ⟨s19, w⟩ := w
            refine X_iast (show decode cX10_links 63 = .ok (.iastore, 1) by decide +kernel) (isA_eq s17) s19 s18 ?_
            have w := w _ rfl
            refine X_aload_n (j := 0) (show decode cX10_links 64 = .ok (.aload_n 0, 1) by decide +kernel) rfl rfl ?_
            refine X_aload_n (j := 0) (show decode cX10_links 65 = .ok (.aload_n 0, 1) by decide +kernel) rfl rfl ?_
            refine X_getR fl_X10_7 (show decode cX10_links 66 = .ok (.getfield 7, 3) by decide +kernel) s16 ?_
            refine X_iconst (v := (nI 2)) (show decode cX10_links 69 = .ok (.iconst 2, 1) by decide +kernel) (by decide) ?_
            refine X_iald (show decode cX10_links 70 = .ok (.iaload, 1) by decide +kernel) (isA_eq s17) s18 ?_
            refine X_vI (rc' := 0) (rs' := 0) (as := [.int _]) mv_X10_141 (show decode cX10_links 71 = .ok (.invokevirtual 141, 3) by decide +kernel) (by decide) (Nat.le_of_ble_eq_true rfl) (Nat.le_of_ble_eq_true rfl) rfl rfl (Nat.le_of_ble_eq_true rfl) (rcvD s16 (by decide) rfl) (kX10_done w) (fun E h hk => hk.elim) (fun r22 h21 w => ?_)
            exact X_iret ⟨(show decode cX10_links 74 = .ok (.ireturn, 1) by decide +kernel), .int, rfl, rfl⟩ ⟨_, rfl, w⟩
          · have w := w.2 c13
            refine X_iconst (v := (nI 3)) (show decode cX10_links 43 = .ok (.iconst 3, 1) by decide +kernel) (by decide) ?_
            exact X_iret ⟨(show decode cX10_links 44 = .ok (.ireturn, 1) by decide +kernel), .int, rfl, rfl⟩ ⟨_, rfl, w⟩
      · have w := w.2 c7
        refine X_iconst (v := (nI 2)) (show decode cX10_links 23 = .ok (.iconst 2, 1) by decide +kernel) (by decide) ?_
        exact X_iret ⟨(show decode cX10_links 24 = .ok (.ireturn, 1) by decide +kernel), .int, rfl, rfl⟩ ⟨_, rfl, w⟩
    · have w := w.2 c6
      refine X_iconst (v := (nI 1)) (show decode cX10_links 16 = .ok (.iconst 1, 1) by decide +kernel) (by decide) ?_
      exact X_iret ⟨(show decode cX10_links 17 = .ok (.ireturn, 1) by decide +kernel), .int, rfl, rfl⟩ ⟨_, rfl, w⟩
set_option maxRecDepth 100000 in
set_option maxHeartbeats 4000000 in
theorem kX10_shuts {a0 : Nat} {a1 : Int32} {h : AH} {K : Int32 → AH → Prop} (w : wX10_shuts a0 a1 h K) : Cn mX10_shuts (cwd mX10_shuts) 3 0 0 [.ref a0, .int a1] h (KI K) T0 := by
  refine Cn_of (by decide +kernel) rfl (Nat.le_of_ble_eq_true rfl) ?_
  show X mX10_shuts 3 (KI K) T0 0 0 0 [(0, .ref a0), (1, .int a1)] [] h
  unfold wX10_shuts at w
  refine X_aload_n (j := 0) (show decode cX10_shuts 0 = .ok (.aload_n 0, 1) by decide +kernel) rfl rfl ?_
  refine X_iload_n (j := 1) (show decode cX10_shuts 1 = .ok (.iload_n 1, 1) by decide +kernel) rfl rfl ?_
  obtain ⟨s21, w⟩ := w
  refine X_vI (rc' := 0) (rs' := 0) (as := [.int _]) mv_X10_144 (show decode cX10_shuts 2 = .ok (.invokevirtual 144, 3) by decide +kernel) (by decide) (Nat.le_of_ble_eq_true rfl) (Nat.le_of_ble_eq_true rfl) rfl rfl (Nat.le_of_ble_eq_true rfl) (rcvD s21 (by decide) rfl) (kX10_isBlock w) (fun E h hk => hk.elim) (fun r2 h1 w => ?_)
  refine X_if_ne (tgt := 10) (show decode cX10_shuts 5 = .ok (.ifCond .ne 5, 3) by decide +kernel) (by decide) ⟨fun c3 => ?_, fun c3 => ?_⟩
  · have w := w.1 c3
    refine X_aload_n (j := 0) (show decode cX10_shuts 10 = .ok (.aload_n 0, 1) by decide +kernel) rfl rfl ?_
    refine X_iload_n (j := 1) (show decode cX10_shuts 11 = .ok (.iload_n 1, 1) by decide +kernel) rfl rfl ?_
    refine X_iconst (v := (nI 1)) (show decode cX10_shuts 12 = .ok (.iconst 1, 1) by decide +kernel) (by decide) ?_
    obtain ⟨s20, w⟩ := w
    refine X_vI (rc' := 0) (rs' := 0) (as := [.int _, .int _]) mv_X10_80 (show decode cX10_shuts 13 = .ok (.invokevirtual 80, 3) by decide +kernel) (by decide) (Nat.le_of_ble_eq_true rfl) (Nat.le_of_ble_eq_true rfl) rfl rfl (Nat.le_of_ble_eq_true rfl) (rcvD s20 (by decide) rfl) (kX10_block w) (fun E h hk => hk.elim) (fun r5 h4 w => ?_)
    refine X_iconst (v := (nI 1)) (show decode cX10_shuts 16 = .ok (.iconst 1, 1) by decide +kernel) (by decide) ?_
    refine X_icmp_eq (tgt := 29) (show decode cX10_shuts 17 = .ok (.if_icmp .eq 12, 3) by decide +kernel) (by decide) ⟨fun c6 => ?_, fun c6 => ?_⟩
    · have w := w.1 c6
      refine X_iconst (v := (nI 2)) (show decode cX10_shuts 29 = .ok (.iconst 2, 1) by decide +kernel) (by decide) ?_
      exact X_iret ⟨(show decode cX10_shuts 30 = .ok (.ireturn, 1) by decide +kernel), .int, rfl, rfl⟩ ⟨_, rfl, w⟩
    · have w := w.2 c6
      refine X_aload_n (j := 0) (show decode cX10_shuts 20 = .ok (.aload_n 0, 1) by decide +kernel) rfl rfl ?_
      refine X_iload_n (j := 1) (show decode cX10_shuts 21 = .ok (.iload_n 1, 1) by decide +kernel) rfl rfl ?_
      refine X_iconst (v := (nI 5)) (show decode cX10_shuts 22 = .ok (.iconst 5, 1) by decide +kernel) (by decide) ?_
      obtain ⟨s19, w⟩ := w
      refine X_vI (rc' := 0) (rs' := 0) (as := [.int _, .int _]) mv_X10_80 (show decode cX10_shuts 23 = .ok (.invokevirtual 80, 3) by decide +kernel) (by decide) (Nat.le_of_ble_eq_true rfl) (Nat.le_of_ble_eq_true rfl) rfl rfl (Nat.le_of_ble_eq_true rfl) (rcvD s19 (by decide) rfl) (kX10_block w) (fun E h hk => hk.elim) (fun r8 h7 w => ?_)
      refine X_if_le (tgt := 31) (show decode cX10_shuts 26 = .ok (.ifCond .le 5, 3) by decide +kernel) (by decide) ⟨fun c9 => ?_, fun c9 => ?_⟩
      · have w := w.1 c9
        refine X_aload_n (j := 0) (show decode cX10_shuts 31 = .ok (.aload_n 0, 1) by decide +kernel) rfl rfl ?_
        refine X_iload_n (j := 1) (show decode cX10_shuts 32 = .ok (.iload_n 1, 1) by decide +kernel) rfl rfl ?_
        refine X_iconst (v := (nI 1)) (show decode cX10_shuts 33 = .ok (.iconst 1, 1) by decide +kernel) (by decide) ?_
        refine X_iconst (v := (nI 1)) (show decode cX10_shuts 34 = .ok (.iconst 1, 1) by decide +kernel) (by decide) ?_
        obtain ⟨s18, w⟩ := w
        refine X_vV (rc' := 0) (rs' := 0) (as := [.int _, .int _, .int _]) mv_X10_113 (show decode cX10_shuts 35 = .ok (.invokevirtual 113, 3) by decide +kernel) (by decide) (Nat.le_of_ble_eq_true rfl) (Nat.le_of_ble_eq_true rfl) rfl rfl (Nat.le_of_ble_eq_true rfl) (rcvD s18 (by decide) rfl) (kX10_puts w) (fun E h hk => hk.elim) (fun h10 w => ?_)
        refine X_aload_n (j := 0) (show decode cX10_shuts 38 = .ok (.aload_n 0, 1) by decide +kernel) rfl rfl ?_
        refine X_aload_n (j := 0) (show decode cX10_shuts 39 = .ok (.aload_n 0, 1) by decide +kernel) rfl rfl ?_
        obtain ⟨s17, w⟩ := w
        refine X_vI (rc' := 0) (rs' := 0) (as := []) mv_X10_147 (show decode cX10_shuts 40 = .ok (.invokevirtual 147, 3) by decide +kernel) (by decide) (Nat.le_of_ble_eq_true rfl) (Nat.le_of_ble_eq_true rfl) rfl rfl (Nat.le_of_ble_eq_true rfl) (rcvD s17 (by decide) rfl) (kX10_shutMany w) (fun E h hk => hk.elim) (fun r13 h12 w => ?_)
        obtain ⟨s16, w⟩ := w
        refine X_vI (rc' := 0) (rs' := 0) (as := [.int _]) mv_X10_141 (show decode cX10_shuts 43 = .ok (.invokevirtual 141, 3) by decide +kernel) (by decide) (Nat.le_of_ble_eq_true rfl) (Nat.le_of_ble_eq_true rfl) rfl rfl (Nat.le_of_ble_eq_true rfl) (rcvD s16 (by decide) rfl) (kX10_done w) (fun E h hk => hk.elim) (fun r15 h14 w => ?_)
        exact X_iret ⟨(show decode cX10_shuts 46 = .ok (.ireturn, 1) by decide +kernel), .int, rfl, rfl⟩ ⟨_, rfl, w⟩
      · have w := w.2 c9
        refine X_iconst (v := (nI 2)) (show decode cX10_shuts 29 = .ok (.iconst 2, 1) by decide +kernel) (by decide) ?_
        exact X_iret ⟨(show decode cX10_shuts 30 = .ok (.ireturn, 1) by decide +kernel), .int, rfl, rfl⟩ ⟨_, rfl, w⟩
  · have w := w.2 c3
    refine X_iconst (v := (nI 1)) (show decode cX10_shuts 8 = .ok (.iconst 1, 1) by decide +kernel) (by decide) ?_
    exact X_iret ⟨(show decode cX10_shuts 9 = .ok (.ireturn, 1) by decide +kernel), .int, rfl, rfl⟩ ⟨_, rfl, w⟩
set_option maxRecDepth 100000 in
set_option maxHeartbeats 4000000 in
theorem kX10_opens {a0 : Nat} {a1 : Int32} {h : AH} {K : Int32 → AH → Prop} (w : wX10_opens a0 a1 h K) : Cn mX10_opens (cwd mX10_opens) 3 0 0 [.ref a0, .int a1] h (KI K) T0 := by
  refine Cn_of (by decide +kernel) rfl (Nat.le_of_ble_eq_true rfl) ?_
  show X mX10_opens 3 (KI K) T0 0 0 0 [(0, .ref a0), (1, .int a1)] [] h
  unfold wX10_opens at w
  refine X_aload_n (j := 0) (show decode cX10_opens 0 = .ok (.aload_n 0, 1) by decide +kernel) rfl rfl ?_
  refine X_iload_n (j := 1) (show decode cX10_opens 1 = .ok (.iload_n 1, 1) by decide +kernel) rfl rfl ?_
  obtain ⟨s17, w⟩ := w
  refine X_vI (rc' := 0) (rs' := 0) (as := [.int _]) mv_X10_144 (show decode cX10_opens 2 = .ok (.invokevirtual 144, 3) by decide +kernel) (by decide) (Nat.le_of_ble_eq_true rfl) (Nat.le_of_ble_eq_true rfl) rfl rfl (Nat.le_of_ble_eq_true rfl) (rcvD s17 (by decide) rfl) (kX10_isBlock w) (fun E h hk => hk.elim) (fun r2 h1 w => ?_)
  refine X_if_ne (tgt := 10) (show decode cX10_opens 5 = .ok (.ifCond .ne 5, 3) by decide +kernel) (by decide) ⟨fun c3 => ?_, fun c3 => ?_⟩
  · have w := w.1 c3
    refine X_aload_n (j := 0) (show decode cX10_opens 10 = .ok (.aload_n 0, 1) by decide +kernel) rfl rfl ?_
    refine X_iload_n (j := 1) (show decode cX10_opens 11 = .ok (.iload_n 1, 1) by decide +kernel) rfl rfl ?_
    refine X_iconst (v := (nI 1)) (show decode cX10_opens 12 = .ok (.iconst 1, 1) by decide +kernel) (by decide) ?_
    obtain ⟨s16, w⟩ := w
    refine X_vI (rc' := 0) (rs' := 0) (as := [.int _, .int _]) mv_X10_80 (show decode cX10_opens 13 = .ok (.invokevirtual 80, 3) by decide +kernel) (by decide) (Nat.le_of_ble_eq_true rfl) (Nat.le_of_ble_eq_true rfl) rfl rfl (Nat.le_of_ble_eq_true rfl) (rcvD s16 (by decide) rfl) (kX10_block w) (fun E h hk => hk.elim) (fun r5 h4 w => ?_)
    refine X_if_ne (tgt := 21) (show decode cX10_opens 16 = .ok (.ifCond .ne 5, 3) by decide +kernel) (by decide) ⟨fun c6 => ?_, fun c6 => ?_⟩
    · have w := w.1 c6
      refine X_aload_n (j := 0) (show decode cX10_opens 21 = .ok (.aload_n 0, 1) by decide +kernel) rfl rfl ?_
      refine X_iload_n (j := 1) (show decode cX10_opens 22 = .ok (.iload_n 1, 1) by decide +kernel) rfl rfl ?_
      refine X_iconst (v := (nI 1)) (show decode cX10_opens 23 = .ok (.iconst 1, 1) by decide +kernel) (by decide) ?_
      refine X_iconst (v := (nI 0)) (show decode cX10_opens 24 = .ok (.iconst 0, 1) by decide +kernel) (by decide) ?_
      obtain ⟨s15, w⟩ := w
      refine X_vV (rc' := 0) (rs' := 0) (as := [.int _, .int _, .int _]) mv_X10_113 (show decode cX10_opens 25 = .ok (.invokevirtual 113, 3) by decide +kernel) (by decide) (Nat.le_of_ble_eq_true rfl) (Nat.le_of_ble_eq_true rfl) rfl rfl (Nat.le_of_ble_eq_true rfl) (rcvD s15 (by decide) rfl) (kX10_puts w) (fun E h hk => hk.elim) (fun h7 w => ?_)
      refine X_aload_n (j := 0) (show decode cX10_opens 28 = .ok (.aload_n 0, 1) by decide +kernel) rfl rfl ?_
      refine X_aload_n (j := 0) (show decode cX10_opens 29 = .ok (.aload_n 0, 1) by decide +kernel) rfl rfl ?_
      obtain ⟨s14, w⟩ := w
      refine X_vI (rc' := 0) (rs' := 0) (as := []) mv_X10_147 (show decode cX10_opens 30 = .ok (.invokevirtual 147, 3) by decide +kernel) (by decide) (Nat.le_of_ble_eq_true rfl) (Nat.le_of_ble_eq_true rfl) rfl rfl (Nat.le_of_ble_eq_true rfl) (rcvD s14 (by decide) rfl) (kX10_shutMany w) (fun E h hk => hk.elim) (fun r10 h9 w => ?_)
      obtain ⟨s13, w⟩ := w
      refine X_vI (rc' := 0) (rs' := 0) (as := [.int _]) mv_X10_141 (show decode cX10_opens 33 = .ok (.invokevirtual 141, 3) by decide +kernel) (by decide) (Nat.le_of_ble_eq_true rfl) (Nat.le_of_ble_eq_true rfl) rfl rfl (Nat.le_of_ble_eq_true rfl) (rcvD s13 (by decide) rfl) (kX10_done w) (fun E h hk => hk.elim) (fun r12 h11 w => ?_)
      exact X_iret ⟨(show decode cX10_opens 36 = .ok (.ireturn, 1) by decide +kernel), .int, rfl, rfl⟩ ⟨_, rfl, w⟩
    · have w := w.2 c6
      refine X_iconst (v := (nI 2)) (show decode cX10_opens 19 = .ok (.iconst 2, 1) by decide +kernel) (by decide) ?_
      exact X_iret ⟨(show decode cX10_opens 20 = .ok (.ireturn, 1) by decide +kernel), .int, rfl, rfl⟩ ⟨_, rfl, w⟩
  · have w := w.2 c3
    refine X_iconst (v := (nI 1)) (show decode cX10_opens 8 = .ok (.iconst 1, 1) by decide +kernel) (by decide) ?_
    exact X_iret ⟨(show decode cX10_opens 9 = .ok (.ireturn, 1) by decide +kernel), .int, rfl, rfl⟩ ⟨_, rfl, w⟩
set_option maxRecDepth 100000 in
set_option maxHeartbeats 4000000 in
theorem kX10_throwsOver {a0 : Nat} {a1 : Int32} {h : AH} {K : Int32 → AH → Prop} (w : wX10_throwsOver a0 a1 h K) : Cn mX10_throwsOver (cwd mX10_throwsOver) 3 0 0 [.ref a0, .int a1] h (KI K) T0 := by
  refine Cn_of (by decide +kernel) rfl (Nat.le_of_ble_eq_true rfl) ?_
  show X mX10_throwsOver 3 (KI K) T0 0 0 0 [(0, .ref a0), (1, .int a1)] [] h
  unfold wX10_throwsOver at w
  refine X_aload_n (j := 0) (show decode cX10_throwsOver 0 = .ok (.aload_n 0, 1) by decide +kernel) rfl rfl ?_
  refine X_iload_n (j := 1) (show decode cX10_throwsOver 1 = .ok (.iload_n 1, 1) by decide +kernel) rfl rfl ?_
  obtain ⟨s21, w⟩ := w
  refine X_vI (rc' := 0) (rs' := 0) (as := [.int _]) mv_X10_151 (show decode cX10_throwsOver 2 = .ok (.invokevirtual 151, 3) by decide +kernel) (by decide) (Nat.le_of_ble_eq_true rfl) (Nat.le_of_ble_eq_true rfl) rfl rfl (Nat.le_of_ble_eq_true rfl) (rcvD s21 (by decide) rfl) (kX10_isPoint w) (fun E h hk => hk.elim) (fun r2 h1 w => ?_)
  refine X_if_ne (tgt := 10) (show decode cX10_throwsOver 5 = .ok (.ifCond .ne 5, 3) by decide +kernel) (by decide) ⟨fun c3 => ?_, fun c3 => ?_⟩
  · have w := w.1 c3
    refine X_aload_n (j := 0) (show decode cX10_throwsOver 10 = .ok (.aload_n 0, 1) by decide +kernel) rfl rfl ?_
    refine X_iload_n (j := 1) (show decode cX10_throwsOver 11 = .ok (.iload_n 1, 1) by decide +kernel) rfl rfl ?_
    refine X_iconst (v := (nI 4)) (show decode cX10_throwsOver 12 = .ok (.iconst 4, 1) by decide +kernel) (by decide) ?_
    obtain ⟨s20, w⟩ := w
    refine X_vI (rc' := 0) (rs' := 0) (as := [.int _, .int _]) mv_X10_83 (show decode cX10_throwsOver 13 = .ok (.invokevirtual 83, 3) by decide +kernel) (by decide) (Nat.le_of_ble_eq_true rfl) (Nat.le_of_ble_eq_true rfl) rfl rfl (Nat.le_of_ble_eq_true rfl) (rcvD s20 (by decide) rfl) (kX10_point w) (fun E h hk => hk.elim) (fun r5 h4 w => ?_)
    refine X_if_le (tgt := 21) (show decode cX10_throwsOver 16 = .ok (.ifCond .le 5, 3) by decide +kernel) (by decide) ⟨fun c6 => ?_, fun c6 => ?_⟩
    · have w := w.1 c6
      refine X_aload_n (j := 0) (show decode cX10_throwsOver 21 = .ok (.aload_n 0, 1) by decide +kernel) rfl rfl ?_
      obtain ⟨s7, w⟩ := w
      refine X_getR fl_X10_7 (show decode cX10_throwsOver 22 = .ok (.getfield 7, 3) by decide +kernel) s7 ?_
      refine X_bipush (v := (nI 81)) (show decode cX10_throwsOver 25 = .ok (.bipush 81, 2) by decide +kernel) (by decide) ?_
      refine X_iconst (v := (nI 5)) (show decode cX10_throwsOver 27 = .ok (.iconst 5, 1) by decide +kernel) (by decide) ?_
      refine X_iload_n (j := 1) (show decode cX10_throwsOver 28 = .ok (.iload_n 1, 1) by decide +kernel) rfl rfl ?_
      refine X_imul (show decode cX10_throwsOver 29 = .ok (.imul, 1) by decide +kernel) ?_
      refine X_iadd (show decode cX10_throwsOver 30 = .ok (.iadd, 1) by decide +kernel) ?_
      refine X_iconst (v := (nI 3)) (show decode cX10_throwsOver 31 = .ok (.iconst 3, 1) by decide +kernel) (by decide) ?_
      refine X_iadd (show decode cX10_throwsOver 32 = .ok (.iadd, 1) by decide +kernel) ?_
      refine X_iconst (v := (nI 1)) (show decode cX10_throwsOver 33 = .ok (.iconst 1, 1) by decide +kernel) (by decide) ?_
      refine X_aload_n (j := 0) (show decode cX10_throwsOver 34 = .ok (.aload_n 0, 1) by decide +kernel) rfl rfl ?_
      refine X_iload_n (j := 1) (show decode cX10_throwsOver 35 = .ok (.iload_n 1, 1) by decide +kernel) rfl rfl ?_
      refine X_iconst (v := (nI 3)) (show decode cX10_throwsOver 36 = .ok (.iconst 3, 1) by decide +kernel) (by decide) ?_
      refine X_vI (rc' := 0) (rs' := 0) (as := [.int _, .int _]) mv_X10_83 (show decode cX10_throwsOver 37 = .ok (.invokevirtual 83, 3) by decide +kernel) (by decide) (Nat.le_of_ble_eq_true rfl) (Nat.le_of_ble_eq_true rfl) rfl rfl (Nat.le_of_ble_eq_true rfl) (rcvD s7 (by decide) rfl) (kX10_point w) (fun E h hk => hk.elim) (fun r9 h8 w => ?_)
      refine X_isub (show decode cX10_throwsOver 40 = .ok (.isub, 1) by decide +kernel) ?_
      obtain ⟨s10, w⟩ := w
      obtain ⟨s11, w⟩ := w
      obtain ⟨s12, w⟩ := w
      refine X_iast (show decode cX10_throwsOver 41 = .ok (.iastore, 1) by decide +kernel) (isA_eq s10) s11 s12 ?_
      have w := w _ rfl
      refine X_aload_n (j := 0) (show decode cX10_throwsOver 42 = .ok (.aload_n 0, 1) by decide +kernel) rfl rfl ?_
      refine X_iconst (v := (nI 1)) (show decode cX10_throwsOver 43 = .ok (.iconst 1, 1) by decide +kernel) (by decide) ?_
      refine X_aload_n (j := 0) (show decode cX10_throwsOver 44 = .ok (.aload_n 0, 1) by decide +kernel) rfl rfl ?_
      refine X_iload_n (j := 1) (show decode cX10_throwsOver 45 = .ok (.iload_n 1, 1) by decide +kernel) rfl rfl ?_
      refine X_iconst (v := (nI 3)) (show decode cX10_throwsOver 46 = .ok (.iconst 3, 1) by decide +kernel) (by decide) ?_
      obtain ⟨s19, w⟩ := w
      refine X_vI (rc' := 0) (rs' := 0) (as := [.int _, .int _]) mv_X10_83 (show decode cX10_throwsOver 47 = .ok (.invokevirtual 83, 3) by decide +kernel) (by decide) (Nat.le_of_ble_eq_true rfl) (Nat.le_of_ble_eq_true rfl) rfl rfl (Nat.le_of_ble_eq_true rfl) (rcvD s19 (by decide) rfl) (kX10_point w) (fun E h hk => hk.elim) (fun r15 h14 w => ?_)
      refine X_isub (show decode cX10_throwsOver 50 = .ok (.isub, 1) by decide +kernel) ?_
      obtain ⟨s18, w⟩ := w
      refine X_vI (rc' := 0) (rs' := 0) (as := [.int _]) mv_X10_141 (show decode cX10_throwsOver 51 = .ok (.invokevirtual 141, 3) by decide +kernel) (by decide) (Nat.le_of_ble_eq_true rfl) (Nat.le_of_ble_eq_true rfl) rfl rfl (Nat.le_of_ble_eq_true rfl) (rcvD s18 (by decide) rfl) (kX10_done w) (fun E h hk => hk.elim) (fun r17 h16 w => ?_)
      exact X_iret ⟨(show decode cX10_throwsOver 54 = .ok (.ireturn, 1) by decide +kernel), .int, rfl, rfl⟩ ⟨_, rfl, w⟩
    · have w := w.2 c6
      refine X_iconst (v := (nI 2)) (show decode cX10_throwsOver 19 = .ok (.iconst 2, 1) by decide +kernel) (by decide) ?_
      exact X_iret ⟨(show decode cX10_throwsOver 20 = .ok (.ireturn, 1) by decide +kernel), .int, rfl, rfl⟩ ⟨_, rfl, w⟩
  · have w := w.2 c3
    refine X_iconst (v := (nI 1)) (show decode cX10_throwsOver 8 = .ok (.iconst 1, 1) by decide +kernel) (by decide) ?_
    exact X_iret ⟨(show decode cX10_throwsOver 9 = .ok (.ireturn, 1) by decide +kernel), .int, rfl, rfl⟩ ⟨_, rfl, w⟩
set_option maxRecDepth 100000 in
set_option maxHeartbeats 4000000 in
theorem kX10_comes {a0 : Nat} {a1 : Int32} {a2 : Int32} {h : AH} {K : Int32 → AH → Prop} (w : wX10_comes a0 a1 a2 h K) : Cn mX10_comes (cwd mX10_comes) 3 0 0 [.ref a0, .int a1, .int a2] h (KI K) T0 := by
  refine Cn_of (by decide +kernel) rfl (Nat.le_of_ble_eq_true rfl) ?_
  show X mX10_comes 3 (KI K) T0 0 0 0 [(0, .ref a0), (1, .int a1), (2, .int a2)] [] h
  unfold wX10_comes at w
  refine X_aload_n (j := 0) (show decode cX10_comes 0 = .ok (.aload_n 0, 1) by decide +kernel) rfl rfl ?_
  refine X_iload_n (j := 1) (show decode cX10_comes 1 = .ok (.iload_n 1, 1) by decide +kernel) rfl rfl ?_
  obtain ⟨s46, w⟩ := w
  refine X_vI (rc' := 0) (rs' := 0) (as := [.int _]) mv_X10_144 (show decode cX10_comes 2 = .ok (.invokevirtual 144, 3) by decide +kernel) (by decide) (Nat.le_of_ble_eq_true rfl) (Nat.le_of_ble_eq_true rfl) rfl rfl (Nat.le_of_ble_eq_true rfl) (rcvD s46 (by decide) rfl) (kX10_isBlock w) (fun E h hk => hk.elim) (fun r2 h1 w => ?_)
  refine X_if_eq (tgt := 16) (show decode cX10_comes 5 = .ok (.ifCond .eq 11, 3) by decide +kernel) (by decide) ⟨fun c3 => ?_, fun c3 => ?_⟩
  · have w := w.1 c3
    refine X_iconst (v := (nI 1)) (show decode cX10_comes 16 = .ok (.iconst 1, 1) by decide +kernel) (by decide) ?_
    exact X_iret ⟨(show decode cX10_comes 17 = .ok (.ireturn, 1) by decide +kernel), .int, rfl, rfl⟩ ⟨_, rfl, w⟩
  · have w := w.2 c3
    refine X_aload_n (j := 0) (show decode cX10_comes 8 = .ok (.aload_n 0, 1) by decide +kernel) rfl rfl ?_
    refine X_iload_n (j := 2) (show decode cX10_comes 9 = .ok (.iload_n 2, 1) by decide +kernel) rfl rfl ?_
    obtain ⟨s45, w⟩ := w
    refine X_vI (rc' := 0) (rs' := 0) (as := [.int _]) mv_X10_144 (show decode cX10_comes 10 = .ok (.invokevirtual 144, 3) by decide +kernel) (by decide) (Nat.le_of_ble_eq_true rfl) (Nat.le_of_ble_eq_true rfl) rfl rfl (Nat.le_of_ble_eq_true rfl) (rcvD s45 (by decide) rfl) (kX10_isBlock w) (fun E h hk => hk.elim) (fun r5 h4 w => ?_)
    refine X_if_ne (tgt := 18) (show decode cX10_comes 13 = .ok (.ifCond .ne 5, 3) by decide +kernel) (by decide) ⟨fun c6 => ?_, fun c6 => ?_⟩
    · have w := w.1 c6
      refine X_iload_n (j := 1) (show decode cX10_comes 18 = .ok (.iload_n 1, 1) by decide +kernel) rfl rfl ?_
      refine X_iload_n (j := 2) (show decode cX10_comes 19 = .ok (.iload_n 2, 1) by decide +kernel) rfl rfl ?_
      refine X_icmp_ne (tgt := 25) (show decode cX10_comes 20 = .ok (.if_icmp .ne 5, 3) by decide +kernel) (by decide) ⟨fun c7 => ?_, fun c7 => ?_⟩
      · have w := w.1 c7
        refine X_aload_n (j := 0) (show decode cX10_comes 25 = .ok (.aload_n 0, 1) by decide +kernel) rfl rfl ?_
        obtain ⟨s8, w⟩ := w
        refine X_getR fl_X10_7 (show decode cX10_comes 26 = .ok (.getfield 7, 3) by decide +kernel) s8 ?_
        refine X_iconst (v := (nI 4)) (show decode cX10_comes 29 = .ok (.iconst 4, 1) by decide +kernel) (by decide) ?_
        obtain ⟨s9, w⟩ := w
        obtain ⟨s10, w⟩ := w
        refine X_iald (show decode cX10_comes 30 = .ok (.iaload, 1) by decide +kernel) (isA_eq s9) s10 ?_
        refine X_topi (fun v11 e12 => ?_)
        have w := w v11 e12
        refine X_istore_n (ls' := [(0, .ref _), (1, .int _), (2, .int _), (3, .int _)]) (show decode cX10_comes 31 = .ok (.istore_n 3, 1) by decide +kernel) rfl (by decide) rfl ?_
        refine X_iload_n (j := 3) (show decode cX10_comes 32 = .ok (.iload_n 3, 1) by decide +kernel) rfl rfl ?_
        refine X_bipush (v := (nI 8)) (show decode cX10_comes 33 = .ok (.bipush 8, 2) by decide +kernel) (by decide) ?_
        refine X_icmp_eq (tgt := 48) (show decode cX10_comes 35 = .ok (.if_icmp .eq 13, 3) by decide +kernel) (by decide) ⟨fun c13 => ?_, fun c13 => ?_⟩
        · have w := w.1 c13
          refine X_iconst (v := (nI 3)) (show decode cX10_comes 48 = .ok (.iconst 3, 1) by decide +kernel) (by decide) ?_
          exact X_iret ⟨(show decode cX10_comes 49 = .ok (.ireturn, 1) by decide +kernel), .int, rfl, rfl⟩ ⟨_, rfl, w⟩
        · have w := w.2 c13
          refine X_aload_n (j := 0) (show decode cX10_comes 38 = .ok (.aload_n 0, 1) by decide +kernel) rfl rfl ?_
          refine X_iload_n (j := 1) (show decode cX10_comes 39 = .ok (.iload_n 1, 1) by decide +kernel) rfl rfl ?_
          refine X_vI (rc' := 0) (rs' := 0) (as := [.int _]) mv_X10_103 (show decode cX10_comes 40 = .ok (.invokevirtual 103, 3) by decide +kernel) (by decide) (Nat.le_of_ble_eq_true rfl) (Nat.le_of_ble_eq_true rfl) rfl rfl (Nat.le_of_ble_eq_true rfl) (rcvD s8 (by decide) rfl) (kX10_look w) (fun E h hk => hk.elim) (fun r15 h14 w => ?_)
          refine X_bipush (v := (nI 102)) (show decode cX10_comes 43 = .ok (.bipush 102, 2) by decide +kernel) (by decide) ?_
          refine X_icmp_eq (tgt := 50) (show decode cX10_comes 45 = .ok (.if_icmp .eq 5, 3) by decide +kernel) (by decide) ⟨fun c16 => ?_, fun c16 => ?_⟩
          · have w := w.1 c16
            refine X_aload_n (j := 0) (show decode cX10_comes 50 = .ok (.aload_n 0, 1) by decide +kernel) rfl rfl ?_
            obtain ⟨s17, w⟩ := w
            refine X_getR fl_X10_7 (show decode cX10_comes 51 = .ok (.getfield 7, 3) by decide +kernel) s17 ?_
            refine X_iconst (v := (nI 3)) (show decode cX10_comes 54 = .ok (.iconst 3, 1) by decide +kernel) (by decide) ?_
            obtain ⟨s18, w⟩ := w
            obtain ⟨s19, w⟩ := w
            refine X_iald (show decode cX10_comes 55 = .ok (.iaload, 1) by decide +kernel) (isA_eq s18) s19 ?_
            refine X_topi (fun v20 e21 => ?_)
            have w := w v20 e21
            refine X_istore (ls' := [(0, .ref _), (1, .int _), (2, .int _), (3, .int _), (4, .int _)]) (show decode cX10_comes 56 = .ok (.istore 4, 2) by decide +kernel) (by decide) rfl ?_
            refine X_aload_n (j := 0) (show decode cX10_comes 58 = .ok (.aload_n 0, 1) by decide +kernel) rfl rfl ?_
            refine X_iload_n (j := 3) (show decode cX10_comes 59 = .ok (.iload_n 3, 1) by decide +kernel) rfl rfl ?_
            refine X_iconst (v := (nI 0)) (show decode cX10_comes 60 = .ok (.iconst 0, 1) by decide +kernel) (by decide) ?_
            refine X_iload (j := 4) (show decode cX10_comes 61 = .ok (.iload 4, 2) by decide +kernel) rfl ?_
            refine X_vV (rc' := 0) (rs' := 0) (as := [.int _, .int _, .int _]) mv_X10_109 (show decode cX10_comes 63 = .ok (.invokevirtual 109, 3) by decide +kernel) (by decide) (Nat.le_of_ble_eq_true rfl) (Nat.le_of_ble_eq_true rfl) rfl rfl (Nat.le_of_ble_eq_true rfl) (rcvD s17 (by decide) rfl) (kX10_tells w) (fun E h hk => hk.elim) (fun h22 w => ?_)
            refine X_aload_n (j := 0) (show decode cX10_comes 66 = .ok (.aload_n 0, 1) by decide +kernel) rfl rfl ?_
            refine X_iload_n (j := 3) (show decode cX10_comes 67 = .ok (.iload_n 3, 1) by decide +kernel) rfl rfl ?_
            refine X_iconst (v := (nI 1)) (show decode cX10_comes 68 = .ok (.iconst 1, 1) by decide +kernel) (by decide) ?_
            refine X_iload_n (j := 1) (show decode cX10_comes 69 = .ok (.iload_n 1, 1) by decide +kernel) rfl rfl ?_
            obtain ⟨s44, w⟩ := w
            refine X_vV (rc' := 0) (rs' := 0) (as := [.int _, .int _, .int _]) mv_X10_109 (show decode cX10_comes 70 = .ok (.invokevirtual 109, 3) by decide +kernel) (by decide) (Nat.le_of_ble_eq_true rfl) (Nat.le_of_ble_eq_true rfl) rfl rfl (Nat.le_of_ble_eq_true rfl) (rcvD s44 (by decide) rfl) (kX10_tells w) (fun E h hk => hk.elim) (fun h24 w => ?_)
            refine X_aload_n (j := 0) (show decode cX10_comes 73 = .ok (.aload_n 0, 1) by decide +kernel) rfl rfl ?_
            refine X_iload_n (j := 3) (show decode cX10_comes 74 = .ok (.iload_n 3, 1) by decide +kernel) rfl rfl ?_
            refine X_iconst (v := (nI 2)) (show decode cX10_comes 75 = .ok (.iconst 2, 1) by decide +kernel) (by decide) ?_
            refine X_iload_n (j := 2) (show decode cX10_comes 76 = .ok (.iload_n 2, 1) by decide +kernel) rfl rfl ?_
            obtain ⟨s43, w⟩ := w
            refine X_vV (rc' := 0) (rs' := 0) (as := [.int _, .int _, .int _]) mv_X10_109 (show decode cX10_comes 77 = .ok (.invokevirtual 109, 3) by decide +kernel) (by decide) (Nat.le_of_ble_eq_true rfl) (Nat.le_of_ble_eq_true rfl) rfl rfl (Nat.le_of_ble_eq_true rfl) (rcvD s43 (by decide) rfl) (kX10_tells w) (fun E h hk => hk.elim) (fun h26 w => ?_)
            refine X_aload_n (j := 0) (show decode cX10_comes 80 = .ok (.aload_n 0, 1) by decide +kernel) rfl rfl ?_
            obtain ⟨s28, w⟩ := w
            refine X_getR fl_X10_7 (show decode cX10_comes 81 = .ok (.getfield 7, 3) by decide +kernel) s28 ?_
            refine X_iconst (v := (nI 4)) (show decode cX10_comes 84 = .ok (.iconst 4, 1) by decide +kernel) (by decide) ?_
            refine X_iload_n (j := 3) (show decode cX10_comes 85 = .ok (.iload_n 3, 1) by decide +kernel) rfl rfl ?_
            refine X_iconst (v := (nI 1)) (show decode cX10_comes 86 = .ok (.iconst 1, 1) by decide +kernel) (by decide) ?_
            refine X_iadd (show decode cX10_comes 87 = .ok (.iadd, 1) by decide +kernel) ?_
            obtain ⟨s29, w⟩ := w
            obtain ⟨s30, w⟩ := w
            obtain ⟨s31, w⟩ := w
            refine X_iast (show decode cX10_comes 88 = .ok (.iastore, 1) by decide +kernel) (isA_eq s29) s30 s31 ?_
            have w := w _ rfl
            refine X_aload_n (j := 0) (show decode cX10_comes 89 = .ok (.aload_n 0, 1) by decide +kernel) rfl rfl ?_
            refine X_getR fl_X10_7 (show decode cX10_comes 90 = .ok (.getfield 7, 3) by decide +kernel) s28 ?_
            refine X_iconst (v := (nI 3)) (show decode cX10_comes 93 = .ok (.iconst 3, 1) by decide +kernel) (by decide) ?_
            refine X_dup2 (show decode cX10_comes 94 = .ok (.dup2, 1) by decide +kernel) rfl rfl ?_
            obtain ⟨s33, w⟩ := w
            refine X_iald (show decode cX10_comes 95 = .ok (.iaload, 1) by decide +kernel) (isA_eq s29) s33 ?_
            refine X_iconst (v := (nI 1)) (show decode cX10_comes 96 = .ok (.iconst 1, 1) by decide +kernel) (by decide) ?_
            refine X_iadd (show decode cX10_comes 97 = .ok (.iadd, 1) by decide +kernel) ?_
            refine X_iast (show decode cX10_comes 98 = .ok (.iastore, 1) by decide +kernel) (isA_eq s29) s30 s33 ?_
            have w := w _ rfl
            refine X_aload_n (j := 0) (show decode cX10_comes 99 = .ok (.aload_n 0, 1) by decide +kernel) rfl rfl ?_
            refine X_iload_n (j := 1) (show decode cX10_comes 100 = .ok (.iload_n 1, 1) by decide +kernel) rfl rfl ?_
            refine X_iconst (v := (nI 4)) (show decode cX10_comes 101 = .ok (.iconst 4, 1) by decide +kernel) (by decide) ?_
            refine X_iload (j := 4) (show decode cX10_comes 102 = .ok (.iload 4, 2) by decide +kernel) rfl ?_
            refine X_iconst (v := (nI 1)) (show decode cX10_comes 104 = .ok (.iconst 1, 1) by decide +kernel) (by decide) ?_
            refine X_iadd (show decode cX10_comes 105 = .ok (.iadd, 1) by decide +kernel) ?_
            refine X_vV (rc' := 0) (rs' := 0) (as := [.int _, .int _, .int _]) mv_X10_113 (show decode cX10_comes 106 = .ok (.invokevirtual 113, 3) by decide +kernel) (by decide) (Nat.le_of_ble_eq_true rfl) (Nat.le_of_ble_eq_true rfl) rfl rfl (Nat.le_of_ble_eq_true rfl) (rcvD s28 (by decide) rfl) (kX10_puts w) (fun E h hk => hk.elim) (fun h35 w => ?_)
            refine X_aload_n (j := 0) (show decode cX10_comes 109 = .ok (.aload_n 0, 1) by decide +kernel) rfl rfl ?_
            refine X_iload (j := 4) (show decode cX10_comes 110 = .ok (.iload 4, 2) by decide +kernel) rfl ?_
            obtain ⟨s42, w⟩ := w
            refine X_vV (rc' := 0) (rs' := 0) (as := [.int _]) mv_X10_154 (show decode cX10_comes 112 = .ok (.invokevirtual 154, 3) by decide +kernel) (by decide) (Nat.le_of_ble_eq_true rfl) (Nat.le_of_ble_eq_true rfl) rfl rfl (Nat.le_of_ble_eq_true rfl) (rcvD s42 (by decide) rfl) (kX10_enqueues w) (fun E h hk => hk.elim) (fun h37 w => ?_)
            refine X_aload_n (j := 0) (show decode cX10_comes 115 = .ok (.aload_n 0, 1) by decide +kernel) rfl rfl ?_
            refine X_iload (j := 4) (show decode cX10_comes 116 = .ok (.iload 4, 2) by decide +kernel) rfl ?_
            obtain ⟨s41, w⟩ := w
            refine X_vI (rc' := 0) (rs' := 0) (as := [.int _]) mv_X10_141 (show decode cX10_comes 118 = .ok (.invokevirtual 141, 3) by decide +kernel) (by decide) (Nat.le_of_ble_eq_true rfl) (Nat.le_of_ble_eq_true rfl) rfl rfl (Nat.le_of_ble_eq_true rfl) (rcvD s41 (by decide) rfl) (kX10_done w) (fun E h hk => hk.elim) (fun r40 h39 w => ?_)
            exact X_iret ⟨(show decode cX10_comes 121 = .ok (.ireturn, 1) by decide +kernel), .int, rfl, rfl⟩ ⟨_, rfl, w⟩
          · have w := w.2 c16
            refine X_iconst (v := (nI 3)) (show decode cX10_comes 48 = .ok (.iconst 3, 1) by decide +kernel) (by decide) ?_
            exact X_iret ⟨(show decode cX10_comes 49 = .ok (.ireturn, 1) by decide +kernel), .int, rfl, rfl⟩ ⟨_, rfl, w⟩
      · have w := w.2 c7
        refine X_iconst (v := (nI 2)) (show decode cX10_comes 23 = .ok (.iconst 2, 1) by decide +kernel) (by decide) ?_
        exact X_iret ⟨(show decode cX10_comes 24 = .ok (.ireturn, 1) by decide +kernel), .int, rfl, rfl⟩ ⟨_, rfl, w⟩
    · have w := w.2 c6
      refine X_iconst (v := (nI 1)) (show decode cX10_comes 16 = .ok (.iconst 1, 1) by decide +kernel) (by decide) ?_
      exact X_iret ⟨(show decode cX10_comes 17 = .ok (.ireturn, 1) by decide +kernel), .int, rfl, rfl⟩ ⟨_, rfl, w⟩
set_option maxRecDepth 100000 in
set_option maxHeartbeats 4000000 in
theorem kX10_clears_J84 {K : Int32 → AH → Prop}   (y0 : Nat) (y1 : Int32) (h : AH) (w : wX10_clears_J84 K  y0 y1 h) : X mX10_clears 6 (KI K) T0 0 0 84 [] [.int y1, .ref y0] h := by
  unfold wX10_clears_J84 at w
  obtain ⟨s22, w⟩ := w
  refine X_putI fp_X10_53 (show decode cX10_clears 84 = .ok (.putfield 53, 3) by decide +kernel) (fun z => nomatch z) s22 rfl rfl ?_
  have w := w _ rfl
  refine X_iconst (v := (nI 3)) (show decode cX10_clears 87 = .ok (.iconst 3, 1) by decide +kernel) (by decide) ?_
  exact X_iret ⟨(show decode cX10_clears 88 = .ok (.ireturn, 1) by decide +kernel), .int, rfl, rfl⟩ ⟨_, rfl, w⟩
set_option maxRecDepth 100000 in
set_option maxHeartbeats 4000000 in
theorem kX10_clears_J66 {K : Int32 → AH → Prop}   (x0 : Nat) (x3 : Int32) (y0 : Nat) (y1 : Int32) (h : AH) (w : wX10_clears_J66 K  x0 x3 y0 y1 h) : X mX10_clears 6 (KI K) T0 0 0 66 [(0, .ref x0), (3, .int x3)] [.int y1, .ref y0] h := by
  unfold wX10_clears_J66 at w
  obtain ⟨s16, w⟩ := w
  refine X_putI fp_X10_157 (show decode cX10_clears 66 = .ok (.putfield 157, 3) by decide +kernel) (fun z => nomatch z) s16 rfl rfl ?_
  have w := w _ rfl
  refine X_aload_n (j := 0) (show decode cX10_clears 69 = .ok (.aload_n 0, 1) by decide +kernel) rfl rfl ?_
  refine X_iload_n (j := 1) (show decode cX10_clears 70 = .ok (.iload_n 3, 1) by decide +kernel) rfl rfl ?_
  refine X_if_ne (tgt := 78) (show decode cX10_clears 71 = .ok (.ifCond .ne 7, 3) by decide +kernel) (by decide) ⟨fun c18 => ?_, fun c18 => ?_⟩
  · have w := w.1 c18
    refine X_aload_n (j := 0) (show decode cX10_clears 78 = .ok (.aload_n 0, 1) by decide +kernel) rfl rfl ?_
    obtain ⟨s19, w⟩ := w
    refine X_getR fl_X10_37 (show decode cX10_clears 79 = .ok (.getfield 37, 3) by decide +kernel) s19 ?_
    refine X_iload_n (j := 1) (show decode cX10_clears 82 = .ok (.iload_n 3, 1) by decide +kernel) rfl rfl ?_
    obtain ⟨s20, w⟩ := w
    obtain ⟨s21, w⟩ := w
    refine X_iald (show decode cX10_clears 83 = .ok (.iaload, 1) by decide +kernel) (isA_eq s20) s21 ?_
    refine X_pick (ls' := []) [] rfl ?_
    exact kX10_clears_J84  _ _ _ w
  · have w := w.2 c18
    refine X_iconst (v := (-1)) (show decode cX10_clears 74 = .ok (.iconst (-1), 1) by decide +kernel) (by decide) ?_
    refine X_goto (tgt := 84) (show decode cX10_clears 75 = .ok (.goto 9, 3) by decide +kernel) (by decide) ?_
    refine X_pick (ls' := []) [] rfl ?_
    exact kX10_clears_J84  _ _ _ w
set_option maxRecDepth 100000 in
set_option maxHeartbeats 4000000 in
theorem kX10_clears {a0 : Nat} {a1 : Int32} {h : AH} {K : Int32 → AH → Prop} (w : wX10_clears a0 a1 h K) : Cn mX10_clears (cwd mX10_clears) 6 0 0 [.ref a0, .int a1] h (KI K) T0 := by
  refine Cn_of (by decide +kernel) rfl (Nat.le_of_ble_eq_true rfl) ?_
  show X mX10_clears 6 (KI K) T0 0 0 0 [(0, .ref a0), (1, .int a1)] [] h
  unfold wX10_clears at w
  refine X_aload_n (j := 0) (show decode cX10_clears 0 = .ok (.aload_n 0, 1) by decide +kernel) rfl rfl ?_
  refine X_iload_n (j := 1) (show decode cX10_clears 1 = .ok (.iload_n 1, 1) by decide +kernel) rfl rfl ?_
  obtain ⟨s32, w⟩ := w
  refine X_vI (rc' := 0) (rs' := 0) (as := [.int _]) mv_X10_132 (show decode cX10_clears 2 = .ok (.invokevirtual 132, 3) by decide +kernel) (by decide) (Nat.le_of_ble_eq_true rfl) (Nat.le_of_ble_eq_true rfl) rfl rfl (Nat.le_of_ble_eq_true rfl) (rcvD s32 (by decide) rfl) (kX10_placeOf w) (fun E h hk => hk.elim) (fun r2 h1 w => ?_)
  refine X_istore_n (ls' := [(0, .ref _), (1, .int _), (2, .int _)]) (show decode cX10_clears 5 = .ok (.istore_n 2, 1) by decide +kernel) rfl (by decide) rfl ?_
  refine X_iload_n (j := 2) (show decode cX10_clears 6 = .ok (.iload_n 2, 1) by decide +kernel) rfl rfl ?_
  refine X_iconst (v := (-1)) (show decode cX10_clears 7 = .ok (.iconst (-1), 1) by decide +kernel) (by decide) ?_
  refine X_icmp_ne (tgt := 13) (show decode cX10_clears 8 = .ok (.if_icmp .ne 5, 3) by decide +kernel) (by decide) ⟨fun c3 => ?_, fun c3 => ?_⟩
  · have w := w.1 c3
    refine X_aload_n (j := 0) (show decode cX10_clears 13 = .ok (.aload_n 0, 1) by decide +kernel) rfl rfl ?_
    refine X_iload_n (j := 2) (show decode cX10_clears 14 = .ok (.iload_n 2, 1) by decide +kernel) rfl rfl ?_
    refine X_iconst (v := (nI 3)) (show decode cX10_clears 15 = .ok (.iconst 3, 1) by decide +kernel) (by decide) ?_
    obtain ⟨s31, w⟩ := w
    refine X_vI (rc' := 0) (rs' := 0) (as := [.int _, .int _]) mv_X10_76 (show decode cX10_clears 16 = .ok (.invokevirtual 76, 3) by decide +kernel) (by decide) (Nat.le_of_ble_eq_true rfl) (Nat.le_of_ble_eq_true rfl) rfl rfl (Nat.le_of_ble_eq_true rfl) (rcvD s31 (by decide) rfl) (kX10_train w) (fun E h hk => hk.elim) (fun r5 h4 w => ?_)
    refine X_iconst (v := (nI 1)) (show decode cX10_clears 19 = .ok (.iconst 1, 1) by decide +kernel) (by decide) ?_
    refine X_icmp_ne (tgt := 25) (show decode cX10_clears 20 = .ok (.if_icmp .ne 5, 3) by decide +kernel) (by decide) ⟨fun c6 => ?_, fun c6 => ?_⟩
    · have w := w.1 c6
      refine X_aload_n (j := 0) (show decode cX10_clears 25 = .ok (.aload_n 0, 1) by decide +kernel) rfl rfl ?_
      refine X_iload_n (j := 2) (show decode cX10_clears 26 = .ok (.iload_n 2, 1) by decide +kernel) rfl rfl ?_
      obtain ⟨s30, w⟩ := w
      refine X_vI (rc' := 0) (rs' := 0) (as := [.int _]) mv_X10_106 (show decode cX10_clears 27 = .ok (.invokevirtual 106, 3) by decide +kernel) (by decide) (Nat.le_of_ble_eq_true rfl) (Nat.le_of_ble_eq_true rfl) rfl rfl (Nat.le_of_ble_eq_true rfl) (rcvD s30 (by decide) rfl) (kX10_hindered w) (fun E h hk => hk.elim) (fun r8 h7 w => ?_)
      refine X_istore_n (ls' := [(0, .ref _), (1, .int _), (2, .int _), (3, .int _)]) (show decode cX10_clears 30 = .ok (.istore_n 3, 1) by decide +kernel) rfl (by decide) rfl ?_
      refine X_iload_n (j := 3) (show decode cX10_clears 31 = .ok (.iload_n 3, 1) by decide +kernel) rfl rfl ?_
      refine X_iconst (v := (-1)) (show decode cX10_clears 32 = .ok (.iconst (-1), 1) by decide +kernel) (by decide) ?_
      refine X_icmp_ne (tgt := 46) (show decode cX10_clears 33 = .ok (.if_icmp .ne 13, 3) by decide +kernel) (by decide) ⟨fun c9 => ?_, fun c9 => ?_⟩
      · have w := w.1 c9
        refine X_aload_n (j := 0) (show decode cX10_clears 46 = .ok (.aload_n 0, 1) by decide +kernel) rfl rfl ?_
        refine X_iload_n (j := 3) (show decode cX10_clears 47 = .ok (.iload_n 3, 1) by decide +kernel) rfl rfl ?_
        refine X_if_ne (tgt := 56) (show decode cX10_clears 48 = .ok (.ifCond .ne 8, 3) by decide +kernel) (by decide) ⟨fun c10 => ?_, fun c10 => ?_⟩
        · have w := w.1 c10
          refine X_aload_n (j := 0) (show decode cX10_clears 56 = .ok (.aload_n 0, 1) by decide +kernel) rfl rfl ?_
          refine X_aload_n (j := 0) (show decode cX10_clears 57 = .ok (.aload_n 0, 1) by decide +kernel) rfl rfl ?_
          obtain ⟨s11, w⟩ := w
          refine X_getR fl_X10_37 (show decode cX10_clears 58 = .ok (.getfield 37, 3) by decide +kernel) s11 ?_
          refine X_iload_n (j := 3) (show decode cX10_clears 61 = .ok (.iload_n 3, 1) by decide +kernel) rfl rfl ?_
          obtain ⟨s12, w⟩ := w
          obtain ⟨s13, w⟩ := w
          refine X_iald (show decode cX10_clears 62 = .ok (.iaload, 1) by decide +kernel) (isA_eq s12) s13 ?_
          refine X_vI (rc' := 0) (rs' := 0) (as := [.int _]) mv_X10_103 (show decode cX10_clears 63 = .ok (.invokevirtual 103, 3) by decide +kernel) (by decide) (Nat.le_of_ble_eq_true rfl) (Nat.le_of_ble_eq_true rfl) rfl rfl (Nat.le_of_ble_eq_true rfl) (rcvD s11 (by decide) rfl) (kX10_look w) (fun E h hk => hk.elim) (fun r15 h14 w => ?_)
          refine X_pick (ls' := [(0, .ref _), (3, .int _)]) [0, 3] rfl ?_
          exact kX10_clears_J66  _ _ _ _ _ w
        · have w := w.2 c10
          refine X_bipush (v := (nI 110)) (show decode cX10_clears 51 = .ok (.bipush 110, 2) by decide +kernel) (by decide) ?_
          refine X_goto (tgt := 66) (show decode cX10_clears 53 = .ok (.goto 13, 3) by decide +kernel) (by decide) ?_
          refine X_pick (ls' := [(0, .ref _), (3, .int _)]) [0, 3] rfl ?_
          exact kX10_clears_J66  _ _ _ _ _ w
      · have w := w.2 c9
        refine X_aload_n (j := 0) (show decode cX10_clears 36 = .ok (.aload_n 0, 1) by decide +kernel) rfl rfl ?_
        refine X_aload_n (j := 0) (show decode cX10_clears 37 = .ok (.aload_n 0, 1) by decide +kernel) rfl rfl ?_
        refine X_iload_n (j := 2) (show decode cX10_clears 38 = .ok (.iload_n 2, 1) by decide +kernel) rfl rfl ?_
        obtain ⟨s29, w⟩ := w
        refine X_vI (rc' := 0) (rs' := 0) (as := [.int _]) mv_X10_138 (show decode cX10_clears 39 = .ok (.invokevirtual 138, 3) by decide +kernel) (by decide) (Nat.le_of_ble_eq_true rfl) (Nat.le_of_ble_eq_true rfl) rfl rfl (Nat.le_of_ble_eq_true rfl) (rcvD s29 (by decide) rfl) (kX10_sets w) (fun E h hk => hk.elim) (fun r25 h24 w => ?_)
        obtain ⟨s28, w⟩ := w
        refine X_vI (rc' := 0) (rs' := 0) (as := [.int _]) mv_X10_141 (show decode cX10_clears 42 = .ok (.invokevirtual 141, 3) by decide +kernel) (by decide) (Nat.le_of_ble_eq_true rfl) (Nat.le_of_ble_eq_true rfl) rfl rfl (Nat.le_of_ble_eq_true rfl) (rcvD s28 (by decide) rfl) (kX10_done w) (fun E h hk => hk.elim) (fun r27 h26 w => ?_)
        exact X_iret ⟨(show decode cX10_clears 45 = .ok (.ireturn, 1) by decide +kernel), .int, rfl, rfl⟩ ⟨_, rfl, w⟩
    · have w := w.2 c6
      refine X_iconst (v := (nI 2)) (show decode cX10_clears 23 = .ok (.iconst 2, 1) by decide +kernel) (by decide) ?_
      exact X_iret ⟨(show decode cX10_clears 24 = .ok (.ireturn, 1) by decide +kernel), .int, rfl, rfl⟩ ⟨_, rfl, w⟩
  · have w := w.2 c3
    refine X_iconst (v := (nI 1)) (show decode cX10_clears 11 = .ok (.iconst 1, 1) by decide +kernel) (by decide) ?_
    exact X_iret ⟨(show decode cX10_clears 12 = .ok (.ireturn, 1) by decide +kernel), .int, rfl, rfl⟩ ⟨_, rfl, w⟩
set_option maxRecDepth 100000 in
set_option maxHeartbeats 4000000 in
theorem kX10_frees_J60 {K : Int32 → AH → Prop} {c26 : Nat → Int32 → Int32 → Int32 → AH → Prop} (hc26 : ∀ x0 x1 x2 x3 h, c26 x0 x1 x2 x3 h → X mX10_frees 4 (KI K) T0 0 0 26 [(0, .ref x0), (1, .int x1), (2, .int x2), (3, .int x3)] [] h) (x0 : Nat) (x1 : Int32) (x2 : Int32) (x3 : Int32) (x4 : Int32) (h : AH) (w : wX10_frees_J60 K c26 x0 x1 x2 x3 x4 h) : X mX10_frees 4 (KI K) T0 0 0 60 [(0, .ref x0), (1, .int x1), (2, .int x2), (3, .int x3), (4, .int x4)] [] h := by
  unfold wX10_frees_J60 at w
  refine X_iload_n (j := 3) (show decode cX10_frees 60 = .ok (.iload_n 3, 1) by decide +kernel) rfl rfl ?_
  refine X_aload_n (j := 0) (show decode cX10_frees 61 = .ok (.aload_n 0, 1) by decide +kernel) rfl rfl ?_
  refine X_iload_n (j := 2) (show decode cX10_frees 62 = .ok (.iload_n 2, 1) by decide +kernel) rfl rfl ?_
  refine X_bipush (v := (nI 6)) (show decode cX10_frees 63 = .ok (.bipush 6, 2) by decide +kernel) (by decide) ?_
  obtain ⟨s19, w⟩ := w
  refine X_vI (rc' := 0) (rs' := 0) (as := [.int _, .int _]) mv_X10_76 (show decode cX10_frees 65 = .ok (.invokevirtual 76, 3) by decide +kernel) (by decide) (Nat.le_of_ble_eq_true rfl) (Nat.le_of_ble_eq_true rfl) rfl rfl (Nat.le_of_ble_eq_true rfl) (rcvD s19 (by decide) rfl) (kX10_train w) (fun E h hk => hk.elim) (fun r14 h13 w => ?_)
  refine X_iconst (v := (nI 1)) (show decode cX10_frees 68 = .ok (.iconst 1, 1) by decide +kernel) (by decide) ?_
  refine X_isub (show decode cX10_frees 69 = .ok (.isub, 1) by decide +kernel) ?_
  refine X_icmp_ge (tgt := 79) (show decode cX10_frees 70 = .ok (.if_icmp .ge 9, 3) by decide +kernel) (by decide) ⟨fun c15 => ?_, fun c15 => ?_⟩
  · have w := w.1 c15
    refine X_iinc (j := 3) (v := _ + (nI 1)) (ls' := [(0, .ref _), (1, .int _), (2, .int _), (3, .int _), (4, .int _)]) (show decode cX10_frees 79 = .ok (.iinc 3 1, 3) by decide +kernel) rfl rfl (Nat.le_of_ble_eq_true rfl) rfl ?_
    refine X_goto (tgt := 26) (show decode cX10_frees 82 = .ok (.goto (-56), 3) by decide +kernel) (by decide) ?_
    refine X_pick (ls' := [(0, .ref _), (1, .int _), (2, .int _), (3, .int _)]) [0, 1, 2, 3] rfl ?_
    exact hc26 _ _ _ _ _ w
  · have w := w.2 c15
    refine X_aload_n (j := 0) (show decode cX10_frees 73 = .ok (.aload_n 0, 1) by decide +kernel) rfl rfl ?_
    refine X_iload (j := 4) (show decode cX10_frees 74 = .ok (.iload 4, 2) by decide +kernel) rfl ?_
    obtain ⟨s18, w⟩ := w
    refine X_vV (rc' := 0) (rs' := 0) (as := [.int _]) mv_X10_122 (show decode cX10_frees 76 = .ok (.invokevirtual 122, 3) by decide +kernel) (by decide) (Nat.le_of_ble_eq_true rfl) (Nat.le_of_ble_eq_true rfl) rfl rfl (Nat.le_of_ble_eq_true rfl) (rcvD s18 (by decide) rfl) (kX10_unlocks w) (fun E h hk => hk.elim) (fun h16 w => ?_)
    refine X_iinc (j := 3) (v := _ + (nI 1)) (ls' := [(0, .ref _), (1, .int _), (2, .int _), (3, .int _), (4, .int _)]) (show decode cX10_frees 79 = .ok (.iinc 3 1, 3) by decide +kernel) rfl rfl (Nat.le_of_ble_eq_true rfl) rfl ?_
    refine X_goto (tgt := 26) (show decode cX10_frees 82 = .ok (.goto (-56), 3) by decide +kernel) (by decide) ?_
    refine X_pick (ls' := [(0, .ref _), (1, .int _), (2, .int _), (3, .int _)]) [0, 1, 2, 3] rfl ?_
    exact hc26 _ _ _ _ _ w
set_option maxRecDepth 100000 in
set_option maxHeartbeats 4000000 in
theorem kX10_frees_L26 {K : Int32 → AH → Prop} {c85 : Nat → Int32 → Int32 → AH → Prop} (hc85 : ∀ x0 x1 x2 h, c85 x0 x1 x2 h → X mX10_frees 4 (KI K) T0 0 0 85 [(0, .ref x0), (1, .int x1), (2, .int x2)] [] h)  : ∀ (n : Nat) (x0 : Nat) (x1 : Int32) (x2 : Int32) (x3 : Int32) (h : AH), wX10_frees_L26 K c85  n x0 x1 x2 x3 h → X mX10_frees 4 (KI K) T0 0 0 26 [(0, .ref x0), (1, .int x1), (2, .int x2), (3, .int x3)] [] h := by
  intro n
  induction n with
  | zero => intro _ _ _ _ _ w; exact w.elim
  | succ n ih =>
    intro x0 x1 x2 x3 h w
    rw [wX10_frees_L26] at w
    refine X_iload_n (j := 3) (show decode cX10_frees 26 = .ok (.iload_n 3, 1) by decide +kernel) rfl rfl ?_
    refine X_aload_n (j := 0) (show decode cX10_frees 27 = .ok (.aload_n 0, 1) by decide +kernel) rfl rfl ?_
    refine X_iload_n (j := 2) (show decode cX10_frees 28 = .ok (.iload_n 2, 1) by decide +kernel) rfl rfl ?_
    refine X_bipush (v := (nI 6)) (show decode cX10_frees 29 = .ok (.bipush 6, 2) by decide +kernel) (by decide) ?_
    obtain ⟨s24, w⟩ := w
    refine X_vI (rc' := 0) (rs' := 0) (as := [.int _, .int _]) mv_X10_76 (show decode cX10_frees 31 = .ok (.invokevirtual 76, 3) by decide +kernel) (by decide) (Nat.le_of_ble_eq_true rfl) (Nat.le_of_ble_eq_true rfl) rfl rfl (Nat.le_of_ble_eq_true rfl) (rcvD s24 (by decide) rfl) (kX10_train w) (fun E h hk => hk.elim) (fun r8 h7 w => ?_)
    refine X_icmp_ge (tgt := 85) (show decode cX10_frees 34 = .ok (.if_icmp .ge 51, 3) by decide +kernel) (by decide) ⟨fun c9 => ?_, fun c9 => ?_⟩
    · have w := w.1 c9
      refine X_pick (ls' := [(0, .ref _), (1, .int _), (2, .int _)]) [0, 1, 2] rfl ?_
      exact hc85 _ _ _ _ w
    · have w := w.2 c9
      refine X_aload_n (j := 0) (show decode cX10_frees 37 = .ok (.aload_n 0, 1) by decide +kernel) rfl rfl ?_
      refine X_iload_n (j := 2) (show decode cX10_frees 38 = .ok (.iload_n 2, 1) by decide +kernel) rfl rfl ?_
      refine X_bipush (v := (nI 7)) (show decode cX10_frees 39 = .ok (.bipush 7, 2) by decide +kernel) (by decide) ?_
      refine X_iload_n (j := 3) (show decode cX10_frees 41 = .ok (.iload_n 3, 1) by decide +kernel) rfl rfl ?_
      refine X_iadd (show decode cX10_frees 42 = .ok (.iadd, 1) by decide +kernel) ?_
      obtain ⟨s23, w⟩ := w
      refine X_vI (rc' := 0) (rs' := 0) (as := [.int _, .int _]) mv_X10_76 (show decode cX10_frees 43 = .ok (.invokevirtual 76, 3) by decide +kernel) (by decide) (Nat.le_of_ble_eq_true rfl) (Nat.le_of_ble_eq_true rfl) rfl rfl (Nat.le_of_ble_eq_true rfl) (rcvD s23 (by decide) rfl) (kX10_train w) (fun E h hk => hk.elim) (fun r11 h10 w => ?_)
      refine X_istore (ls' := [(0, .ref _), (1, .int _), (2, .int _), (3, .int _), (4, .int _)]) (show decode cX10_frees 46 = .ok (.istore 4, 2) by decide +kernel) (by decide) rfl ?_
      refine X_iload_n (j := 3) (show decode cX10_frees 48 = .ok (.iload_n 3, 1) by decide +kernel) rfl rfl ?_
      refine X_if_le (tgt := 60) (show decode cX10_frees 49 = .ok (.ifCond .le 11, 3) by decide +kernel) (by decide) ⟨fun c12 => ?_, fun c12 => ?_⟩
      · have w := w.1 c12
        exact kX10_frees_J60 ih _ _ _ _ _ _ w
      · have w := w.2 c12
        refine X_aload_n (j := 0) (show decode cX10_frees 52 = .ok (.aload_n 0, 1) by decide +kernel) rfl rfl ?_
        refine X_iload (j := 4) (show decode cX10_frees 53 = .ok (.iload 4, 2) by decide +kernel) rfl ?_
        refine X_iconst (v := (nI 5)) (show decode cX10_frees 55 = .ok (.iconst 5, 1) by decide +kernel) (by decide) ?_
        refine X_iconst (v := (nI 0)) (show decode cX10_frees 56 = .ok (.iconst 0, 1) by decide +kernel) (by decide) ?_
        obtain ⟨s22, w⟩ := w
        refine X_vV (rc' := 0) (rs' := 0) (as := [.int _, .int _, .int _]) mv_X10_113 (show decode cX10_frees 57 = .ok (.invokevirtual 113, 3) by decide +kernel) (by decide) (Nat.le_of_ble_eq_true rfl) (Nat.le_of_ble_eq_true rfl) rfl rfl (Nat.le_of_ble_eq_true rfl) (rcvD s22 (by decide) rfl) (kX10_puts w) (fun E h hk => hk.elim) (fun h20 w => ?_)
        exact kX10_frees_J60 ih _ _ _ _ _ _ w
set_option maxRecDepth 100000 in
set_option maxHeartbeats 4000000 in
theorem kX10_frees_L88 {K : Int32 → AH → Prop}    : ∀ (n : Nat) (x0 : Nat) (x1 : Int32) (x2 : Int32) (x3 : Int32) (h : AH), wX10_frees_L88 K   n x0 x1 x2 x3 h → X mX10_frees 4 (KI K) T0 0 0 88 [(0, .ref x0), (1, .int x1), (2, .int x2), (3, .int x3)] [] h := by
  intro n
  induction n with
  | zero => intro _ _ _ _ _ w; exact w.elim
  | succ n ih =>
    intro x0 x1 x2 x3 h w
    rw [wX10_frees_L88] at w
    refine X_iload_n (j := 3) (show decode cX10_frees 88 = .ok (.iload_n 3, 1) by decide +kernel) rfl rfl ?_
    refine X_bipush (v := (nI 19)) (show decode cX10_frees 89 = .ok (.bipush 19, 2) by decide +kernel) (by decide) ?_
    refine X_icmp_ge (tgt := 107) (show decode cX10_frees 91 = .ok (.if_icmp .ge 16, 3) by decide +kernel) (by decide) ⟨fun c29 => ?_, fun c29 => ?_⟩
    · have w := w.1 c29
      refine X_aload_n (j := 0) (show decode cX10_frees 107 = .ok (.aload_n 0, 1) by decide +kernel) rfl rfl ?_
      refine X_iload_n (j := 2) (show decode cX10_frees 108 = .ok (.iload_n 2, 1) by decide +kernel) rfl rfl ?_
      refine X_iconst (v := (nI 3)) (show decode cX10_frees 109 = .ok (.iconst 3, 1) by decide +kernel) (by decide) ?_
      refine X_iconst (v := (nI 0)) (show decode cX10_frees 110 = .ok (.iconst 0, 1) by decide +kernel) (by decide) ?_
      obtain ⟨s43, w⟩ := w
      refine X_vV (rc' := 0) (rs' := 0) (as := [.int _, .int _, .int _]) mv_X10_109 (show decode cX10_frees 111 = .ok (.invokevirtual 109, 3) by decide +kernel) (by decide) (Nat.le_of_ble_eq_true rfl) (Nat.le_of_ble_eq_true rfl) rfl rfl (Nat.le_of_ble_eq_true rfl) (rcvD s43 (by decide) rfl) (kX10_tells w) (fun E h hk => hk.elim) (fun h30 w => ?_)
      refine X_aload_n (j := 0) (show decode cX10_frees 114 = .ok (.aload_n 0, 1) by decide +kernel) rfl rfl ?_
      refine X_iload_n (j := 2) (show decode cX10_frees 115 = .ok (.iload_n 2, 1) by decide +kernel) rfl rfl ?_
      refine X_iconst (v := (nI 4)) (show decode cX10_frees 116 = .ok (.iconst 4, 1) by decide +kernel) (by decide) ?_
      refine X_iconst (v := (nI 0)) (show decode cX10_frees 117 = .ok (.iconst 0, 1) by decide +kernel) (by decide) ?_
      obtain ⟨s42, w⟩ := w
      refine X_vV (rc' := 0) (rs' := 0) (as := [.int _, .int _, .int _]) mv_X10_109 (show decode cX10_frees 118 = .ok (.invokevirtual 109, 3) by decide +kernel) (by decide) (Nat.le_of_ble_eq_true rfl) (Nat.le_of_ble_eq_true rfl) rfl rfl (Nat.le_of_ble_eq_true rfl) (rcvD s42 (by decide) rfl) (kX10_tells w) (fun E h hk => hk.elim) (fun h32 w => ?_)
      refine X_aload_n (j := 0) (show decode cX10_frees 121 = .ok (.aload_n 0, 1) by decide +kernel) rfl rfl ?_
      refine X_iload_n (j := 1) (show decode cX10_frees 122 = .ok (.iload_n 1, 1) by decide +kernel) rfl rfl ?_
      obtain ⟨s41, w⟩ := w
      refine X_vV (rc' := 0) (rs' := 0) (as := [.int _]) mv_X10_154 (show decode cX10_frees 123 = .ok (.invokevirtual 154, 3) by decide +kernel) (by decide) (Nat.le_of_ble_eq_true rfl) (Nat.le_of_ble_eq_true rfl) rfl rfl (Nat.le_of_ble_eq_true rfl) (rcvD s41 (by decide) rfl) (kX10_enqueues w) (fun E h hk => hk.elim) (fun h34 w => ?_)
      refine X_aload_n (j := 0) (show decode cX10_frees 126 = .ok (.aload_n 0, 1) by decide +kernel) rfl rfl ?_
      refine X_aload_n (j := 0) (show decode cX10_frees 127 = .ok (.aload_n 0, 1) by decide +kernel) rfl rfl ?_
      obtain ⟨s36, w⟩ := w
      refine X_getR fl_X10_7 (show decode cX10_frees 128 = .ok (.getfield 7, 3) by decide +kernel) s36 ?_
      refine X_iconst (v := (nI 5)) (show decode cX10_frees 131 = .ok (.iconst 5, 1) by decide +kernel) (by decide) ?_
      obtain ⟨s37, w⟩ := w
      obtain ⟨s38, w⟩ := w
      refine X_iald (show decode cX10_frees 132 = .ok (.iaload, 1) by decide +kernel) (isA_eq s37) s38 ?_
      refine X_vI (rc' := 0) (rs' := 0) (as := [.int _]) mv_X10_141 (show decode cX10_frees 133 = .ok (.invokevirtual 141, 3) by decide +kernel) (by decide) (Nat.le_of_ble_eq_true rfl) (Nat.le_of_ble_eq_true rfl) rfl rfl (Nat.le_of_ble_eq_true rfl) (rcvD s36 (by decide) rfl) (kX10_done w) (fun E h hk => hk.elim) (fun r40 h39 w => ?_)
      exact X_iret ⟨(show decode cX10_frees 136 = .ok (.ireturn, 1) by decide +kernel), .int, rfl, rfl⟩ ⟨_, rfl, w⟩
    · have w := w.2 c29
      refine X_aload_n (j := 0) (show decode cX10_frees 94 = .ok (.aload_n 0, 1) by decide +kernel) rfl rfl ?_
      refine X_iload_n (j := 2) (show decode cX10_frees 95 = .ok (.iload_n 2, 1) by decide +kernel) rfl rfl ?_
      refine X_iload_n (j := 3) (show decode cX10_frees 96 = .ok (.iload_n 3, 1) by decide +kernel) rfl rfl ?_
      refine X_iconst (v := (nI 0)) (show decode cX10_frees 97 = .ok (.iconst 0, 1) by decide +kernel) (by decide) ?_
      obtain ⟨s46, w⟩ := w
      refine X_vV (rc' := 0) (rs' := 0) (as := [.int _, .int _, .int _]) mv_X10_109 (show decode cX10_frees 98 = .ok (.invokevirtual 109, 3) by decide +kernel) (by decide) (Nat.le_of_ble_eq_true rfl) (Nat.le_of_ble_eq_true rfl) rfl rfl (Nat.le_of_ble_eq_true rfl) (rcvD s46 (by decide) rfl) (kX10_tells w) (fun E h hk => hk.elim) (fun h44 w => ?_)
      refine X_iinc (j := 3) (v := _ + (nI 1)) (ls' := [(0, .ref _), (1, .int _), (2, .int _), (3, .int _)]) (show decode cX10_frees 101 = .ok (.iinc 3 1, 3) by decide +kernel) rfl rfl (Nat.le_of_ble_eq_true rfl) rfl ?_
      refine X_goto (tgt := 88) (show decode cX10_frees 104 = .ok (.goto (-16), 3) by decide +kernel) (by decide) ?_
      exact ih _ _ _ _ _ w
set_option maxRecDepth 100000 in
set_option maxHeartbeats 4000000 in
theorem kX10_frees {a0 : Nat} {a1 : Int32} {h : AH} {K : Int32 → AH → Prop} (w : wX10_frees a0 a1 h K) : Cn mX10_frees (cwd mX10_frees) 4 0 0 [.ref a0, .int a1] h (KI K) T0 := by
  refine Cn_of (by decide +kernel) rfl (Nat.le_of_ble_eq_true rfl) ?_
  show X mX10_frees 4 (KI K) T0 0 0 0 [(0, .ref a0), (1, .int a1)] [] h
  unfold wX10_frees at w
  refine X_aload_n (j := 0) (show decode cX10_frees 0 = .ok (.aload_n 0, 1) by decide +kernel) rfl rfl ?_
  refine X_iload_n (j := 1) (show decode cX10_frees 1 = .ok (.iload_n 1, 1) by decide +kernel) rfl rfl ?_
  obtain ⟨s50, w⟩ := w
  refine X_vI (rc' := 0) (rs' := 0) (as := [.int _]) mv_X10_132 (show decode cX10_frees 2 = .ok (.invokevirtual 132, 3) by decide +kernel) (by decide) (Nat.le_of_ble_eq_true rfl) (Nat.le_of_ble_eq_true rfl) rfl rfl (Nat.le_of_ble_eq_true rfl) (rcvD s50 (by decide) rfl) (kX10_placeOf w) (fun E h hk => hk.elim) (fun r2 h1 w => ?_)
  refine X_istore_n (ls' := [(0, .ref _), (1, .int _), (2, .int _)]) (show decode cX10_frees 5 = .ok (.istore_n 2, 1) by decide +kernel) rfl (by decide) rfl ?_
  refine X_iload_n (j := 2) (show decode cX10_frees 6 = .ok (.iload_n 2, 1) by decide +kernel) rfl rfl ?_
  refine X_iconst (v := (-1)) (show decode cX10_frees 7 = .ok (.iconst (-1), 1) by decide +kernel) (by decide) ?_
  refine X_icmp_ne (tgt := 13) (show decode cX10_frees 8 = .ok (.if_icmp .ne 5, 3) by decide +kernel) (by decide) ⟨fun c3 => ?_, fun c3 => ?_⟩
  · have w := w.1 c3
    refine X_aload_n (j := 0) (show decode cX10_frees 13 = .ok (.aload_n 0, 1) by decide +kernel) rfl rfl ?_
    refine X_iload_n (j := 2) (show decode cX10_frees 14 = .ok (.iload_n 2, 1) by decide +kernel) rfl rfl ?_
    refine X_iconst (v := (nI 3)) (show decode cX10_frees 15 = .ok (.iconst 3, 1) by decide +kernel) (by decide) ?_
    obtain ⟨s49, w⟩ := w
    refine X_vI (rc' := 0) (rs' := 0) (as := [.int _, .int _]) mv_X10_76 (show decode cX10_frees 16 = .ok (.invokevirtual 76, 3) by decide +kernel) (by decide) (Nat.le_of_ble_eq_true rfl) (Nat.le_of_ble_eq_true rfl) rfl rfl (Nat.le_of_ble_eq_true rfl) (rcvD s49 (by decide) rfl) (kX10_train w) (fun E h hk => hk.elim) (fun r5 h4 w => ?_)
    refine X_if_ne (tgt := 24) (show decode cX10_frees 19 = .ok (.ifCond .ne 5, 3) by decide +kernel) (by decide) ⟨fun c6 => ?_, fun c6 => ?_⟩
    · have w := w.1 c6
      refine X_iconst (v := (nI 0)) (show decode cX10_frees 24 = .ok (.iconst 0, 1) by decide +kernel) (by decide) ?_
      refine X_istore_n (ls' := [(0, .ref _), (1, .int _), (2, .int _), (3, .int _)]) (show decode cX10_frees 25 = .ok (.istore_n 3, 1) by decide +kernel) rfl (by decide) rfl ?_
      obtain ⟨n48, w⟩ := w
      refine kX10_frees_L26 ?_ n48 _ _ _ _ _ w
      · intro x0_25 x1_26 x2_27 h28 w
        refine X_bipush (v := (nI 6)) (show decode cX10_frees 85 = .ok (.bipush 6, 2) by decide +kernel) (by decide) ?_
        refine X_istore_n (ls' := [(0, .ref _), (1, .int _), (2, .int _), (3, .int _)]) (show decode cX10_frees 87 = .ok (.istore_n 3, 1) by decide +kernel) rfl (by decide) rfl ?_
        obtain ⟨n47, w⟩ := w
        exact kX10_frees_L88  n47 _ _ _ _ _ w
    · have w := w.2 c6
      refine X_iconst (v := (nI 2)) (show decode cX10_frees 22 = .ok (.iconst 2, 1) by decide +kernel) (by decide) ?_
      exact X_iret ⟨(show decode cX10_frees 23 = .ok (.ireturn, 1) by decide +kernel), .int, rfl, rfl⟩ ⟨_, rfl, w⟩
  · have w := w.2 c3
    refine X_iconst (v := (nI 1)) (show decode cX10_frees 11 = .ok (.iconst 1, 1) by decide +kernel) (by decide) ?_
    exact X_iret ⟨(show decode cX10_frees 12 = .ok (.ireturn, 1) by decide +kernel), .int, rfl, rfl⟩ ⟨_, rfl, w⟩
set_option maxRecDepth 100000 in
set_option maxHeartbeats 4000000 in
theorem kX10_passes_L23 {K : Int32 → AH → Prop}    : ∀ (n : Nat) (x0 : Nat) (x1 : Int32) (x2 : Int32) (x3 : Int32) (h : AH), wX10_passes_L23 K   n x0 x1 x2 x3 h → X mX10_passes 8 (KI K) T0 0 0 23 [(0, .ref x0), (1, .int x1), (2, .int x2), (3, .int x3)] [] h := by
  intro n
  induction n with
  | zero => intro _ _ _ _ _ w; exact w.elim
  | succ n ih =>
    intro x0 x1 x2 x3 h w
    rw [wX10_passes_L23] at w
    refine X_iload_n (j := 3) (show decode cX10_passes 23 = .ok (.iload_n 3, 1) by decide +kernel) rfl rfl ?_
    refine X_iload_n (j := 1) (show decode cX10_passes 24 = .ok (.iload_n 1, 1) by decide +kernel) rfl rfl ?_
    refine X_icmp_ge (tgt := 38) (show decode cX10_passes 25 = .ok (.if_icmp .ge 13, 3) by decide +kernel) (by decide) ⟨fun c9 => ?_, fun c9 => ?_⟩
    · have w := w.1 c9
      refine X_aload_n (j := 0) (show decode cX10_passes 38 = .ok (.aload_n 0, 1) by decide +kernel) rfl rfl ?_
      refine X_aload_n (j := 0) (show decode cX10_passes 39 = .ok (.aload_n 0, 1) by decide +kernel) rfl rfl ?_
      obtain ⟨s10, w⟩ := w
      refine X_getR fl_X10_7 (show decode cX10_passes 40 = .ok (.getfield 7, 3) by decide +kernel) s10 ?_
      refine X_bipush (v := (nI 7)) (show decode cX10_passes 43 = .ok (.bipush 7, 2) by decide +kernel) (by decide) ?_
      obtain ⟨s11, w⟩ := w
      obtain ⟨s12, w⟩ := w
      refine X_iald (show decode cX10_passes 45 = .ok (.iaload, 1) by decide +kernel) (isA_eq s11) s12 ?_
      refine X_iload_n (j := 2) (show decode cX10_passes 46 = .ok (.iload_n 2, 1) by decide +kernel) rfl rfl ?_
      refine X_isub (show decode cX10_passes 47 = .ok (.isub, 1) by decide +kernel) ?_
      refine X_vI (rc' := 0) (rs' := 0) (as := [.int _]) mv_X10_141 (show decode cX10_passes 48 = .ok (.invokevirtual 141, 3) by decide +kernel) (by decide) (Nat.le_of_ble_eq_true rfl) (Nat.le_of_ble_eq_true rfl) rfl rfl (Nat.le_of_ble_eq_true rfl) (rcvD s10 (by decide) rfl) (kX10_done w) (fun E h hk => hk.elim) (fun r14 h13 w => ?_)
      exact X_iret ⟨(show decode cX10_passes 51 = .ok (.ireturn, 1) by decide +kernel), .int, rfl, rfl⟩ ⟨_, rfl, w⟩
    · have w := w.2 c9
      refine X_aload_n (j := 0) (show decode cX10_passes 28 = .ok (.aload_n 0, 1) by decide +kernel) rfl rfl ?_
      obtain ⟨s17, w⟩ := w
      refine X_vV (rc' := 0) (rs' := 0) (as := []) mv_X10_160 (show decode cX10_passes 29 = .ok (.invokevirtual 160, 3) by decide +kernel) (by decide) (Nat.le_of_ble_eq_true rfl) (Nat.le_of_ble_eq_true rfl) rfl rfl (Nat.le_of_ble_eq_true rfl) (rcvD s17 (by decide) rfl) (kX10_oneMinute w) (fun E h hk => hk.elim) (fun h15 w => ?_)
      refine X_iinc (j := 3) (v := _ + (nI 1)) (ls' := [(0, .ref _), (1, .int _), (2, .int _), (3, .int _)]) (show decode cX10_passes 32 = .ok (.iinc 3 1, 3) by decide +kernel) rfl rfl (Nat.le_of_ble_eq_true rfl) rfl ?_
      refine X_goto (tgt := 23) (show decode cX10_passes 35 = .ok (.goto (-12), 3) by decide +kernel) (by decide) ?_
      exact ih _ _ _ _ _ w
set_option maxRecDepth 100000 in
set_option maxHeartbeats 4000000 in
theorem kX10_passes {a0 : Nat} {a1 : Int32} {h : AH} {K : Int32 → AH → Prop} (w : wX10_passes a0 a1 h K) : Cn mX10_passes (cwd mX10_passes) 8 0 0 [.ref a0, .int a1] h (KI K) T0 := by
  refine Cn_of (by decide +kernel) rfl (Nat.le_of_ble_eq_true rfl) ?_
  show X mX10_passes 8 (KI K) T0 0 0 0 [(0, .ref a0), (1, .int a1)] [] h
  unfold wX10_passes at w
  refine X_iload_n (j := 1) (show decode cX10_passes 0 = .ok (.iload_n 1, 1) by decide +kernel) rfl rfl ?_
  refine X_iconst (v := (nI 1)) (show decode cX10_passes 1 = .ok (.iconst 1, 1) by decide +kernel) (by decide) ?_
  refine X_sipush (v := (nI 240)) (show decode cX10_passes 2 = .ok (.sipush 240, 3) by decide +kernel) (by decide) ?_
  refine X_sI (rc' := 0) (rs' := 0) (as := [.int _, .int _, .int _]) ms_X10_72 (show decode cX10_passes 5 = .ok (.invokestatic 72, 3) by decide +kernel) (by decide) (Nat.le_of_ble_eq_true rfl) (Nat.le_of_ble_eq_true rfl) rfl rfl (Nat.le_of_ble_eq_true rfl) (kX10_in w) (fun E h hk => hk.elim) (fun r2 h1 w => ?_)
  refine X_if_ne (tgt := 13) (show decode cX10_passes 8 = .ok (.ifCond .ne 5, 3) by decide +kernel) (by decide) ⟨fun c3 => ?_, fun c3 => ?_⟩
  · have w := w.1 c3
    refine X_aload_n (j := 0) (show decode cX10_passes 13 = .ok (.aload_n 0, 1) by decide +kernel) rfl rfl ?_
    obtain ⟨s4, w⟩ := w
    refine X_getR fl_X10_7 (show decode cX10_passes 14 = .ok (.getfield 7, 3) by decide +kernel) s4 ?_
    refine X_bipush (v := (nI 7)) (show decode cX10_passes 17 = .ok (.bipush 7, 2) by decide +kernel) (by decide) ?_
    obtain ⟨s5, w⟩ := w
    obtain ⟨s6, w⟩ := w
    refine X_iald (show decode cX10_passes 19 = .ok (.iaload, 1) by decide +kernel) (isA_eq s5) s6 ?_
    refine X_topi (fun v7 e8 => ?_)
    have w := w v7 e8
    refine X_istore_n (ls' := [(0, .ref _), (1, .int _), (2, .int _)]) (show decode cX10_passes 20 = .ok (.istore_n 2, 1) by decide +kernel) rfl (by decide) rfl ?_
    refine X_iconst (v := (nI 0)) (show decode cX10_passes 21 = .ok (.iconst 0, 1) by decide +kernel) (by decide) ?_
    refine X_istore_n (ls' := [(0, .ref _), (1, .int _), (2, .int _), (3, .int _)]) (show decode cX10_passes 22 = .ok (.istore_n 3, 1) by decide +kernel) rfl (by decide) rfl ?_
    obtain ⟨n18, w⟩ := w
    exact kX10_passes_L23  n18 _ _ _ _ _ w
  · have w := w.2 c3
    refine X_iconst (v := (nI 1)) (show decode cX10_passes 11 = .ok (.iconst 1, 1) by decide +kernel) (by decide) ?_
    exact X_iret ⟨(show decode cX10_passes 12 = .ok (.ireturn, 1) by decide +kernel), .int, rfl, rfl⟩ ⟨_, rfl, w⟩
set_option maxRecDepth 100000 in
set_option maxHeartbeats 4000000 in
theorem kX10_addBlock {a0 : Nat} {a1 : Int32} {h : AH} {K : Int32 → AH → Prop} (w : wX10_addBlock a0 a1 h K) : Cn mX10_addBlock (cwd mX10_addBlock) 3 0 0 [.ref a0, .int a1] h (KI K) T0 := by
  refine Cn_of (by decide +kernel) rfl (Nat.le_of_ble_eq_true rfl) ?_
  show X mX10_addBlock 3 (KI K) T0 0 0 0 [(0, .ref a0), (1, .int a1)] [] h
  unfold wX10_addBlock at w
  refine X_aload_n (j := 0) (show decode cX10_addBlock 0 = .ok (.aload_n 0, 1) by decide +kernel) rfl rfl ?_
  obtain ⟨s9, w⟩ := w
  refine X_vV (rc' := 0) (rs' := 0) (as := []) mv_X10_163 (show decode cX10_addBlock 1 = .ok (.invokevirtual 163, 3) by decide +kernel) (by decide) (Nat.le_of_ble_eq_true rfl) (Nat.le_of_ble_eq_true rfl) rfl rfl (Nat.le_of_ble_eq_true rfl) (rcvD s9 (by decide) rfl) (kX10_remembers w) (fun E h hk => hk.elim) (fun h1 w => ?_)
  refine X_aload_n (j := 0) (show decode cX10_addBlock 4 = .ok (.aload_n 0, 1) by decide +kernel) rfl rfl ?_
  refine X_aload_n (j := 0) (show decode cX10_addBlock 5 = .ok (.aload_n 0, 1) by decide +kernel) rfl rfl ?_
  refine X_iload_n (j := 1) (show decode cX10_addBlock 6 = .ok (.iload_n 1, 1) by decide +kernel) rfl rfl ?_
  obtain ⟨s8, w⟩ := w
  refine X_vI (rc' := 0) (rs' := 0) (as := [.int _]) mv_X10_166 (show decode cX10_addBlock 7 = .ok (.invokevirtual 166, 3) by decide +kernel) (by decide) (Nat.le_of_ble_eq_true rfl) (Nat.le_of_ble_eq_true rfl) rfl rfl (Nat.le_of_ble_eq_true rfl) (rcvD s8 (by decide) rfl) (kX10_lays w) (fun E h hk => hk.elim) (fun r4 h3 w => ?_)
  obtain ⟨s7, w⟩ := w
  refine X_vI (rc' := 0) (rs' := 0) (as := [.int _]) mv_X10_169 (show decode cX10_addBlock 10 = .ok (.invokevirtual 169, 3) by decide +kernel) (by decide) (Nat.le_of_ble_eq_true rfl) (Nat.le_of_ble_eq_true rfl) rfl rfl (Nat.le_of_ble_eq_true rfl) (rcvD s7 (by decide) rfl) (kX10_ends w) (fun E h hk => hk.elim) (fun r6 h5 w => ?_)
  exact X_iret ⟨(show decode cX10_addBlock 13 = .ok (.ireturn, 1) by decide +kernel), .int, rfl, rfl⟩ ⟨_, rfl, w⟩
set_option maxRecDepth 100000 in
set_option maxHeartbeats 4000000 in
theorem kX10_addPoint {a0 : Nat} {a1 : Int32} {a2 : Int32} {a3 : Int32} {h : AH} {K : Int32 → AH → Prop} (w : wX10_addPoint a0 a1 a2 a3 h K) : Cn mX10_addPoint (cwd mX10_addPoint) 4 0 0 [.ref a0, .int a1, .int a2, .int a3] h (KI K) T0 := by
  refine Cn_of (by decide +kernel) rfl (Nat.le_of_ble_eq_true rfl) ?_
  show X mX10_addPoint 4 (KI K) T0 0 0 0 [(0, .ref a0), (1, .int a1), (2, .int a2), (3, .int a3)] [] h
  unfold wX10_addPoint at w
  refine X_aload_n (j := 0) (show decode cX10_addPoint 0 = .ok (.aload_n 0, 1) by decide +kernel) rfl rfl ?_
  obtain ⟨s9, w⟩ := w
  refine X_vV (rc' := 0) (rs' := 0) (as := []) mv_X10_163 (show decode cX10_addPoint 1 = .ok (.invokevirtual 163, 3) by decide +kernel) (by decide) (Nat.le_of_ble_eq_true rfl) (Nat.le_of_ble_eq_true rfl) rfl rfl (Nat.le_of_ble_eq_true rfl) (rcvD s9 (by decide) rfl) (kX10_remembers w) (fun E h hk => hk.elim) (fun h1 w => ?_)
  refine X_aload_n (j := 0) (show decode cX10_addPoint 4 = .ok (.aload_n 0, 1) by decide +kernel) rfl rfl ?_
  refine X_aload_n (j := 0) (show decode cX10_addPoint 5 = .ok (.aload_n 0, 1) by decide +kernel) rfl rfl ?_
  refine X_iload_n (j := 1) (show decode cX10_addPoint 6 = .ok (.iload_n 1, 1) by decide +kernel) rfl rfl ?_
  refine X_iload_n (j := 2) (show decode cX10_addPoint 7 = .ok (.iload_n 2, 1) by decide +kernel) rfl rfl ?_
  refine X_iload_n (j := 3) (show decode cX10_addPoint 8 = .ok (.iload_n 3, 1) by decide +kernel) rfl rfl ?_
  obtain ⟨s8, w⟩ := w
  refine X_vI (rc' := 0) (rs' := 0) (as := [.int _, .int _, .int _]) mv_X10_172 (show decode cX10_addPoint 9 = .ok (.invokevirtual 172, 3) by decide +kernel) (by decide) (Nat.le_of_ble_eq_true rfl) (Nat.le_of_ble_eq_true rfl) rfl rfl (Nat.le_of_ble_eq_true rfl) (rcvD s8 (by decide) rfl) (kX10_forks w) (fun E h hk => hk.elim) (fun r4 h3 w => ?_)
  obtain ⟨s7, w⟩ := w
  refine X_vI (rc' := 0) (rs' := 0) (as := [.int _]) mv_X10_169 (show decode cX10_addPoint 12 = .ok (.invokevirtual 169, 3) by decide +kernel) (by decide) (Nat.le_of_ble_eq_true rfl) (Nat.le_of_ble_eq_true rfl) rfl rfl (Nat.le_of_ble_eq_true rfl) (rcvD s7 (by decide) rfl) (kX10_ends w) (fun E h hk => hk.elim) (fun r6 h5 w => ?_)
  exact X_iret ⟨(show decode cX10_addPoint 15 = .ok (.ireturn, 1) by decide +kernel), .int, rfl, rfl⟩ ⟨_, rfl, w⟩
set_option maxRecDepth 100000 in
set_option maxHeartbeats 4000000 in
theorem kX10_addLink {a0 : Nat} {a1 : Int32} {a2 : Int32} {h : AH} {K : Int32 → AH → Prop} (w : wX10_addLink a0 a1 a2 h K) : Cn mX10_addLink (cwd mX10_addLink) 4 0 0 [.ref a0, .int a1, .int a2] h (KI K) T0 := by
  refine Cn_of (by decide +kernel) rfl (Nat.le_of_ble_eq_true rfl) ?_
  show X mX10_addLink 4 (KI K) T0 0 0 0 [(0, .ref a0), (1, .int a1), (2, .int a2)] [] h
  unfold wX10_addLink at w
  refine X_aload_n (j := 0) (show decode cX10_addLink 0 = .ok (.aload_n 0, 1) by decide +kernel) rfl rfl ?_
  obtain ⟨s9, w⟩ := w
  refine X_vV (rc' := 0) (rs' := 0) (as := []) mv_X10_163 (show decode cX10_addLink 1 = .ok (.invokevirtual 163, 3) by decide +kernel) (by decide) (Nat.le_of_ble_eq_true rfl) (Nat.le_of_ble_eq_true rfl) rfl rfl (Nat.le_of_ble_eq_true rfl) (rcvD s9 (by decide) rfl) (kX10_remembers w) (fun E h hk => hk.elim) (fun h1 w => ?_)
  refine X_aload_n (j := 0) (show decode cX10_addLink 4 = .ok (.aload_n 0, 1) by decide +kernel) rfl rfl ?_
  refine X_aload_n (j := 0) (show decode cX10_addLink 5 = .ok (.aload_n 0, 1) by decide +kernel) rfl rfl ?_
  refine X_iload_n (j := 1) (show decode cX10_addLink 6 = .ok (.iload_n 1, 1) by decide +kernel) rfl rfl ?_
  refine X_iload_n (j := 2) (show decode cX10_addLink 7 = .ok (.iload_n 2, 1) by decide +kernel) rfl rfl ?_
  obtain ⟨s8, w⟩ := w
  refine X_vI (rc' := 0) (rs' := 0) (as := [.int _, .int _]) mv_X10_175 (show decode cX10_addLink 8 = .ok (.invokevirtual 175, 3) by decide +kernel) (by decide) (Nat.le_of_ble_eq_true rfl) (Nat.le_of_ble_eq_true rfl) rfl rfl (Nat.le_of_ble_eq_true rfl) (rcvD s8 (by decide) rfl) (kX10_links w) (fun E h hk => hk.elim) (fun r4 h3 w => ?_)
  obtain ⟨s7, w⟩ := w
  refine X_vI (rc' := 0) (rs' := 0) (as := [.int _]) mv_X10_169 (show decode cX10_addLink 11 = .ok (.invokevirtual 169, 3) by decide +kernel) (by decide) (Nat.le_of_ble_eq_true rfl) (Nat.le_of_ble_eq_true rfl) rfl rfl (Nat.le_of_ble_eq_true rfl) (rcvD s7 (by decide) rfl) (kX10_ends w) (fun E h hk => hk.elim) (fun r6 h5 w => ?_)
  exact X_iret ⟨(show decode cX10_addLink 14 = .ok (.ireturn, 1) by decide +kernel), .int, rfl, rfl⟩ ⟨_, rfl, w⟩
set_option maxRecDepth 100000 in
set_option maxHeartbeats 4000000 in
theorem kX10_shut {a0 : Nat} {a1 : Int32} {h : AH} {K : Int32 → AH → Prop} (w : wX10_shut a0 a1 h K) : Cn mX10_shut (cwd mX10_shut) 4 0 0 [.ref a0, .int a1] h (KI K) T0 := by
  refine Cn_of (by decide +kernel) rfl (Nat.le_of_ble_eq_true rfl) ?_
  show X mX10_shut 4 (KI K) T0 0 0 0 [(0, .ref a0), (1, .int a1)] [] h
  unfold wX10_shut at w
  refine X_aload_n (j := 0) (show decode cX10_shut 0 = .ok (.aload_n 0, 1) by decide +kernel) rfl rfl ?_
  obtain ⟨s9, w⟩ := w
  refine X_vV (rc' := 0) (rs' := 0) (as := []) mv_X10_163 (show decode cX10_shut 1 = .ok (.invokevirtual 163, 3) by decide +kernel) (by decide) (Nat.le_of_ble_eq_true rfl) (Nat.le_of_ble_eq_true rfl) rfl rfl (Nat.le_of_ble_eq_true rfl) (rcvD s9 (by decide) rfl) (kX10_remembers w) (fun E h hk => hk.elim) (fun h1 w => ?_)
  refine X_aload_n (j := 0) (show decode cX10_shut 4 = .ok (.aload_n 0, 1) by decide +kernel) rfl rfl ?_
  refine X_aload_n (j := 0) (show decode cX10_shut 5 = .ok (.aload_n 0, 1) by decide +kernel) rfl rfl ?_
  refine X_iload_n (j := 1) (show decode cX10_shut 6 = .ok (.iload_n 1, 1) by decide +kernel) rfl rfl ?_
  obtain ⟨s8, w⟩ := w
  refine X_vI (rc' := 0) (rs' := 0) (as := [.int _]) mv_X10_178 (show decode cX10_shut 7 = .ok (.invokevirtual 178, 3) by decide +kernel) (by decide) (Nat.le_of_ble_eq_true rfl) (Nat.le_of_ble_eq_true rfl) rfl rfl (Nat.le_of_ble_eq_true rfl) (rcvD s8 (by decide) rfl) (kX10_shuts w) (fun E h hk => hk.elim) (fun r4 h3 w => ?_)
  obtain ⟨s7, w⟩ := w
  refine X_vI (rc' := 0) (rs' := 0) (as := [.int _]) mv_X10_169 (show decode cX10_shut 10 = .ok (.invokevirtual 169, 3) by decide +kernel) (by decide) (Nat.le_of_ble_eq_true rfl) (Nat.le_of_ble_eq_true rfl) rfl rfl (Nat.le_of_ble_eq_true rfl) (rcvD s7 (by decide) rfl) (kX10_ends w) (fun E h hk => hk.elim) (fun r6 h5 w => ?_)
  exact X_iret ⟨(show decode cX10_shut 13 = .ok (.ireturn, 1) by decide +kernel), .int, rfl, rfl⟩ ⟨_, rfl, w⟩
set_option maxRecDepth 100000 in
set_option maxHeartbeats 4000000 in
theorem kX10_open {a0 : Nat} {a1 : Int32} {h : AH} {K : Int32 → AH → Prop} (w : wX10_open a0 a1 h K) : Cn mX10_open (cwd mX10_open) 4 0 0 [.ref a0, .int a1] h (KI K) T0 := by
  refine Cn_of (by decide +kernel) rfl (Nat.le_of_ble_eq_true rfl) ?_
  show X mX10_open 4 (KI K) T0 0 0 0 [(0, .ref a0), (1, .int a1)] [] h
  unfold wX10_open at w
  refine X_aload_n (j := 0) (show decode cX10_open 0 = .ok (.aload_n 0, 1) by decide +kernel) rfl rfl ?_
  obtain ⟨s9, w⟩ := w
  refine X_vV (rc' := 0) (rs' := 0) (as := []) mv_X10_163 (show decode cX10_open 1 = .ok (.invokevirtual 163, 3) by decide +kernel) (by decide) (Nat.le_of_ble_eq_true rfl) (Nat.le_of_ble_eq_true rfl) rfl rfl (Nat.le_of_ble_eq_true rfl) (rcvD s9 (by decide) rfl) (kX10_remembers w) (fun E h hk => hk.elim) (fun h1 w => ?_)
  refine X_aload_n (j := 0) (show decode cX10_open 4 = .ok (.aload_n 0, 1) by decide +kernel) rfl rfl ?_
  refine X_aload_n (j := 0) (show decode cX10_open 5 = .ok (.aload_n 0, 1) by decide +kernel) rfl rfl ?_
  refine X_iload_n (j := 1) (show decode cX10_open 6 = .ok (.iload_n 1, 1) by decide +kernel) rfl rfl ?_
  obtain ⟨s8, w⟩ := w
  refine X_vI (rc' := 0) (rs' := 0) (as := [.int _]) mv_X10_181 (show decode cX10_open 7 = .ok (.invokevirtual 181, 3) by decide +kernel) (by decide) (Nat.le_of_ble_eq_true rfl) (Nat.le_of_ble_eq_true rfl) rfl rfl (Nat.le_of_ble_eq_true rfl) (rcvD s8 (by decide) rfl) (kX10_opens w) (fun E h hk => hk.elim) (fun r4 h3 w => ?_)
  obtain ⟨s7, w⟩ := w
  refine X_vI (rc' := 0) (rs' := 0) (as := [.int _]) mv_X10_169 (show decode cX10_open 10 = .ok (.invokevirtual 169, 3) by decide +kernel) (by decide) (Nat.le_of_ble_eq_true rfl) (Nat.le_of_ble_eq_true rfl) rfl rfl (Nat.le_of_ble_eq_true rfl) (rcvD s7 (by decide) rfl) (kX10_ends w) (fun E h hk => hk.elim) (fun r6 h5 w => ?_)
  exact X_iret ⟨(show decode cX10_open 13 = .ok (.ireturn, 1) by decide +kernel), .int, rfl, rfl⟩ ⟨_, rfl, w⟩
set_option maxRecDepth 100000 in
set_option maxHeartbeats 4000000 in
theorem kX10_throwPoint {a0 : Nat} {a1 : Int32} {h : AH} {K : Int32 → AH → Prop} (w : wX10_throwPoint a0 a1 h K) : Cn mX10_throwPoint (cwd mX10_throwPoint) 4 0 0 [.ref a0, .int a1] h (KI K) T0 := by
  refine Cn_of (by decide +kernel) rfl (Nat.le_of_ble_eq_true rfl) ?_
  show X mX10_throwPoint 4 (KI K) T0 0 0 0 [(0, .ref a0), (1, .int a1)] [] h
  unfold wX10_throwPoint at w
  refine X_aload_n (j := 0) (show decode cX10_throwPoint 0 = .ok (.aload_n 0, 1) by decide +kernel) rfl rfl ?_
  obtain ⟨s10, w⟩ := w
  refine X_vV (rc' := 0) (rs' := 0) (as := []) mv_X10_163 (show decode cX10_throwPoint 1 = .ok (.invokevirtual 163, 3) by decide +kernel) (by decide) (Nat.le_of_ble_eq_true rfl) (Nat.le_of_ble_eq_true rfl) rfl rfl (Nat.le_of_ble_eq_true rfl) (rcvD s10 (by decide) rfl) (kX10_remembers w) (fun E h hk => hk.elim) (fun h1 w => ?_)
  refine X_aload_n (j := 0) (show decode cX10_throwPoint 4 = .ok (.aload_n 0, 1) by decide +kernel) rfl rfl ?_
  refine X_aload_n (j := 0) (show decode cX10_throwPoint 5 = .ok (.aload_n 0, 1) by decide +kernel) rfl rfl ?_
  refine X_iload_n (j := 1) (show decode cX10_throwPoint 6 = .ok (.iload_n 1, 1) by decide +kernel) rfl rfl ?_
  obtain ⟨s9, w⟩ := w
  refine X_vI (rc' := 0) (rs' := 0) (as := [.int _]) mv_X10_184 (show decode cX10_throwPoint 7 = .ok (.invokevirtual 184, 3) by decide +kernel) (by decide) (Nat.le_of_ble_eq_true rfl) (Nat.le_of_ble_eq_true rfl) rfl rfl (Nat.le_of_ble_eq_true rfl) (rcvD s9 (by decide) rfl) (kX10_throwsOver w) (fun E h hk => hk.elim) (fun r4 h3 w => ?_)
  obtain ⟨s8, w⟩ := w
  refine X_vI (rc' := 0) (rs' := 0) (as := [.int _]) mv_X10_169 (show decode cX10_throwPoint 10 = .ok (.invokevirtual 169, 3) by decide +kernel) (by decide) (Nat.le_of_ble_eq_true rfl) (Nat.le_of_ble_eq_true rfl) rfl rfl (Nat.le_of_ble_eq_true rfl) (rcvD s8 (by decide) rfl) (kX10_ends w) (fun E h hk => hk.elim) (fun r6 h5 w => ?_)
  refine X_iconst (v := (nI 1)) (show decode cX10_throwPoint 13 = .ok (.iconst 1, 1) by decide +kernel) (by decide) ?_
  refine X_icmp_ne (tgt := 21) (show decode cX10_throwPoint 14 = .ok (.if_icmp .ne 7, 3) by decide +kernel) (by decide) ⟨fun c7 => ?_, fun c7 => ?_⟩
  · have w := w.1 c7
    refine X_iconst (v := (nI 0)) (show decode cX10_throwPoint 21 = .ok (.iconst 0, 1) by decide +kernel) (by decide) ?_
    exact X_iret ⟨(show decode cX10_throwPoint 22 = .ok (.ireturn, 1) by decide +kernel), .boolean, rfl, (by decide)⟩ ⟨_, rfl, w⟩
  · have w := w.2 c7
    refine X_iconst (v := (nI 1)) (show decode cX10_throwPoint 17 = .ok (.iconst 1, 1) by decide +kernel) (by decide) ?_
    refine X_goto (tgt := 22) (show decode cX10_throwPoint 18 = .ok (.goto 4, 3) by decide +kernel) (by decide) ?_
    exact X_iret ⟨(show decode cX10_throwPoint 22 = .ok (.ireturn, 1) by decide +kernel), .boolean, rfl, (by decide)⟩ ⟨_, rfl, w⟩
set_option maxRecDepth 100000 in
set_option maxHeartbeats 4000000 in
theorem kX10_addTrain {a0 : Nat} {a1 : Int32} {a2 : Int32} {h : AH} {K : Int32 → AH → Prop} (w : wX10_addTrain a0 a1 a2 h K) : Cn mX10_addTrain (cwd mX10_addTrain) 4 0 0 [.ref a0, .int a1, .int a2] h (KI K) T0 := by
  refine Cn_of (by decide +kernel) rfl (Nat.le_of_ble_eq_true rfl) ?_
  show X mX10_addTrain 4 (KI K) T0 0 0 0 [(0, .ref a0), (1, .int a1), (2, .int a2)] [] h
  unfold wX10_addTrain at w
  refine X_aload_n (j := 0) (show decode cX10_addTrain 0 = .ok (.aload_n 0, 1) by decide +kernel) rfl rfl ?_
  obtain ⟨s9, w⟩ := w
  refine X_vV (rc' := 0) (rs' := 0) (as := []) mv_X10_163 (show decode cX10_addTrain 1 = .ok (.invokevirtual 163, 3) by decide +kernel) (by decide) (Nat.le_of_ble_eq_true rfl) (Nat.le_of_ble_eq_true rfl) rfl rfl (Nat.le_of_ble_eq_true rfl) (rcvD s9 (by decide) rfl) (kX10_remembers w) (fun E h hk => hk.elim) (fun h1 w => ?_)
  refine X_aload_n (j := 0) (show decode cX10_addTrain 4 = .ok (.aload_n 0, 1) by decide +kernel) rfl rfl ?_
  refine X_aload_n (j := 0) (show decode cX10_addTrain 5 = .ok (.aload_n 0, 1) by decide +kernel) rfl rfl ?_
  refine X_iload_n (j := 1) (show decode cX10_addTrain 6 = .ok (.iload_n 1, 1) by decide +kernel) rfl rfl ?_
  refine X_iload_n (j := 2) (show decode cX10_addTrain 7 = .ok (.iload_n 2, 1) by decide +kernel) rfl rfl ?_
  obtain ⟨s8, w⟩ := w
  refine X_vI (rc' := 0) (rs' := 0) (as := [.int _, .int _]) mv_X10_187 (show decode cX10_addTrain 8 = .ok (.invokevirtual 187, 3) by decide +kernel) (by decide) (Nat.le_of_ble_eq_true rfl) (Nat.le_of_ble_eq_true rfl) rfl rfl (Nat.le_of_ble_eq_true rfl) (rcvD s8 (by decide) rfl) (kX10_comes w) (fun E h hk => hk.elim) (fun r4 h3 w => ?_)
  obtain ⟨s7, w⟩ := w
  refine X_vI (rc' := 0) (rs' := 0) (as := [.int _]) mv_X10_169 (show decode cX10_addTrain 11 = .ok (.invokevirtual 169, 3) by decide +kernel) (by decide) (Nat.le_of_ble_eq_true rfl) (Nat.le_of_ble_eq_true rfl) rfl rfl (Nat.le_of_ble_eq_true rfl) (rcvD s7 (by decide) rfl) (kX10_ends w) (fun E h hk => hk.elim) (fun r6 h5 w => ?_)
  exact X_iret ⟨(show decode cX10_addTrain 14 = .ok (.ireturn, 1) by decide +kernel), .int, rfl, rfl⟩ ⟨_, rfl, w⟩
set_option maxRecDepth 100000 in
set_option maxHeartbeats 4000000 in
theorem kX10_setRoute {a0 : Nat} {a1 : Int32} {h : AH} {K : Int32 → AH → Prop} (w : wX10_setRoute a0 a1 h K) : Cn mX10_setRoute (cwd mX10_setRoute) 7 0 0 [.ref a0, .int a1] h (KI K) T0 := by
  refine Cn_of (by decide +kernel) rfl (Nat.le_of_ble_eq_true rfl) ?_
  show X mX10_setRoute 7 (KI K) T0 0 0 0 [(0, .ref a0), (1, .int a1)] [] h
  unfold wX10_setRoute at w
  refine X_aload_n (j := 0) (show decode cX10_setRoute 0 = .ok (.aload_n 0, 1) by decide +kernel) rfl rfl ?_
  obtain ⟨s9, w⟩ := w
  refine X_vV (rc' := 0) (rs' := 0) (as := []) mv_X10_163 (show decode cX10_setRoute 1 = .ok (.invokevirtual 163, 3) by decide +kernel) (by decide) (Nat.le_of_ble_eq_true rfl) (Nat.le_of_ble_eq_true rfl) rfl rfl (Nat.le_of_ble_eq_true rfl) (rcvD s9 (by decide) rfl) (kX10_remembers w) (fun E h hk => hk.elim) (fun h1 w => ?_)
  refine X_aload_n (j := 0) (show decode cX10_setRoute 4 = .ok (.aload_n 0, 1) by decide +kernel) rfl rfl ?_
  refine X_aload_n (j := 0) (show decode cX10_setRoute 5 = .ok (.aload_n 0, 1) by decide +kernel) rfl rfl ?_
  refine X_iload_n (j := 1) (show decode cX10_setRoute 6 = .ok (.iload_n 1, 1) by decide +kernel) rfl rfl ?_
  obtain ⟨s8, w⟩ := w
  refine X_vI (rc' := 0) (rs' := 0) (as := [.int _]) mv_X10_190 (show decode cX10_setRoute 7 = .ok (.invokevirtual 190, 3) by decide +kernel) (by decide) (Nat.le_of_ble_eq_true rfl) (Nat.le_of_ble_eq_true rfl) rfl rfl (Nat.le_of_ble_eq_true rfl) (rcvD s8 (by decide) rfl) (kX10_clears w) (fun E h hk => hk.elim) (fun r4 h3 w => ?_)
  obtain ⟨s7, w⟩ := w
  refine X_vI (rc' := 0) (rs' := 0) (as := [.int _]) mv_X10_169 (show decode cX10_setRoute 10 = .ok (.invokevirtual 169, 3) by decide +kernel) (by decide) (Nat.le_of_ble_eq_true rfl) (Nat.le_of_ble_eq_true rfl) rfl rfl (Nat.le_of_ble_eq_true rfl) (rcvD s7 (by decide) rfl) (kX10_ends w) (fun E h hk => hk.elim) (fun r6 h5 w => ?_)
  exact X_iret ⟨(show decode cX10_setRoute 13 = .ok (.ireturn, 1) by decide +kernel), .int, rfl, rfl⟩ ⟨_, rfl, w⟩
set_option maxRecDepth 100000 in
set_option maxHeartbeats 4000000 in
theorem kX10_releaseRoute {a0 : Nat} {a1 : Int32} {h : AH} {K : Int32 → AH → Prop} (w : wX10_releaseRoute a0 a1 h K) : Cn mX10_releaseRoute (cwd mX10_releaseRoute) 5 0 0 [.ref a0, .int a1] h (KI K) T0 := by
  refine Cn_of (by decide +kernel) rfl (Nat.le_of_ble_eq_true rfl) ?_
  show X mX10_releaseRoute 5 (KI K) T0 0 0 0 [(0, .ref a0), (1, .int a1)] [] h
  unfold wX10_releaseRoute at w
  refine X_aload_n (j := 0) (show decode cX10_releaseRoute 0 = .ok (.aload_n 0, 1) by decide +kernel) rfl rfl ?_
  obtain ⟨s9, w⟩ := w
  refine X_vV (rc' := 0) (rs' := 0) (as := []) mv_X10_163 (show decode cX10_releaseRoute 1 = .ok (.invokevirtual 163, 3) by decide +kernel) (by decide) (Nat.le_of_ble_eq_true rfl) (Nat.le_of_ble_eq_true rfl) rfl rfl (Nat.le_of_ble_eq_true rfl) (rcvD s9 (by decide) rfl) (kX10_remembers w) (fun E h hk => hk.elim) (fun h1 w => ?_)
  refine X_aload_n (j := 0) (show decode cX10_releaseRoute 4 = .ok (.aload_n 0, 1) by decide +kernel) rfl rfl ?_
  refine X_aload_n (j := 0) (show decode cX10_releaseRoute 5 = .ok (.aload_n 0, 1) by decide +kernel) rfl rfl ?_
  refine X_iload_n (j := 1) (show decode cX10_releaseRoute 6 = .ok (.iload_n 1, 1) by decide +kernel) rfl rfl ?_
  obtain ⟨s8, w⟩ := w
  refine X_vI (rc' := 0) (rs' := 0) (as := [.int _]) mv_X10_193 (show decode cX10_releaseRoute 7 = .ok (.invokevirtual 193, 3) by decide +kernel) (by decide) (Nat.le_of_ble_eq_true rfl) (Nat.le_of_ble_eq_true rfl) rfl rfl (Nat.le_of_ble_eq_true rfl) (rcvD s8 (by decide) rfl) (kX10_frees w) (fun E h hk => hk.elim) (fun r4 h3 w => ?_)
  obtain ⟨s7, w⟩ := w
  refine X_vI (rc' := 0) (rs' := 0) (as := [.int _]) mv_X10_169 (show decode cX10_releaseRoute 10 = .ok (.invokevirtual 169, 3) by decide +kernel) (by decide) (Nat.le_of_ble_eq_true rfl) (Nat.le_of_ble_eq_true rfl) rfl rfl (Nat.le_of_ble_eq_true rfl) (rcvD s7 (by decide) rfl) (kX10_ends w) (fun E h hk => hk.elim) (fun r6 h5 w => ?_)
  exact X_iret ⟨(show decode cX10_releaseRoute 13 = .ok (.ireturn, 1) by decide +kernel), .int, rfl, rfl⟩ ⟨_, rfl, w⟩
set_option maxRecDepth 100000 in
set_option maxHeartbeats 4000000 in
theorem kX10_pass {a0 : Nat} {a1 : Int32} {h : AH} {K : Int32 → AH → Prop} (w : wX10_pass a0 a1 h K) : Cn mX10_pass (cwd mX10_pass) 9 0 0 [.ref a0, .int a1] h (KI K) T0 := by
  refine Cn_of (by decide +kernel) rfl (Nat.le_of_ble_eq_true rfl) ?_
  show X mX10_pass 9 (KI K) T0 0 0 0 [(0, .ref a0), (1, .int a1)] [] h
  unfold wX10_pass at w
  refine X_aload_n (j := 0) (show decode cX10_pass 0 = .ok (.aload_n 0, 1) by decide +kernel) rfl rfl ?_
  obtain ⟨s9, w⟩ := w
  refine X_vV (rc' := 0) (rs' := 0) (as := []) mv_X10_163 (show decode cX10_pass 1 = .ok (.invokevirtual 163, 3) by decide +kernel) (by decide) (Nat.le_of_ble_eq_true rfl) (Nat.le_of_ble_eq_true rfl) rfl rfl (Nat.le_of_ble_eq_true rfl) (rcvD s9 (by decide) rfl) (kX10_remembers w) (fun E h hk => hk.elim) (fun h1 w => ?_)
  refine X_aload_n (j := 0) (show decode cX10_pass 4 = .ok (.aload_n 0, 1) by decide +kernel) rfl rfl ?_
  refine X_aload_n (j := 0) (show decode cX10_pass 5 = .ok (.aload_n 0, 1) by decide +kernel) rfl rfl ?_
  refine X_iload_n (j := 1) (show decode cX10_pass 6 = .ok (.iload_n 1, 1) by decide +kernel) rfl rfl ?_
  obtain ⟨s8, w⟩ := w
  refine X_vI (rc' := 0) (rs' := 0) (as := [.int _]) mv_X10_196 (show decode cX10_pass 7 = .ok (.invokevirtual 196, 3) by decide +kernel) (by decide) (Nat.le_of_ble_eq_true rfl) (Nat.le_of_ble_eq_true rfl) rfl rfl (Nat.le_of_ble_eq_true rfl) (rcvD s8 (by decide) rfl) (kX10_passes w) (fun E h hk => hk.elim) (fun r4 h3 w => ?_)
  obtain ⟨s7, w⟩ := w
  refine X_vI (rc' := 0) (rs' := 0) (as := [.int _]) mv_X10_169 (show decode cX10_pass 10 = .ok (.invokevirtual 169, 3) by decide +kernel) (by decide) (Nat.le_of_ble_eq_true rfl) (Nat.le_of_ble_eq_true rfl) rfl rfl (Nat.le_of_ble_eq_true rfl) (rcvD s7 (by decide) rfl) (kX10_ends w) (fun E h hk => hk.elim) (fun r6 h5 w => ?_)
  exact X_iret ⟨(show decode cX10_pass 13 = .ok (.ireturn, 1) by decide +kernel), .int, rfl, rfl⟩ ⟨_, rfl, w⟩
set_option maxRecDepth 100000 in
set_option maxHeartbeats 4000000 in
theorem kX10_blocks {a0 : Nat} {h : AH} {K : Int32 → AH → Prop} (w : wX10_blocks a0 h K) : Cn mX10_blocks (cwd mX10_blocks) 1 0 0 [.ref a0] h (KI K) T0 := by
  refine Cn_of (by decide +kernel) rfl (Nat.le_of_ble_eq_true rfl) ?_
  show X mX10_blocks 1 (KI K) T0 0 0 0 [(0, .ref a0)] [] h
  unfold wX10_blocks at w
  refine X_aload_n (j := 0) (show decode cX10_blocks 0 = .ok (.aload_n 0, 1) by decide +kernel) rfl rfl ?_
  refine X_iconst (v := (nI 0)) (show decode cX10_blocks 1 = .ok (.iconst 0, 1) by decide +kernel) (by decide) ?_
  obtain ⟨s1, w⟩ := w
  refine X_putI fp_X10_56 (show decode cX10_blocks 2 = .ok (.putfield 56, 3) by decide +kernel) (fun z => nomatch z) s1 rfl rfl ?_
  have w := w _ rfl
  refine X_aload_n (j := 0) (show decode cX10_blocks 5 = .ok (.aload_n 0, 1) by decide +kernel) rfl rfl ?_
  refine X_getR fl_X10_7 (show decode cX10_blocks 6 = .ok (.getfield 7, 3) by decide +kernel) s1 ?_
  refine X_iconst (v := (nI 0)) (show decode cX10_blocks 9 = .ok (.iconst 0, 1) by decide +kernel) (by decide) ?_
  obtain ⟨s3, w⟩ := w
  obtain ⟨s4, w⟩ := w
  refine X_iald (show decode cX10_blocks 10 = .ok (.iaload, 1) by decide +kernel) (isA_eq s3) s4 ?_
  exact X_iret ⟨(show decode cX10_blocks 11 = .ok (.ireturn, 1) by decide +kernel), .int, rfl, rfl⟩ ⟨_, rfl, w⟩
set_option maxRecDepth 100000 in
set_option maxHeartbeats 4000000 in
theorem kX10_isAsked_J14 {K : Int32 → AH → Prop}   (x0 : Nat) (y0 : Nat) (y1 : Int32) (h : AH) (w : wX10_isAsked_J14 K  x0 y0 y1 h) : X mX10_isAsked 3 (KI K) T0 0 0 14 [(0, .ref x0)] [.int y1, .ref y0] h := by
  unfold wX10_isAsked_J14 at w
  obtain ⟨s4, w⟩ := w
  refine X_putI fp_X10_56 (show decode cX10_isAsked 14 = .ok (.putfield 56, 3) by decide +kernel) (fun z => nomatch z) s4 rfl rfl ?_
  have w := w _ rfl
  refine X_aload_n (j := 0) (show decode cX10_isAsked 17 = .ok (.aload_n 0, 1) by decide +kernel) rfl rfl ?_
  obtain ⟨s6, w⟩ := w
  refine X_getI fl_X10_56 (show decode cX10_isAsked 18 = .ok (.getfield 56, 3) by decide +kernel) s6 ?_
  refine X_if_ne (tgt := 28) (show decode cX10_isAsked 21 = .ok (.ifCond .ne 7, 3) by decide +kernel) (by decide) ⟨fun c7 => ?_, fun c7 => ?_⟩
  · have w := w.1 c7
    refine X_iconst (v := (nI 0)) (show decode cX10_isAsked 28 = .ok (.iconst 0, 1) by decide +kernel) (by decide) ?_
    exact X_iret ⟨(show decode cX10_isAsked 29 = .ok (.ireturn, 1) by decide +kernel), .boolean, rfl, (by decide)⟩ ⟨_, rfl, w⟩
  · have w := w.2 c7
    refine X_iconst (v := (nI 1)) (show decode cX10_isAsked 24 = .ok (.iconst 1, 1) by decide +kernel) (by decide) ?_
    refine X_goto (tgt := 29) (show decode cX10_isAsked 25 = .ok (.goto 4, 3) by decide +kernel) (by decide) ?_
    exact X_iret ⟨(show decode cX10_isAsked 29 = .ok (.ireturn, 1) by decide +kernel), .boolean, rfl, (by decide)⟩ ⟨_, rfl, w⟩
set_option maxRecDepth 100000 in
set_option maxHeartbeats 4000000 in
theorem kX10_isAsked {a0 : Nat} {a1 : Int32} {h : AH} {K : Int32 → AH → Prop} (w : wX10_isAsked a0 a1 h K) : Cn mX10_isAsked (cwd mX10_isAsked) 3 0 0 [.ref a0, .int a1] h (KI K) T0 := by
  refine Cn_of (by decide +kernel) rfl (Nat.le_of_ble_eq_true rfl) ?_
  show X mX10_isAsked 3 (KI K) T0 0 0 0 [(0, .ref a0), (1, .int a1)] [] h
  unfold wX10_isAsked at w
  refine X_aload_n (j := 0) (show decode cX10_isAsked 0 = .ok (.aload_n 0, 1) by decide +kernel) rfl rfl ?_
  refine X_aload_n (j := 0) (show decode cX10_isAsked 1 = .ok (.aload_n 0, 1) by decide +kernel) rfl rfl ?_
  refine X_iload_n (j := 1) (show decode cX10_isAsked 2 = .ok (.iload_n 1, 1) by decide +kernel) rfl rfl ?_
  obtain ⟨s8, w⟩ := w
  refine X_vI (rc' := 0) (rs' := 0) (as := [.int _]) mv_X10_144 (show decode cX10_isAsked 3 = .ok (.invokevirtual 144, 3) by decide +kernel) (by decide) (Nat.le_of_ble_eq_true rfl) (Nat.le_of_ble_eq_true rfl) rfl rfl (Nat.le_of_ble_eq_true rfl) (rcvD s8 (by decide) rfl) (kX10_isBlock w) (fun E h hk => hk.elim) (fun r2 h1 w => ?_)
  refine X_if_eq (tgt := 13) (show decode cX10_isAsked 6 = .ok (.ifCond .eq 7, 3) by decide +kernel) (by decide) ⟨fun c3 => ?_, fun c3 => ?_⟩
  · have w := w.1 c3
    refine X_iconst (v := (nI 1)) (show decode cX10_isAsked 13 = .ok (.iconst 1, 1) by decide +kernel) (by decide) ?_
    refine X_pick (ls' := [(0, .ref _)]) [0] rfl ?_
    exact kX10_isAsked_J14  _ _ _ _ w
  · have w := w.2 c3
    refine X_iconst (v := (nI 0)) (show decode cX10_isAsked 9 = .ok (.iconst 0, 1) by decide +kernel) (by decide) ?_
    refine X_goto (tgt := 14) (show decode cX10_isAsked 10 = .ok (.goto 4, 3) by decide +kernel) (by decide) ?_
    refine X_pick (ls' := [(0, .ref _)]) [0] rfl ?_
    exact kX10_isAsked_J14  _ _ _ _ w
set_option maxRecDepth 100000 in
set_option maxHeartbeats 4000000 in
theorem kX10_blockLength {a0 : Nat} {a1 : Int32} {h : AH} {K : Int32 → AH → Prop} (w : wX10_blockLength a0 a1 h K) : Cn mX10_blockLength (cwd mX10_blockLength) 4 0 0 [.ref a0, .int a1] h (KI K) T0 := by
  refine Cn_of (by decide +kernel) rfl (Nat.le_of_ble_eq_true rfl) ?_
  show X mX10_blockLength 4 (KI K) T0 0 0 0 [(0, .ref a0), (1, .int a1)] [] h
  unfold wX10_blockLength at w
  refine X_aload_n (j := 0) (show decode cX10_blockLength 0 = .ok (.aload_n 0, 1) by decide +kernel) rfl rfl ?_
  refine X_iload_n (j := 1) (show decode cX10_blockLength 1 = .ok (.iload_n 1, 1) by decide +kernel) rfl rfl ?_
  obtain ⟨s7, w⟩ := w
  refine X_vI (rc' := 0) (rs' := 0) (as := [.int _]) mv_X10_199 (show decode cX10_blockLength 2 = .ok (.invokevirtual 199, 3) by decide +kernel) (by decide) (Nat.le_of_ble_eq_true rfl) (Nat.le_of_ble_eq_true rfl) rfl rfl (Nat.le_of_ble_eq_true rfl) (rcvD s7 (by decide) rfl) (kX10_isAsked w) (fun E h hk => hk.elim) (fun r2 h1 w => ?_)
  refine X_if_eq (tgt := 17) (show decode cX10_blockLength 5 = .ok (.ifCond .eq 12, 3) by decide +kernel) (by decide) ⟨fun c3 => ?_, fun c3 => ?_⟩
  · have w := w.1 c3
    refine X_iconst (v := (nI 0)) (show decode cX10_blockLength 17 = .ok (.iconst 0, 1) by decide +kernel) (by decide) ?_
    exact X_iret ⟨(show decode cX10_blockLength 18 = .ok (.ireturn, 1) by decide +kernel), .int, rfl, rfl⟩ ⟨_, rfl, w⟩
  · have w := w.2 c3
    refine X_aload_n (j := 0) (show decode cX10_blockLength 8 = .ok (.aload_n 0, 1) by decide +kernel) rfl rfl ?_
    refine X_iload_n (j := 1) (show decode cX10_blockLength 9 = .ok (.iload_n 1, 1) by decide +kernel) rfl rfl ?_
    refine X_iconst (v := (nI 0)) (show decode cX10_blockLength 10 = .ok (.iconst 0, 1) by decide +kernel) (by decide) ?_
    obtain ⟨s6, w⟩ := w
    refine X_vI (rc' := 0) (rs' := 0) (as := [.int _, .int _]) mv_X10_80 (show decode cX10_blockLength 11 = .ok (.invokevirtual 80, 3) by decide +kernel) (by decide) (Nat.le_of_ble_eq_true rfl) (Nat.le_of_ble_eq_true rfl) rfl rfl (Nat.le_of_ble_eq_true rfl) (rcvD s6 (by decide) rfl) (kX10_block w) (fun E h hk => hk.elim) (fun r5 h4 w => ?_)
    refine X_goto (tgt := 18) (show decode cX10_blockLength 14 = .ok (.goto 4, 3) by decide +kernel) (by decide) ?_
    exact X_iret ⟨(show decode cX10_blockLength 18 = .ok (.ireturn, 1) by decide +kernel), .int, rfl, rfl⟩ ⟨_, rfl, w⟩
set_option maxRecDepth 100000 in
set_option maxHeartbeats 4000000 in
theorem kX10_blockState {a0 : Nat} {a1 : Int32} {h : AH} {K : Int32 → AH → Prop} (w : wX10_blockState a0 a1 h K) : Cn mX10_blockState (cwd mX10_blockState) 4 0 0 [.ref a0, .int a1] h (KI K) T0 := by
  refine Cn_of (by decide +kernel) rfl (Nat.le_of_ble_eq_true rfl) ?_
  show X mX10_blockState 4 (KI K) T0 0 0 0 [(0, .ref a0), (1, .int a1)] [] h
  unfold wX10_blockState at w
  refine X_aload_n (j := 0) (show decode cX10_blockState 0 = .ok (.aload_n 0, 1) by decide +kernel) rfl rfl ?_
  refine X_iload_n (j := 1) (show decode cX10_blockState 1 = .ok (.iload_n 1, 1) by decide +kernel) rfl rfl ?_
  obtain ⟨s8, w⟩ := w
  refine X_vI (rc' := 0) (rs' := 0) (as := [.int _]) mv_X10_199 (show decode cX10_blockState 2 = .ok (.invokevirtual 199, 3) by decide +kernel) (by decide) (Nat.le_of_ble_eq_true rfl) (Nat.le_of_ble_eq_true rfl) rfl rfl (Nat.le_of_ble_eq_true rfl) (rcvD s8 (by decide) rfl) (kX10_isAsked w) (fun E h hk => hk.elim) (fun r2 h1 w => ?_)
  refine X_if_eq (tgt := 17) (show decode cX10_blockState 5 = .ok (.ifCond .eq 12, 3) by decide +kernel) (by decide) ⟨fun c3 => ?_, fun c3 => ?_⟩
  · have w := w.1 c3
    refine X_iconst (v := (nI 0)) (show decode cX10_blockState 17 = .ok (.iconst 0, 1) by decide +kernel) (by decide) ?_
    exact X_iret ⟨(show decode cX10_blockState 18 = .ok (.ireturn, 1) by decide +kernel), .char, rfl, (by decide)⟩ ⟨_, rfl, w⟩
  · have w := w.2 c3
    refine X_aload_n (j := 0) (show decode cX10_blockState 8 = .ok (.aload_n 0, 1) by decide +kernel) rfl rfl ?_
    refine X_iload_n (j := 1) (show decode cX10_blockState 9 = .ok (.iload_n 1, 1) by decide +kernel) rfl rfl ?_
    obtain ⟨s7, w⟩ := w
    refine X_vI (rc' := 0) (rs' := 0) (as := [.int _]) mv_X10_103 (show decode cX10_blockState 10 = .ok (.invokevirtual 103, 3) by decide +kernel) (by decide) (Nat.le_of_ble_eq_true rfl) (Nat.le_of_ble_eq_true rfl) rfl rfl (Nat.le_of_ble_eq_true rfl) (rcvD s7 (by decide) rfl) (kX10_look w) (fun E h hk => hk.elim) (fun r5 h4 w => ?_)
    refine X_i2c (show decode cX10_blockState 13 = .ok (.i2c, 1) by decide +kernel) ?_
    refine X_goto (tgt := 18) (show decode cX10_blockState 14 = .ok (.goto 4, 3) by decide +kernel) (by decide) ?_
    obtain ⟨s6, w⟩ := w
    exact X_iret ⟨(show decode cX10_blockState 18 = .ok (.ireturn, 1) by decide +kernel), .char, rfl, s6⟩ ⟨_, rfl, w⟩
set_option maxRecDepth 100000 in
set_option maxHeartbeats 4000000 in
theorem kX10_trainAt_J34 {K : Int32 → AH → Prop}   (x0 : Nat) (y0 : Int32) (h : AH) (w : wX10_trainAt_J34 K  x0 y0 h) : X mX10_trainAt 4 (KI K) T0 0 0 34 [(0, .ref x0)] [.int y0] h := by
  unfold wX10_trainAt_J34 at w
  refine X_istore_n (ls' := [(0, .ref _), (2, .int _)]) (show decode cX10_trainAt 34 = .ok (.istore_n 2, 1) by decide +kernel) rfl (by decide) rfl ?_
  refine X_iload_n (j := 1) (show decode cX10_trainAt 35 = .ok (.iload_n 2, 1) by decide +kernel) rfl rfl ?_
  refine X_if_ne (tgt := 47) (show decode cX10_trainAt 36 = .ok (.ifCond .ne 11, 3) by decide +kernel) (by decide) ⟨fun c9 => ?_, fun c9 => ?_⟩
  · have w := w.1 c9
    refine X_iload_n (j := 1) (show decode cX10_trainAt 47 = .ok (.iload_n 2, 1) by decide +kernel) rfl rfl ?_
    refine X_iconst (v := (nI 1)) (show decode cX10_trainAt 48 = .ok (.iconst 1, 1) by decide +kernel) (by decide) ?_
    refine X_isub (show decode cX10_trainAt 49 = .ok (.isub, 1) by decide +kernel) ?_
    exact X_iret ⟨(show decode cX10_trainAt 50 = .ok (.ireturn, 1) by decide +kernel), .int, rfl, rfl⟩ ⟨_, rfl, w⟩
  · have w := w.2 c9
    refine X_aload_n (j := 0) (show decode cX10_trainAt 39 = .ok (.aload_n 0, 1) by decide +kernel) rfl rfl ?_
    refine X_iconst (v := (nI 2)) (show decode cX10_trainAt 40 = .ok (.iconst 2, 1) by decide +kernel) (by decide) ?_
    obtain ⟨s12, w⟩ := w
    refine X_vI (rc' := 0) (rs' := 0) (as := [.int _]) mv_X10_69 (show decode cX10_trainAt 41 = .ok (.invokevirtual 69, 3) by decide +kernel) (by decide) (Nat.le_of_ble_eq_true rfl) (Nat.le_of_ble_eq_true rfl) rfl rfl (Nat.le_of_ble_eq_true rfl) (rcvD s12 (by decide) rfl) (kX10_fails w) (fun E h hk => hk.elim) (fun r11 h10 w => ?_)
    refine X_goto (tgt := 50) (show decode cX10_trainAt 44 = .ok (.goto 6, 3) by decide +kernel) (by decide) ?_
    exact X_iret ⟨(show decode cX10_trainAt 50 = .ok (.ireturn, 1) by decide +kernel), .int, rfl, rfl⟩ ⟨_, rfl, w⟩
set_option maxRecDepth 100000 in
set_option maxHeartbeats 4000000 in
theorem kX10_trainAt {a0 : Nat} {a1 : Int32} {h : AH} {K : Int32 → AH → Prop} (w : wX10_trainAt a0 a1 h K) : Cn mX10_trainAt (cwd mX10_trainAt) 4 0 0 [.ref a0, .int a1] h (KI K) T0 := by
  refine Cn_of (by decide +kernel) rfl (Nat.le_of_ble_eq_true rfl) ?_
  show X mX10_trainAt 4 (KI K) T0 0 0 0 [(0, .ref a0), (1, .int a1)] [] h
  unfold wX10_trainAt at w
  refine X_aload_n (j := 0) (show decode cX10_trainAt 0 = .ok (.aload_n 0, 1) by decide +kernel) rfl rfl ?_
  refine X_iload_n (j := 1) (show decode cX10_trainAt 1 = .ok (.iload_n 1, 1) by decide +kernel) rfl rfl ?_
  obtain ⟨s18, w⟩ := w
  refine X_vI (rc' := 0) (rs' := 0) (as := [.int _]) mv_X10_199 (show decode cX10_trainAt 2 = .ok (.invokevirtual 199, 3) by decide +kernel) (by decide) (Nat.le_of_ble_eq_true rfl) (Nat.le_of_ble_eq_true rfl) rfl rfl (Nat.le_of_ble_eq_true rfl) (rcvD s18 (by decide) rfl) (kX10_isAsked w) (fun E h hk => hk.elim) (fun r2 h1 w => ?_)
  refine X_if_ne (tgt := 10) (show decode cX10_trainAt 5 = .ok (.ifCond .ne 5, 3) by decide +kernel) (by decide) ⟨fun c3 => ?_, fun c3 => ?_⟩
  · have w := w.1 c3
    refine X_aload_n (j := 0) (show decode cX10_trainAt 10 = .ok (.aload_n 0, 1) by decide +kernel) rfl rfl ?_
    refine X_iload_n (j := 1) (show decode cX10_trainAt 11 = .ok (.iload_n 1, 1) by decide +kernel) rfl rfl ?_
    refine X_iconst (v := (nI 4)) (show decode cX10_trainAt 12 = .ok (.iconst 4, 1) by decide +kernel) (by decide) ?_
    obtain ⟨s17, w⟩ := w
    refine X_vI (rc' := 0) (rs' := 0) (as := [.int _, .int _]) mv_X10_80 (show decode cX10_trainAt 13 = .ok (.invokevirtual 80, 3) by decide +kernel) (by decide) (Nat.le_of_ble_eq_true rfl) (Nat.le_of_ble_eq_true rfl) rfl rfl (Nat.le_of_ble_eq_true rfl) (rcvD s17 (by decide) rfl) (kX10_block w) (fun E h hk => hk.elim) (fun r5 h4 w => ?_)
    refine X_if_le (tgt := 28) (show decode cX10_trainAt 16 = .ok (.ifCond .le 12, 3) by decide +kernel) (by decide) ⟨fun c6 => ?_, fun c6 => ?_⟩
    · have w := w.1 c6
      refine X_aload_n (j := 0) (show decode cX10_trainAt 28 = .ok (.aload_n 0, 1) by decide +kernel) rfl rfl ?_
      refine X_iload_n (j := 1) (show decode cX10_trainAt 29 = .ok (.iload_n 1, 1) by decide +kernel) rfl rfl ?_
      refine X_iconst (v := (nI 5)) (show decode cX10_trainAt 30 = .ok (.iconst 5, 1) by decide +kernel) (by decide) ?_
      obtain ⟨s13, w⟩ := w
      refine X_vI (rc' := 0) (rs' := 0) (as := [.int _, .int _]) mv_X10_80 (show decode cX10_trainAt 31 = .ok (.invokevirtual 80, 3) by decide +kernel) (by decide) (Nat.le_of_ble_eq_true rfl) (Nat.le_of_ble_eq_true rfl) rfl rfl (Nat.le_of_ble_eq_true rfl) (rcvD s13 (by decide) rfl) (kX10_block w) (fun E h hk => hk.elim) (fun r8 h7 w => ?_)
      refine X_pick (ls' := [(0, .ref _)]) [0] rfl ?_
      exact kX10_trainAt_J34  _ _ _ w
    · have w := w.2 c6
      refine X_aload_n (j := 0) (show decode cX10_trainAt 19 = .ok (.aload_n 0, 1) by decide +kernel) rfl rfl ?_
      refine X_iload_n (j := 1) (show decode cX10_trainAt 20 = .ok (.iload_n 1, 1) by decide +kernel) rfl rfl ?_
      refine X_iconst (v := (nI 4)) (show decode cX10_trainAt 21 = .ok (.iconst 4, 1) by decide +kernel) (by decide) ?_
      obtain ⟨s16, w⟩ := w
      refine X_vI (rc' := 0) (rs' := 0) (as := [.int _, .int _]) mv_X10_80 (show decode cX10_trainAt 22 = .ok (.invokevirtual 80, 3) by decide +kernel) (by decide) (Nat.le_of_ble_eq_true rfl) (Nat.le_of_ble_eq_true rfl) rfl rfl (Nat.le_of_ble_eq_true rfl) (rcvD s16 (by decide) rfl) (kX10_block w) (fun E h hk => hk.elim) (fun r15 h14 w => ?_)
      refine X_goto (tgt := 34) (show decode cX10_trainAt 25 = .ok (.goto 9, 3) by decide +kernel) (by decide) ?_
      refine X_pick (ls' := [(0, .ref _)]) [0] rfl ?_
      exact kX10_trainAt_J34  _ _ _ w
  · have w := w.2 c3
    refine X_iconst (v := (nI 0)) (show decode cX10_trainAt 8 = .ok (.iconst 0, 1) by decide +kernel) (by decide) ?_
    exact X_iret ⟨(show decode cX10_trainAt 9 = .ok (.ireturn, 1) by decide +kernel), .int, rfl, rfl⟩ ⟨_, rfl, w⟩
set_option maxRecDepth 100000 in
set_option maxHeartbeats 4000000 in
theorem kX10_liesLeft_J14 {K : Int32 → AH → Prop}   (x0 : Nat) (x1 : Int32) (y0 : Nat) (y1 : Int32) (h : AH) (w : wX10_liesLeft_J14 K  x0 x1 y0 y1 h) : X mX10_liesLeft 3 (KI K) T0 0 0 14 [(0, .ref x0), (1, .int x1)] [.int y1, .ref y0] h := by
  unfold wX10_liesLeft_J14 at w
  obtain ⟨s4, w⟩ := w
  refine X_putI fp_X10_56 (show decode cX10_liesLeft 14 = .ok (.putfield 56, 3) by decide +kernel) (fun z => nomatch z) s4 rfl rfl ?_
  have w := w _ rfl
  refine X_aload_n (j := 0) (show decode cX10_liesLeft 17 = .ok (.aload_n 0, 1) by decide +kernel) rfl rfl ?_
  obtain ⟨s6, w⟩ := w
  refine X_getI fl_X10_56 (show decode cX10_liesLeft 18 = .ok (.getfield 56, 3) by decide +kernel) s6 ?_
  refine X_if_ne (tgt := 37) (show decode cX10_liesLeft 21 = .ok (.ifCond .ne 16, 3) by decide +kernel) (by decide) ⟨fun c7 => ?_, fun c7 => ?_⟩
  · have w := w.1 c7
    refine X_iconst (v := (nI 0)) (show decode cX10_liesLeft 37 = .ok (.iconst 0, 1) by decide +kernel) (by decide) ?_
    exact X_iret ⟨(show decode cX10_liesLeft 38 = .ok (.ireturn, 1) by decide +kernel), .boolean, rfl, (by decide)⟩ ⟨_, rfl, w⟩
  · have w := w.2 c7
    refine X_aload_n (j := 0) (show decode cX10_liesLeft 24 = .ok (.aload_n 0, 1) by decide +kernel) rfl rfl ?_
    refine X_iload_n (j := 1) (show decode cX10_liesLeft 25 = .ok (.iload_n 1, 1) by decide +kernel) rfl rfl ?_
    refine X_iconst (v := (nI 3)) (show decode cX10_liesLeft 26 = .ok (.iconst 3, 1) by decide +kernel) (by decide) ?_
    refine X_vI (rc' := 0) (rs' := 0) (as := [.int _, .int _]) mv_X10_83 (show decode cX10_liesLeft 27 = .ok (.invokevirtual 83, 3) by decide +kernel) (by decide) (Nat.le_of_ble_eq_true rfl) (Nat.le_of_ble_eq_true rfl) rfl rfl (Nat.le_of_ble_eq_true rfl) (rcvD s6 (by decide) rfl) (kX10_point w) (fun E h hk => hk.elim) (fun r9 h8 w => ?_)
    refine X_if_ne (tgt := 37) (show decode cX10_liesLeft 30 = .ok (.ifCond .ne 7, 3) by decide +kernel) (by decide) ⟨fun c10 => ?_, fun c10 => ?_⟩
    · have w := w.1 c10
      refine X_iconst (v := (nI 0)) (show decode cX10_liesLeft 37 = .ok (.iconst 0, 1) by decide +kernel) (by decide) ?_
      exact X_iret ⟨(show decode cX10_liesLeft 38 = .ok (.ireturn, 1) by decide +kernel), .boolean, rfl, (by decide)⟩ ⟨_, rfl, w⟩
    · have w := w.2 c10
      refine X_iconst (v := (nI 1)) (show decode cX10_liesLeft 33 = .ok (.iconst 1, 1) by decide +kernel) (by decide) ?_
      refine X_goto (tgt := 38) (show decode cX10_liesLeft 34 = .ok (.goto 4, 3) by decide +kernel) (by decide) ?_
      exact X_iret ⟨(show decode cX10_liesLeft 38 = .ok (.ireturn, 1) by decide +kernel), .boolean, rfl, (by decide)⟩ ⟨_, rfl, w⟩
set_option maxRecDepth 100000 in
set_option maxHeartbeats 4000000 in
theorem kX10_liesLeft {a0 : Nat} {a1 : Int32} {h : AH} {K : Int32 → AH → Prop} (w : wX10_liesLeft a0 a1 h K) : Cn mX10_liesLeft (cwd mX10_liesLeft) 3 0 0 [.ref a0, .int a1] h (KI K) T0 := by
  refine Cn_of (by decide +kernel) rfl (Nat.le_of_ble_eq_true rfl) ?_
  show X mX10_liesLeft 3 (KI K) T0 0 0 0 [(0, .ref a0), (1, .int a1)] [] h
  unfold wX10_liesLeft at w
  refine X_aload_n (j := 0) (show decode cX10_liesLeft 0 = .ok (.aload_n 0, 1) by decide +kernel) rfl rfl ?_
  refine X_aload_n (j := 0) (show decode cX10_liesLeft 1 = .ok (.aload_n 0, 1) by decide +kernel) rfl rfl ?_
  refine X_iload_n (j := 1) (show decode cX10_liesLeft 2 = .ok (.iload_n 1, 1) by decide +kernel) rfl rfl ?_
  obtain ⟨s11, w⟩ := w
  refine X_vI (rc' := 0) (rs' := 0) (as := [.int _]) mv_X10_151 (show decode cX10_liesLeft 3 = .ok (.invokevirtual 151, 3) by decide +kernel) (by decide) (Nat.le_of_ble_eq_true rfl) (Nat.le_of_ble_eq_true rfl) rfl rfl (Nat.le_of_ble_eq_true rfl) (rcvD s11 (by decide) rfl) (kX10_isPoint w) (fun E h hk => hk.elim) (fun r2 h1 w => ?_)
  refine X_if_eq (tgt := 13) (show decode cX10_liesLeft 6 = .ok (.ifCond .eq 7, 3) by decide +kernel) (by decide) ⟨fun c3 => ?_, fun c3 => ?_⟩
  · have w := w.1 c3
    refine X_iconst (v := (nI 1)) (show decode cX10_liesLeft 13 = .ok (.iconst 1, 1) by decide +kernel) (by decide) ?_
    exact kX10_liesLeft_J14  _ _ _ _ _ w
  · have w := w.2 c3
    refine X_iconst (v := (nI 0)) (show decode cX10_liesLeft 9 = .ok (.iconst 0, 1) by decide +kernel) (by decide) ?_
    refine X_goto (tgt := 14) (show decode cX10_liesLeft 10 = .ok (.goto 4, 3) by decide +kernel) (by decide) ?_
    exact kX10_liesLeft_J14  _ _ _ _ _ w
set_option maxRecDepth 100000 in
set_option maxHeartbeats 4000000 in
theorem kX10_lockedBy_J27 {K : Int32 → AH → Prop}   (x0 : Nat) (x1 : Int32) (y0 : Nat) (y1 : Int32) (h : AH) (w : wX10_lockedBy_J27 K  x0 x1 y0 y1 h) : X mX10_lockedBy 3 (KI K) T0 0 0 27 [(0, .ref x0), (1, .int x1)] [.int y1, .ref y0] h := by
  unfold wX10_lockedBy_J27 at w
  obtain ⟨s7, w⟩ := w
  refine X_putI fp_X10_56 (show decode cX10_lockedBy 27 = .ok (.putfield 56, 3) by decide +kernel) (fun z => nomatch z) s7 rfl rfl ?_
  have w := w _ rfl
  refine X_aload_n (j := 0) (show decode cX10_lockedBy 30 = .ok (.aload_n 0, 1) by decide +kernel) rfl rfl ?_
  obtain ⟨s9, w⟩ := w
  refine X_getI fl_X10_56 (show decode cX10_lockedBy 31 = .ok (.getfield 56, 3) by decide +kernel) s9 ?_
  refine X_if_le (tgt := 41) (show decode cX10_lockedBy 34 = .ok (.ifCond .le 7, 3) by decide +kernel) (by decide) ⟨fun c10 => ?_, fun c10 => ?_⟩
  · have w := w.1 c10
    refine X_aload_n (j := 0) (show decode cX10_lockedBy 41 = .ok (.aload_n 0, 1) by decide +kernel) rfl rfl ?_
    refine X_iload_n (j := 1) (show decode cX10_lockedBy 42 = .ok (.iload_n 1, 1) by decide +kernel) rfl rfl ?_
    refine X_iconst (v := (nI 4)) (show decode cX10_lockedBy 43 = .ok (.iconst 4, 1) by decide +kernel) (by decide) ?_
    refine X_vI (rc' := 0) (rs' := 0) (as := [.int _, .int _]) mv_X10_83 (show decode cX10_lockedBy 44 = .ok (.invokevirtual 83, 3) by decide +kernel) (by decide) (Nat.le_of_ble_eq_true rfl) (Nat.le_of_ble_eq_true rfl) rfl rfl (Nat.le_of_ble_eq_true rfl) (rcvD s9 (by decide) rfl) (kX10_point w) (fun E h hk => hk.elim) (fun r12 h11 w => ?_)
    refine X_iconst (v := (nI 1)) (show decode cX10_lockedBy 47 = .ok (.iconst 1, 1) by decide +kernel) (by decide) ?_
    refine X_isub (show decode cX10_lockedBy 48 = .ok (.isub, 1) by decide +kernel) ?_
    exact X_iret ⟨(show decode cX10_lockedBy 49 = .ok (.ireturn, 1) by decide +kernel), .int, rfl, rfl⟩ ⟨_, rfl, w⟩
  · have w := w.2 c10
    refine X_iconst (v := (nI 0)) (show decode cX10_lockedBy 37 = .ok (.iconst 0, 1) by decide +kernel) (by decide) ?_
    refine X_goto (tgt := 49) (show decode cX10_lockedBy 38 = .ok (.goto 11, 3) by decide +kernel) (by decide) ?_
    exact X_iret ⟨(show decode cX10_lockedBy 49 = .ok (.ireturn, 1) by decide +kernel), .int, rfl, rfl⟩ ⟨_, rfl, w⟩
set_option maxRecDepth 100000 in
set_option maxHeartbeats 4000000 in
theorem kX10_lockedBy {a0 : Nat} {a1 : Int32} {h : AH} {K : Int32 → AH → Prop} (w : wX10_lockedBy a0 a1 h K) : Cn mX10_lockedBy (cwd mX10_lockedBy) 3 0 0 [.ref a0, .int a1] h (KI K) T0 := by
  refine Cn_of (by decide +kernel) rfl (Nat.le_of_ble_eq_true rfl) ?_
  show X mX10_lockedBy 3 (KI K) T0 0 0 0 [(0, .ref a0), (1, .int a1)] [] h
  unfold wX10_lockedBy at w
  refine X_aload_n (j := 0) (show decode cX10_lockedBy 0 = .ok (.aload_n 0, 1) by decide +kernel) rfl rfl ?_
  refine X_aload_n (j := 0) (show decode cX10_lockedBy 1 = .ok (.aload_n 0, 1) by decide +kernel) rfl rfl ?_
  refine X_iload_n (j := 1) (show decode cX10_lockedBy 2 = .ok (.iload_n 1, 1) by decide +kernel) rfl rfl ?_
  obtain ⟨s14, w⟩ := w
  refine X_vI (rc' := 0) (rs' := 0) (as := [.int _]) mv_X10_151 (show decode cX10_lockedBy 3 = .ok (.invokevirtual 151, 3) by decide +kernel) (by decide) (Nat.le_of_ble_eq_true rfl) (Nat.le_of_ble_eq_true rfl) rfl rfl (Nat.le_of_ble_eq_true rfl) (rcvD s14 (by decide) rfl) (kX10_isPoint w) (fun E h hk => hk.elim) (fun r2 h1 w => ?_)
  refine X_if_ne (tgt := 13) (show decode cX10_lockedBy 6 = .ok (.ifCond .ne 7, 3) by decide +kernel) (by decide) ⟨fun c3 => ?_, fun c3 => ?_⟩
  · have w := w.1 c3
    refine X_aload_n (j := 0) (show decode cX10_lockedBy 13 = .ok (.aload_n 0, 1) by decide +kernel) rfl rfl ?_
    refine X_iload_n (j := 1) (show decode cX10_lockedBy 14 = .ok (.iload_n 1, 1) by decide +kernel) rfl rfl ?_
    refine X_iconst (v := (nI 4)) (show decode cX10_lockedBy 15 = .ok (.iconst 4, 1) by decide +kernel) (by decide) ?_
    obtain ⟨s13, w⟩ := w
    refine X_vI (rc' := 0) (rs' := 0) (as := [.int _, .int _]) mv_X10_83 (show decode cX10_lockedBy 16 = .ok (.invokevirtual 83, 3) by decide +kernel) (by decide) (Nat.le_of_ble_eq_true rfl) (Nat.le_of_ble_eq_true rfl) rfl rfl (Nat.le_of_ble_eq_true rfl) (rcvD s13 (by decide) rfl) (kX10_point w) (fun E h hk => hk.elim) (fun r5 h4 w => ?_)
    refine X_if_ne (tgt := 26) (show decode cX10_lockedBy 19 = .ok (.ifCond .ne 7, 3) by decide +kernel) (by decide) ⟨fun c6 => ?_, fun c6 => ?_⟩
    · have w := w.1 c6
      refine X_iconst (v := (nI 0)) (show decode cX10_lockedBy 26 = .ok (.iconst 0, 1) by decide +kernel) (by decide) ?_
      exact kX10_lockedBy_J27  _ _ _ _ _ w
    · have w := w.2 c6
      refine X_iconst (v := (nI 2)) (show decode cX10_lockedBy 22 = .ok (.iconst 2, 1) by decide +kernel) (by decide) ?_
      refine X_goto (tgt := 27) (show decode cX10_lockedBy 23 = .ok (.goto 4, 3) by decide +kernel) (by decide) ?_
      exact kX10_lockedBy_J27  _ _ _ _ _ w
  · have w := w.2 c3
    refine X_iconst (v := (nI 1)) (show decode cX10_lockedBy 9 = .ok (.iconst 1, 1) by decide +kernel) (by decide) ?_
    refine X_goto (tgt := 27) (show decode cX10_lockedBy 10 = .ok (.goto 17, 3) by decide +kernel) (by decide) ?_
    exact kX10_lockedBy_J27  _ _ _ _ _ w
set_option maxRecDepth 100000 in
set_option maxHeartbeats 4000000 in
theorem kX10_arePlaces_J22 {K : Int32 → AH → Prop}   (x0 : Nat) (y0 : Nat) (y1 : Int32) (h : AH) (w : wX10_arePlaces_J22 K  x0 y0 y1 h) : X mX10_arePlaces 3 (KI K) T0 0 0 22 [(0, .ref x0)] [.int y1, .ref y0] h := by
  unfold wX10_arePlaces_J22 at w
  obtain ⟨s4, w⟩ := w
  refine X_putI fp_X10_56 (show decode cX10_arePlaces 22 = .ok (.putfield 56, 3) by decide +kernel) (fun z => nomatch z) s4 rfl rfl ?_
  have w := w _ rfl
  refine X_aload_n (j := 0) (show decode cX10_arePlaces 25 = .ok (.aload_n 0, 1) by decide +kernel) rfl rfl ?_
  obtain ⟨s6, w⟩ := w
  refine X_getI fl_X10_56 (show decode cX10_arePlaces 26 = .ok (.getfield 56, 3) by decide +kernel) s6 ?_
  refine X_if_ne (tgt := 36) (show decode cX10_arePlaces 29 = .ok (.ifCond .ne 7, 3) by decide +kernel) (by decide) ⟨fun c7 => ?_, fun c7 => ?_⟩
  · have w := w.1 c7
    refine X_iconst (v := (nI 0)) (show decode cX10_arePlaces 36 = .ok (.iconst 0, 1) by decide +kernel) (by decide) ?_
    exact X_iret ⟨(show decode cX10_arePlaces 37 = .ok (.ireturn, 1) by decide +kernel), .boolean, rfl, (by decide)⟩ ⟨_, rfl, w⟩
  · have w := w.2 c7
    refine X_iconst (v := (nI 1)) (show decode cX10_arePlaces 32 = .ok (.iconst 1, 1) by decide +kernel) (by decide) ?_
    refine X_goto (tgt := 37) (show decode cX10_arePlaces 33 = .ok (.goto 4, 3) by decide +kernel) (by decide) ?_
    exact X_iret ⟨(show decode cX10_arePlaces 37 = .ok (.ireturn, 1) by decide +kernel), .boolean, rfl, (by decide)⟩ ⟨_, rfl, w⟩
set_option maxRecDepth 100000 in
set_option maxHeartbeats 4000000 in
theorem kX10_arePlaces_J21 {K : Int32 → AH → Prop}   (x0 : Nat) (y0 : Nat) (h : AH) (w : wX10_arePlaces_J21 K  x0 y0 h) : X mX10_arePlaces 3 (KI K) T0 0 0 21 [(0, .ref x0)] [.ref y0] h := by
  unfold wX10_arePlaces_J21 at w
  refine X_iconst (v := (nI 1)) (show decode cX10_arePlaces 21 = .ok (.iconst 1, 1) by decide +kernel) (by decide) ?_
  exact kX10_arePlaces_J22  _ _ _ _ w
set_option maxRecDepth 100000 in
set_option maxHeartbeats 4000000 in
theorem kX10_arePlaces {a0 : Nat} {a1 : Int32} {a2 : Int32} {h : AH} {K : Int32 → AH → Prop} (w : wX10_arePlaces a0 a1 a2 h K) : Cn mX10_arePlaces (cwd mX10_arePlaces) 3 0 0 [.ref a0, .int a1, .int a2] h (KI K) T0 := by
  refine Cn_of (by decide +kernel) rfl (Nat.le_of_ble_eq_true rfl) ?_
  show X mX10_arePlaces 3 (KI K) T0 0 0 0 [(0, .ref a0), (1, .int a1), (2, .int a2)] [] h
  unfold wX10_arePlaces at w
  refine X_aload_n (j := 0) (show decode cX10_arePlaces 0 = .ok (.aload_n 0, 1) by decide +kernel) rfl rfl ?_
  refine X_aload_n (j := 0) (show decode cX10_arePlaces 1 = .ok (.aload_n 0, 1) by decide +kernel) rfl rfl ?_
  refine X_iload_n (j := 1) (show decode cX10_arePlaces 2 = .ok (.iload_n 1, 1) by decide +kernel) rfl rfl ?_
  obtain ⟨s12, w⟩ := w
  refine X_vI (rc' := 0) (rs' := 0) (as := [.int _]) mv_X10_144 (show decode cX10_arePlaces 3 = .ok (.invokevirtual 144, 3) by decide +kernel) (by decide) (Nat.le_of_ble_eq_true rfl) (Nat.le_of_ble_eq_true rfl) rfl rfl (Nat.le_of_ble_eq_true rfl) (rcvD s12 (by decide) rfl) (kX10_isBlock w) (fun E h hk => hk.elim) (fun r2 h1 w => ?_)
  refine X_if_eq (tgt := 21) (show decode cX10_arePlaces 6 = .ok (.ifCond .eq 15, 3) by decide +kernel) (by decide) ⟨fun c3 => ?_, fun c3 => ?_⟩
  · have w := w.1 c3
    refine X_pick (ls' := [(0, .ref _)]) [0] rfl ?_
    exact kX10_arePlaces_J21  _ _ _ w
  · have w := w.2 c3
    refine X_aload_n (j := 0) (show decode cX10_arePlaces 9 = .ok (.aload_n 0, 1) by decide +kernel) rfl rfl ?_
    refine X_iload_n (j := 2) (show decode cX10_arePlaces 10 = .ok (.iload_n 2, 1) by decide +kernel) rfl rfl ?_
    obtain ⟨s11, w⟩ := w
    refine X_vI (rc' := 0) (rs' := 0) (as := [.int _]) mv_X10_144 (show decode cX10_arePlaces 11 = .ok (.invokevirtual 144, 3) by decide +kernel) (by decide) (Nat.le_of_ble_eq_true rfl) (Nat.le_of_ble_eq_true rfl) rfl rfl (Nat.le_of_ble_eq_true rfl) (rcvD s11 (by decide) rfl) (kX10_isBlock w) (fun E h hk => hk.elim) (fun r9 h8 w => ?_)
    refine X_if_eq (tgt := 21) (show decode cX10_arePlaces 14 = .ok (.ifCond .eq 7, 3) by decide +kernel) (by decide) ⟨fun c10 => ?_, fun c10 => ?_⟩
    · have w := w.1 c10
      refine X_pick (ls' := [(0, .ref _)]) [0] rfl ?_
      exact kX10_arePlaces_J21  _ _ _ w
    · have w := w.2 c10
      refine X_iconst (v := (nI 0)) (show decode cX10_arePlaces 17 = .ok (.iconst 0, 1) by decide +kernel) (by decide) ?_
      refine X_goto (tgt := 22) (show decode cX10_arePlaces 18 = .ok (.goto 4, 3) by decide +kernel) (by decide) ?_
      refine X_pick (ls' := [(0, .ref _)]) [0] rfl ?_
      exact kX10_arePlaces_J22  _ _ _ _ w
