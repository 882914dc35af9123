/-- the law itself, with its 31 locals -/
abbrev mZ_law : Mt := (yL_law, cL_law, 31, some (.boolean), [])
set_option maxRecDepth 100000 in
set_option maxHeartbeats 4000000 in
theorem kL_law_J892 {rc0 rs0 : Nat} {K : Int32 → AH → Prop} {c31 : Nat → Nat → Nat → Int32 → Int32 → Int32 → Int32 → AH → Prop} (hc31 : ∀ x0 x1 x2 x3 x4 x5 x6 h, c31 x0 x1 x2 x3 x4 x5 x6 h → X mZ_law 22 (KI K) T0 rc0 rs0 31 [(0, .ref x0), (1, .ref x1), (2, .ref x2), (3, .int x3), (4, .int x4), (5, .int x5), (6, .int x6)] [] h) (x0 : Nat) (x1 : Nat) (x2 : Nat) (x3 : Int32) (x4 : Int32) (x5 : Int32) (x6 : Int32) (x7 : Int64) (x27 : Int32) (y0 : Nat) (y1 : Nat) (y2 : Int32) (y3 : Int32) (y4 : Int32) (h : AH) (w : wL_law_J892 K c31 x0 x1 x2 x3 x4 x5 x6 x7 x27 y0 y1 y2 y3 y4 h) : X mZ_law 22 (KI K) T0 (rc0 + 1660) (rs0 + 80406) 892 [(0, .ref x0), (1, .ref x1), (2, .ref x2), (3, .int x3), (4, .int x4), (5, .int x5), (6, .int x6), (7, .long x7), (27, .int x27)] [.int y4, .int y3, .int y2, .ref y1, .ref y0] h := by
  unfold wL_law_J892 at w
  refine X_sI (rc' := (rc0 + 213)) (rs' := (rs0 + 1278)) (as := [.ref _, .ref _, .int _, .int _, .int _]) ms_L_247 (show decode cL_law 892 = .ok (.invokestatic 247, 3) by decide +kernel) (by decide) (by omega) (by omega) rfl rfl (Nat.le_of_ble_eq_true rfl) (kL_isWhole w) (fun E h hk => hk.elim) (fun r76 h75 w => ?_)
  refine X_if_ne (tgt := 900) (show decode cL_law 895 = .ok (.ifCond .ne 5, 3) by decide +kernel) (by decide) ⟨fun c77 => ?_, fun c77 => ?_⟩
  · have w := w.1 c77
    refine X_iload (j := 8) (show decode cL_law 900 = .ok (.iload 27, 2) by decide +kernel) rfl ?_
    refine X_if_ne (tgt := 917) (show decode cL_law 902 = .ok (.ifCond .ne 15, 3) by decide +kernel) (by decide) ⟨fun c78 => ?_, fun c78 => ?_⟩
    · have w := w.1 c78
      refine X_iinc (j := 3) (v := _ + (nI 1)) (ls' := [(0, .ref _), (1, .ref _), (2, .ref _), (3, .int _), (4, .int _), (5, .int _), (6, .int _), (7, .long _), (27, .int _)]) (show decode cL_law 917 = .ok (.iinc 3 1, 3) by decide +kernel) rfl rfl (Nat.le_of_ble_eq_true rfl) rfl ?_
      refine X_aload_n (j := 2) (show decode cL_law 920 = .ok (.aload_n 2, 1) by decide +kernel) rfl rfl ?_
      refine X_iload_n (j := 3) (show decode cL_law 921 = .ok (.iload_n 3, 1) by decide +kernel) rfl rfl ?_
      refine X_aload_n (j := 1) (show decode cL_law 922 = .ok (.aload_n 1, 1) by decide +kernel) rfl rfl ?_
      refine X_sL (rc' := rc0) (rs' := rs0) (as := [.ref _]) ms_L_188 (show decode cL_law 923 = .ok (.invokestatic 188, 3) by decide +kernel) (by decide) (by omega) (by omega) rfl rfl (Nat.le_of_ble_eq_true rfl) (kL_sum w) (fun E h hk => hk.elim) (fun r80 h79 w => ?_)
      obtain ⟨s81, w⟩ := w
      obtain ⟨s82, w⟩ := w
      obtain ⟨s83, w⟩ := w
      refine X_last (show decode cL_law 926 = .ok (.lastore, 1) by decide +kernel) (isA_eq s81) s82 s83 ?_
      have w := w _ rfl
      refine X_iinc (j := 6) (v := _ + (nI 1)) (ls' := [(0, .ref _), (1, .ref _), (2, .ref _), (3, .int _), (4, .int _), (5, .int _), (6, .int _), (7, .long _), (27, .int _)]) (show decode cL_law 927 = .ok (.iinc 6 1, 3) by decide +kernel) rfl rfl (Nat.le_of_ble_eq_true rfl) rfl ?_
      refine X_goto (tgt := 31) (show decode cL_law 930 = .ok (.goto (-899), 3) by decide +kernel) (by decide) ?_
      refine X_pick (ls' := [(0, .ref _), (1, .ref _), (2, .ref _), (3, .int _), (4, .int _), (5, .int _), (6, .int _)]) [0, 1, 2, 3, 4, 5, 6] rfl ?_
      exact hc31 _ _ _ _ _ _ _ _ w
    · have w := w.2 c78
      refine X_aload_n (j := 1) (show decode cL_law 905 = .ok (.aload_n 1, 1) by decide +kernel) rfl rfl ?_
      refine X_sL (rc' := rc0) (rs' := rs0) (as := [.ref _]) ms_L_188 (show decode cL_law 906 = .ok (.invokestatic 188, 3) by decide +kernel) (by decide) (by omega) (by omega) rfl rfl (Nat.le_of_ble_eq_true rfl) (kL_sum w) (fun E h hk => hk.elim) (fun r86 h85 w => ?_)
      refine X_lload (j := 7) (show decode cL_law 909 = .ok (.lload 7, 2) by decide +kernel) rfl ?_
      refine X_lcmp (show decode cL_law 911 = .ok (.lcmp, 1) by decide +kernel) ?_
      refine X_if_eq (tgt := 927) (show decode cL_law 912 = .ok (.ifCond .eq 15, 3) by decide +kernel) (by decide) ⟨fun c87 => ?_, fun c87 => ?_⟩
      · have w := w.1 c87
        refine X_iinc (j := 6) (v := _ + (nI 1)) (ls' := [(0, .ref _), (1, .ref _), (2, .ref _), (3, .int _), (4, .int _), (5, .int _), (6, .int _), (7, .long _), (27, .int _)]) (show decode cL_law 927 = .ok (.iinc 6 1, 3) by decide +kernel) rfl rfl (Nat.le_of_ble_eq_true rfl) rfl ?_
        refine X_goto (tgt := 31) (show decode cL_law 930 = .ok (.goto (-899), 3) by decide +kernel) (by decide) ?_
        refine X_pick (ls' := [(0, .ref _), (1, .ref _), (2, .ref _), (3, .int _), (4, .int _), (5, .int _), (6, .int _)]) [0, 1, 2, 3, 4, 5, 6] rfl ?_
        exact hc31 _ _ _ _ _ _ _ _ w
      · have w := w.2 c87
        refine X_iconst (v := (nI 0)) (show decode cL_law 915 = .ok (.iconst 0, 1) by decide +kernel) (by decide) ?_
        exact X_iret ⟨(show decode cL_law 916 = .ok (.ireturn, 1) by decide +kernel), .boolean, rfl, (by decide)⟩ ⟨_, rfl, w⟩
  · have w := w.2 c77
    refine X_iconst (v := (nI 0)) (show decode cL_law 898 = .ok (.iconst 0, 1) by decide +kernel) (by decide) ?_
    exact X_iret ⟨(show decode cL_law 899 = .ok (.ireturn, 1) by decide +kernel), .boolean, rfl, (by decide)⟩ ⟨_, rfl, w⟩
set_option maxRecDepth 100000 in
set_option maxHeartbeats 4000000 in
theorem kL_law_J862 {rc0 rs0 : Nat} {K : Int32 → AH → Prop} {c31 : Nat → Nat → Nat → Int32 → Int32 → Int32 → Int32 → AH → Prop} (hc31 : ∀ x0 x1 x2 x3 x4 x5 x6 h, c31 x0 x1 x2 x3 x4 x5 x6 h → X mZ_law 22 (KI K) T0 rc0 rs0 31 [(0, .ref x0), (1, .ref x1), (2, .ref x2), (3, .int x3), (4, .int x4), (5, .int x5), (6, .int x6)] [] h) (x0 : Nat) (x1 : Nat) (x2 : Nat) (x3 : Int32) (x4 : Int32) (x5 : Int32) (x6 : Int32) (x7 : Int64) (x27 : Int32) (y0 : Int32) (y1 : Int32) (h : AH) (w : wL_law_J862 K c31 x0 x1 x2 x3 x4 x5 x6 x7 x27 y0 y1 h) : X mZ_law 22 (KI K) T0 (rc0 + 1660) (rs0 + 80406) 862 [(0, .ref x0), (1, .ref x1), (2, .ref x2), (3, .int x3), (4, .int x4), (5, .int x5), (6, .int x6), (7, .long x7), (27, .int x27)] [.int y1, .int y0] h := by
  unfold wL_law_J862 at w
  refine X_iand (show decode cL_law 862 = .ok (.iand, 1) by decide +kernel) ?_
  refine X_istore (ls' := [(0, .ref _), (1, .ref _), (2, .ref _), (3, .int _), (4, .int _), (5, .int _), (6, .int _), (7, .long _), (27, .int _), (29, .int _)]) (show decode cL_law 863 = .ok (.istore 29, 2) by decide +kernel) (by decide) rfl ?_
  refine X_iinc (j := 4) (v := _ + (nI 5)) (ls' := [(0, .ref _), (1, .ref _), (2, .ref _), (3, .int _), (4, .int _), (5, .int _), (6, .int _), (7, .long _), (27, .int _), (29, .int _)]) (show decode cL_law 865 = .ok (.iinc 4 5, 3) by decide +kernel) rfl rfl (Nat.le_of_ble_eq_true rfl) rfl ?_
  refine X_iload (j := 9) (show decode cL_law 868 = .ok (.iload 29, 2) by decide +kernel) rfl ?_
  refine X_if_eq (tgt := 898) (show decode cL_law 870 = .ok (.ifCond .eq 28, 3) by decide +kernel) (by decide) ⟨fun c73 => ?_, fun c73 => ?_⟩
  · have w := w.1 c73
    refine X_iconst (v := (nI 0)) (show decode cL_law 898 = .ok (.iconst 0, 1) by decide +kernel) (by decide) ?_
    exact X_iret ⟨(show decode cL_law 899 = .ok (.ireturn, 1) by decide +kernel), .boolean, rfl, (by decide)⟩ ⟨_, rfl, w⟩
  · have w := w.2 c73
    refine X_aload_n (j := 1) (show decode cL_law 873 = .ok (.aload_n 1, 1) by decide +kernel) rfl rfl ?_
    refine X_aload_n (j := 0) (show decode cL_law 874 = .ok (.aload_n 0, 1) by decide +kernel) rfl rfl ?_
    refine X_iload (j := 4) (show decode cL_law 875 = .ok (.iload 4, 2) by decide +kernel) rfl ?_
    refine X_iload (j := 5) (show decode cL_law 877 = .ok (.iload 5, 2) by decide +kernel) rfl ?_
    refine X_iload (j := 6) (show decode cL_law 879 = .ok (.iload 6, 2) by decide +kernel) rfl ?_
    refine X_iconst (v := (nI 4)) (show decode cL_law 881 = .ok (.iconst 4, 1) by decide +kernel) (by decide) ?_
    refine X_irem (show decode cL_law 882 = .ok (.irem, 1) by decide +kernel) (by decide) ?_
    refine X_iconst (v := (nI 3)) (show decode cL_law 883 = .ok (.iconst 3, 1) by decide +kernel) (by decide) ?_
    refine X_icmp_ne (tgt := 891) (show decode cL_law 884 = .ok (.if_icmp .ne 7, 3) by decide +kernel) (by decide) ⟨fun c74 => ?_, fun c74 => ?_⟩
    · have w := w.1 c74
      refine X_iconst (v := (nI 0)) (show decode cL_law 891 = .ok (.iconst 0, 1) by decide +kernel) (by decide) ?_
      refine X_pick (ls' := [(0, .ref _), (1, .ref _), (2, .ref _), (3, .int _), (4, .int _), (5, .int _), (6, .int _), (7, .long _), (27, .int _)]) [0, 1, 2, 3, 4, 5, 6, 7, 8] rfl ?_
      exact kL_law_J892 hc31 _ _ _ _ _ _ _ _ _ _ _ _ _ _ _ w
    · have w := w.2 c74
      refine X_iconst (v := (nI 1)) (show decode cL_law 887 = .ok (.iconst 1, 1) by decide +kernel) (by decide) ?_
      refine X_goto (tgt := 892) (show decode cL_law 888 = .ok (.goto 4, 3) by decide +kernel) (by decide) ?_
      refine X_pick (ls' := [(0, .ref _), (1, .ref _), (2, .ref _), (3, .int _), (4, .int _), (5, .int _), (6, .int _), (7, .long _), (27, .int _)]) [0, 1, 2, 3, 4, 5, 6, 7, 8] rfl ?_
      exact kL_law_J892 hc31 _ _ _ _ _ _ _ _ _ _ _ _ _ _ _ w
set_option maxRecDepth 100000 in
set_option maxHeartbeats 4000000 in
theorem kL_law_J857 {rc0 rs0 : Nat} {K : Int32 → AH → Prop} {c31 : Nat → Nat → Nat → Int32 → Int32 → Int32 → Int32 → AH → Prop} (hc31 : ∀ x0 x1 x2 x3 x4 x5 x6 h, c31 x0 x1 x2 x3 x4 x5 x6 h → X mZ_law 22 (KI K) T0 rc0 rs0 31 [(0, .ref x0), (1, .ref x1), (2, .ref x2), (3, .int x3), (4, .int x4), (5, .int x5), (6, .int x6)] [] h) (x0 : Nat) (x1 : Nat) (x2 : Nat) (x3 : Int32) (x4 : Int32) (x5 : Int32) (x6 : Int32) (x7 : Int64) (x27 : Int32) (y0 : Int32) (h : AH) (w : wL_law_J857 K c31 x0 x1 x2 x3 x4 x5 x6 x7 x27 y0 h) : X mZ_law 22 (KI K) T0 (rc0 + 1660) (rs0 + 80406) 857 [(0, .ref x0), (1, .ref x1), (2, .ref x2), (3, .int x3), (4, .int x4), (5, .int x5), (6, .int x6), (7, .long x7), (27, .int x27)] [.int y0] h := by
  unfold wL_law_J857 at w
  refine X_iconst (v := (nI 1)) (show decode cL_law 857 = .ok (.iconst 1, 1) by decide +kernel) (by decide) ?_
  refine X_goto (tgt := 862) (show decode cL_law 858 = .ok (.goto 4, 3) by decide +kernel) (by decide) ?_
  exact kL_law_J862 hc31 _ _ _ _ _ _ _ _ _ _ _ _ w
set_option maxRecDepth 100000 in
set_option maxHeartbeats 4000000 in
theorem kL_law_J861 {rc0 rs0 : Nat} {K : Int32 → AH → Prop} {c31 : Nat → Nat → Nat → Int32 → Int32 → Int32 → Int32 → AH → Prop} (hc31 : ∀ x0 x1 x2 x3 x4 x5 x6 h, c31 x0 x1 x2 x3 x4 x5 x6 h → X mZ_law 22 (KI K) T0 rc0 rs0 31 [(0, .ref x0), (1, .ref x1), (2, .ref x2), (3, .int x3), (4, .int x4), (5, .int x5), (6, .int x6)] [] h) (x0 : Nat) (x1 : Nat) (x2 : Nat) (x3 : Int32) (x4 : Int32) (x5 : Int32) (x6 : Int32) (x7 : Int64) (x27 : Int32) (y0 : Int32) (h : AH) (w : wL_law_J861 K c31 x0 x1 x2 x3 x4 x5 x6 x7 x27 y0 h) : X mZ_law 22 (KI K) T0 (rc0 + 1660) (rs0 + 80406) 861 [(0, .ref x0), (1, .ref x1), (2, .ref x2), (3, .int x3), (4, .int x4), (5, .int x5), (6, .int x6), (7, .long x7), (27, .int x27)] [.int y0] h := by
  unfold wL_law_J861 at w
  refine X_iconst (v := (nI 0)) (show decode cL_law 861 = .ok (.iconst 0, 1) by decide +kernel) (by decide) ?_
  exact kL_law_J862 hc31 _ _ _ _ _ _ _ _ _ _ _ _ w
set_option maxRecDepth 100000 in
set_option maxHeartbeats 4000000 in
theorem kL_law_J821 {rc0 rs0 : Nat} {K : Int32 → AH → Prop} {c31 : Nat → Nat → Nat → Int32 → Int32 → Int32 → Int32 → AH → Prop} (hc31 : ∀ x0 x1 x2 x3 x4 x5 x6 h, c31 x0 x1 x2 x3 x4 x5 x6 h → X mZ_law 22 (KI K) T0 rc0 rs0 31 [(0, .ref x0), (1, .ref x1), (2, .ref x2), (3, .int x3), (4, .int x4), (5, .int x5), (6, .int x6)] [] h) (x0 : Nat) (x1 : Nat) (x2 : Nat) (x3 : Int32) (x4 : Int32) (x5 : Int32) (x6 : Int32) (x7 : Int64) (x9 : Int32) (x18 : Int32) (x19 : Int64) (x27 : Int32) (x30 : Int32) (y0 : Int32) (y1 : Int32) (h : AH) (w : wL_law_J821 K c31 x0 x1 x2 x3 x4 x5 x6 x7 x9 x18 x19 x27 x30 y0 y1 h) : X mZ_law 22 (KI K) T0 (rc0 + 1660) (rs0 + 80406) 821 [(0, .ref x0), (1, .ref x1), (2, .ref x2), (3, .int x3), (4, .int x4), (5, .int x5), (6, .int x6), (7, .long x7), (9, .int x9), (18, .int x18), (19, .long x19), (27, .int x27), (30, .int x30)] [.int y1, .int y0] h := by
  unfold wL_law_J821 at w
  refine X_iand (show decode cL_law 821 = .ok (.iand, 1) by decide +kernel) ?_
  refine X_istore (ls' := [(0, .ref _), (1, .ref _), (2, .ref _), (3, .int _), (4, .int _), (5, .int _), (6, .int _), (7, .long _), (9, .int _), (18, .int _), (19, .long _), (27, .int _), (29, .int _), (30, .int _)]) (show decode cL_law 822 = .ok (.istore 29, 2) by decide +kernel) (by decide) rfl ?_
  refine X_iload (j := 12) (show decode cL_law 824 = .ok (.iload 29, 2) by decide +kernel) rfl ?_
  refine X_iload (j := 13) (show decode cL_law 826 = .ok (.iload 30, 2) by decide +kernel) rfl ?_
  refine X_if_ne (tgt := 857) (show decode cL_law 828 = .ok (.ifCond .ne 29, 3) by decide +kernel) (by decide) ⟨fun c72 => ?_, fun c72 => ?_⟩
  · have w := w.1 c72
    refine X_pick (ls' := [(0, .ref _), (1, .ref _), (2, .ref _), (3, .int _), (4, .int _), (5, .int _), (6, .int _), (7, .long _), (27, .int _)]) [0, 1, 2, 3, 4, 5, 6, 7, 11] rfl ?_
    exact kL_law_J857 hc31 _ _ _ _ _ _ _ _ _ _ _ w
  · have w := w.2 c72
    refine X_iload (j := 8) (show decode cL_law 831 = .ok (.iload 9, 2) by decide +kernel) rfl ?_
    refine X_bipush (v := (nI 45)) (show decode cL_law 833 = .ok (.bipush 45, 2) by decide +kernel) (by decide) ?_
    refine X_icmp_gt (tgt := 857) (show decode cL_law 835 = .ok (.if_icmp .gt 22, 3) by decide +kernel) (by decide) ⟨fun c88 => ?_, fun c88 => ?_⟩
    · have w := w.1 c88
      refine X_pick (ls' := [(0, .ref _), (1, .ref _), (2, .ref _), (3, .int _), (4, .int _), (5, .int _), (6, .int _), (7, .long _), (27, .int _)]) [0, 1, 2, 3, 4, 5, 6, 7, 11] rfl ?_
      exact kL_law_J857 hc31 _ _ _ _ _ _ _ _ _ _ _ w
    · have w := w.2 c88
      refine X_aload_n (j := 1) (show decode cL_law 838 = .ok (.aload_n 1, 1) by decide +kernel) rfl rfl ?_
      obtain ⟨s96, w⟩ := w
      refine X_vL (rc' := (rc0 + 1660)) (rs' := (rs0 + 80406)) (as := []) mv_L_217 (show decode cL_law 839 = .ok (.invokevirtual 217, 3) by decide +kernel) (by decide) (by omega) (by omega) rfl rfl (Nat.le_of_ble_eq_true rfl) (rcvD s96 (by decide) rfl) (kX9_totalDelay w) (fun E h hk => hk.elim) (fun r90 h89 w => ?_)
      refine X_lload (j := 10) (show decode cL_law 842 = .ok (.lload 19, 2) by decide +kernel) rfl ?_
      refine X_lcmp (show decode cL_law 844 = .ok (.lcmp, 1) by decide +kernel) ?_
      refine X_if_ne (tgt := 861) (show decode cL_law 845 = .ok (.ifCond .ne 16, 3) by decide +kernel) (by decide) ⟨fun c91 => ?_, fun c91 => ?_⟩
      · have w := w.1 c91
        refine X_pick (ls' := [(0, .ref _), (1, .ref _), (2, .ref _), (3, .int _), (4, .int _), (5, .int _), (6, .int _), (7, .long _), (27, .int _)]) [0, 1, 2, 3, 4, 5, 6, 7, 11] rfl ?_
        exact kL_law_J861 hc31 _ _ _ _ _ _ _ _ _ _ _ w
      · have w := w.2 c91
        refine X_aload_n (j := 1) (show decode cL_law 848 = .ok (.aload_n 1, 1) by decide +kernel) rfl rfl ?_
        obtain ⟨s95, w⟩ := w
        refine X_vI (rc' := (rc0 + 1660)) (rs' := (rs0 + 80406)) (as := []) mv_L_214 (show decode cL_law 849 = .ok (.invokevirtual 214, 3) by decide +kernel) (by decide) (by omega) (by omega) rfl rfl (Nat.le_of_ble_eq_true rfl) (rcvD s95 (by decide) rfl) (kX9_time w) (fun E h hk => hk.elim) (fun r93 h92 w => ?_)
        refine X_iload (j := 9) (show decode cL_law 852 = .ok (.iload 18, 2) by decide +kernel) rfl ?_
        refine X_icmp_ne (tgt := 861) (show decode cL_law 854 = .ok (.if_icmp .ne 7, 3) by decide +kernel) (by decide) ⟨fun c94 => ?_, fun c94 => ?_⟩
        · have w := w.1 c94
          refine X_pick (ls' := [(0, .ref _), (1, .ref _), (2, .ref _), (3, .int _), (4, .int _), (5, .int _), (6, .int _), (7, .long _), (27, .int _)]) [0, 1, 2, 3, 4, 5, 6, 7, 11] rfl ?_
          exact kL_law_J861 hc31 _ _ _ _ _ _ _ _ _ _ _ w
        · have w := w.2 c94
          refine X_pick (ls' := [(0, .ref _), (1, .ref _), (2, .ref _), (3, .int _), (4, .int _), (5, .int _), (6, .int _), (7, .long _), (27, .int _)]) [0, 1, 2, 3, 4, 5, 6, 7, 11] rfl ?_
          exact kL_law_J857 hc31 _ _ _ _ _ _ _ _ _ _ _ w
set_option maxRecDepth 100000 in
set_option maxHeartbeats 4000000 in
theorem kL_law_J816 {rc0 rs0 : Nat} {K : Int32 → AH → Prop} {c31 : Nat → Nat → Nat → Int32 → Int32 → Int32 → Int32 → AH → Prop} (hc31 : ∀ x0 x1 x2 x3 x4 x5 x6 h, c31 x0 x1 x2 x3 x4 x5 x6 h → X mZ_law 22 (KI K) T0 rc0 rs0 31 [(0, .ref x0), (1, .ref x1), (2, .ref x2), (3, .int x3), (4, .int x4), (5, .int x5), (6, .int x6)] [] h) (x0 : Nat) (x1 : Nat) (x2 : Nat) (x3 : Int32) (x4 : Int32) (x5 : Int32) (x6 : Int32) (x7 : Int64) (x9 : Int32) (x18 : Int32) (x19 : Int64) (x27 : Int32) (x30 : Int32) (y0 : Int32) (h : AH) (w : wL_law_J816 K c31 x0 x1 x2 x3 x4 x5 x6 x7 x9 x18 x19 x27 x30 y0 h) : X mZ_law 22 (KI K) T0 (rc0 + 1660) (rs0 + 80406) 816 [(0, .ref x0), (1, .ref x1), (2, .ref x2), (3, .int x3), (4, .int x4), (5, .int x5), (6, .int x6), (7, .long x7), (9, .int x9), (18, .int x18), (19, .long x19), (27, .int x27), (30, .int x30)] [.int y0] h := by
  unfold wL_law_J816 at w
  refine X_iconst (v := (nI 1)) (show decode cL_law 816 = .ok (.iconst 1, 1) by decide +kernel) (by decide) ?_
  refine X_goto (tgt := 821) (show decode cL_law 817 = .ok (.goto 4, 3) by decide +kernel) (by decide) ?_
  exact kL_law_J821 hc31 _ _ _ _ _ _ _ _ _ _ _ _ _ _ _ _ w
set_option maxRecDepth 100000 in
set_option maxHeartbeats 4000000 in
theorem kL_law_J820 {rc0 rs0 : Nat} {K : Int32 → AH → Prop} {c31 : Nat → Nat → Nat → Int32 → Int32 → Int32 → Int32 → AH → Prop} (hc31 : ∀ x0 x1 x2 x3 x4 x5 x6 h, c31 x0 x1 x2 x3 x4 x5 x6 h → X mZ_law 22 (KI K) T0 rc0 rs0 31 [(0, .ref x0), (1, .ref x1), (2, .ref x2), (3, .int x3), (4, .int x4), (5, .int x5), (6, .int x6)] [] h) (x0 : Nat) (x1 : Nat) (x2 : Nat) (x3 : Int32) (x4 : Int32) (x5 : Int32) (x6 : Int32) (x7 : Int64) (x9 : Int32) (x18 : Int32) (x19 : Int64) (x27 : Int32) (x30 : Int32) (y0 : Int32) (h : AH) (w : wL_law_J820 K c31 x0 x1 x2 x3 x4 x5 x6 x7 x9 x18 x19 x27 x30 y0 h) : X mZ_law 22 (KI K) T0 (rc0 + 1660) (rs0 + 80406) 820 [(0, .ref x0), (1, .ref x1), (2, .ref x2), (3, .int x3), (4, .int x4), (5, .int x5), (6, .int x6), (7, .long x7), (9, .int x9), (18, .int x18), (19, .long x19), (27, .int x27), (30, .int x30)] [.int y0] h := by
  unfold wL_law_J820 at w
  refine X_iconst (v := (nI 0)) (show decode cL_law 820 = .ok (.iconst 0, 1) by decide +kernel) (by decide) ?_
  exact kL_law_J821 hc31 _ _ _ _ _ _ _ _ _ _ _ _ _ _ _ _ w
set_option maxRecDepth 100000 in
set_option maxHeartbeats 4000000 in
theorem kL_law_J739 {rc0 rs0 : Nat} {K : Int32 → AH → Prop} {c31 : Nat → Nat → Nat → Int32 → Int32 → Int32 → Int32 → AH → Prop} (hc31 : ∀ x0 x1 x2 x3 x4 x5 x6 h, c31 x0 x1 x2 x3 x4 x5 x6 h → X mZ_law 22 (KI K) T0 rc0 rs0 31 [(0, .ref x0), (1, .ref x1), (2, .ref x2), (3, .int x3), (4, .int x4), (5, .int x5), (6, .int x6)] [] h) (x0 : Nat) (x1 : Nat) (x2 : Nat) (x3 : Int32) (x4 : Int32) (x5 : Int32) (x6 : Int32) (x7 : Int64) (x9 : Int32) (x11 : Int32) (x12 : Int32) (x14 : Int32) (x15 : Int32) (x16 : Int32) (x18 : Int32) (x19 : Int64) (x23 : Int32) (x27 : Int32) (x30 : Int32) (y0 : Int32) (y1 : Int32) (h : AH) (w : wL_law_J739 K c31 x0 x1 x2 x3 x4 x5 x6 x7 x9 x11 x12 x14 x15 x16 x18 x19 x23 x27 x30 y0 y1 h) : X mZ_law 22 (KI K) T0 (rc0 + 1664) (rs0 + 80430) 739 [(0, .ref x0), (1, .ref x1), (2, .ref x2), (3, .int x3), (4, .int x4), (5, .int x5), (6, .int x6), (7, .long x7), (9, .int x9), (11, .int x11), (12, .int x12), (14, .int x14), (15, .int x15), (16, .int x16), (18, .int x18), (19, .long x19), (23, .int x23), (27, .int x27), (30, .int x30)] [.int y1, .int y0] h := by
  unfold wL_law_J739 at w
  refine X_iand (show decode cL_law 739 = .ok (.iand, 1) by decide +kernel) ?_
  refine X_istore (ls' := [(0, .ref _), (1, .ref _), (2, .ref _), (3, .int _), (4, .int _), (5, .int _), (6, .int _), (7, .long _), (9, .int _), (11, .int _), (12, .int _), (14, .int _), (15, .int _), (16, .int _), (18, .int _), (19, .long _), (23, .int _), (27, .int _), (29, .int _), (30, .int _)]) (show decode cL_law 740 = .ok (.istore 29, 2) by decide +kernel) (by decide) rfl ?_
  refine X_iload (j := 18) (show decode cL_law 742 = .ok (.iload 29, 2) by decide +kernel) rfl ?_
  refine X_iload (j := 19) (show decode cL_law 744 = .ok (.iload 30, 2) by decide +kernel) rfl ?_
  refine X_if_eq (tgt := 816) (show decode cL_law 746 = .ok (.ifCond .eq 70, 3) by decide +kernel) (by decide) ⟨fun c71 => ?_, fun c71 => ?_⟩
  · have w := w.1 c71
    refine X_room (rc' := (rc0 + 1660)) (rs' := (rs0 + 80406)) (by omega) (by omega) ?_
    refine X_pick (ls' := [(0, .ref _), (1, .ref _), (2, .ref _), (3, .int _), (4, .int _), (5, .int _), (6, .int _), (7, .long _), (9, .int _), (18, .int _), (19, .long _), (27, .int _), (30, .int _)]) [0, 1, 2, 3, 4, 5, 6, 7, 8, 14, 15, 17, 19] rfl ?_
    exact kL_law_J816 hc31 _ _ _ _ _ _ _ _ _ _ _ _ _ _ _ w
  · have w := w.2 c71
    refine X_iload (j := 10) (show decode cL_law 749 = .ok (.iload 12, 2) by decide +kernel) rfl ?_
    refine X_iconst (v := (nI 1)) (show decode cL_law 751 = .ok (.iconst 1, 1) by decide +kernel) (by decide) ?_
    refine X_icmp_ne (tgt := 816) (show decode cL_law 752 = .ok (.if_icmp .ne 64, 3) by decide +kernel) (by decide) ⟨fun c97 => ?_, fun c97 => ?_⟩
    · have w := w.1 c97
      refine X_room (rc' := (rc0 + 1660)) (rs' := (rs0 + 80406)) (by omega) (by omega) ?_
      refine X_pick (ls' := [(0, .ref _), (1, .ref _), (2, .ref _), (3, .int _), (4, .int _), (5, .int _), (6, .int _), (7, .long _), (9, .int _), (18, .int _), (19, .long _), (27, .int _), (30, .int _)]) [0, 1, 2, 3, 4, 5, 6, 7, 8, 14, 15, 17, 19] rfl ?_
      exact kL_law_J816 hc31 _ _ _ _ _ _ _ _ _ _ _ _ _ _ _ w
    · have w := w.2 c97
      refine X_iload (j := 12) (show decode cL_law 755 = .ok (.iload 15, 2) by decide +kernel) rfl ?_
      refine X_iload (j := 11) (show decode cL_law 757 = .ok (.iload 14, 2) by decide +kernel) rfl ?_
      refine X_icmp_gt (tgt := 774) (show decode cL_law 759 = .ok (.if_icmp .gt 15, 3) by decide +kernel) (by decide) ⟨fun c98 => ?_, fun c98 => ?_⟩
      · have w := w.1 c98
        refine X_aload_n (j := 1) (show decode cL_law 774 = .ok (.aload_n 1, 1) by decide +kernel) rfl rfl ?_
        refine X_iload (j := 9) (show decode cL_law 775 = .ok (.iload 11, 2) by decide +kernel) rfl ?_
        refine X_sH (rc' := (rc0 + 1663)) (rs' := (rs0 + 80424)) (as := [.ref _, .int _]) msh_L_203 (show decode cL_law 777 = .ok (.invokestatic 203, 3) by decide +kernel) (by decide) (by omega) (by omega) rfl rfl (Nat.le_of_ble_eq_true rfl) (kL_hasRoute w) (fun r100 h99 w => ?_)
        refine X_iconst (v := (nI 1)) (show decode cL_law 780 = .ok (.iconst 1, 1) by decide +kernel) (by decide) ?_
        refine X_icmp_ne (tgt := 820) (show decode cL_law 781 = .ok (.if_icmp .ne 39, 3) by decide +kernel) (by decide) ⟨fun c101 => ?_, fun c101 => ?_⟩
        · have w := w.1 c101
          refine X_room (rc' := (rc0 + 1660)) (rs' := (rs0 + 80406)) (by omega) (by omega) ?_
          refine X_pick (ls' := [(0, .ref _), (1, .ref _), (2, .ref _), (3, .int _), (4, .int _), (5, .int _), (6, .int _), (7, .long _), (9, .int _), (18, .int _), (19, .long _), (27, .int _), (30, .int _)]) [0, 1, 2, 3, 4, 5, 6, 7, 8, 14, 15, 17, 19] rfl ?_
          exact kL_law_J820 hc31 _ _ _ _ _ _ _ _ _ _ _ _ _ _ _ w
        · have w := w.2 c101
          refine X_aload_n (j := 1) (show decode cL_law 784 = .ok (.aload_n 1, 1) by decide +kernel) rfl rfl ?_
          refine X_iload (j := 9) (show decode cL_law 785 = .ok (.iload 11, 2) by decide +kernel) rfl ?_
          refine X_sH (rc' := (rc0 + 1661)) (rs' := (rs0 + 80412)) (as := [.ref _, .int _]) msh_L_207 (show decode cL_law 787 = .ok (.invokestatic 207, 3) by decide +kernel) (by decide) (by omega) (by omega) rfl rfl (Nat.le_of_ble_eq_true rfl) (kL_minutesUntilArrival w) (fun r103 h102 w => ?_)
          refine X_iload (j := 12) (show decode cL_law 790 = .ok (.iload 15, 2) by decide +kernel) rfl ?_
          refine X_iload (j := 11) (show decode cL_law 792 = .ok (.iload 14, 2) by decide +kernel) rfl ?_
          refine X_isub (show decode cL_law 794 = .ok (.isub, 1) by decide +kernel) ?_
          refine X_icmp_ne (tgt := 820) (show decode cL_law 795 = .ok (.if_icmp .ne 25, 3) by decide +kernel) (by decide) ⟨fun c104 => ?_, fun c104 => ?_⟩
          · have w := w.1 c104
            refine X_room (rc' := (rc0 + 1660)) (rs' := (rs0 + 80406)) (by omega) (by omega) ?_
            refine X_pick (ls' := [(0, .ref _), (1, .ref _), (2, .ref _), (3, .int _), (4, .int _), (5, .int _), (6, .int _), (7, .long _), (9, .int _), (18, .int _), (19, .long _), (27, .int _), (30, .int _)]) [0, 1, 2, 3, 4, 5, 6, 7, 8, 14, 15, 17, 19] rfl ?_
            exact kL_law_J820 hc31 _ _ _ _ _ _ _ _ _ _ _ _ _ _ _ w
          · have w := w.2 c104
            refine X_iload (j := 13) (show decode cL_law 798 = .ok (.iload 16, 2) by decide +kernel) rfl ?_
            refine X_iload (j := 11) (show decode cL_law 800 = .ok (.iload 14, 2) by decide +kernel) rfl ?_
            refine X_icmp_le (tgt := 816) (show decode cL_law 802 = .ok (.if_icmp .le 14, 3) by decide +kernel) (by decide) ⟨fun c105 => ?_, fun c105 => ?_⟩
            · have w := w.1 c105
              refine X_room (rc' := (rc0 + 1660)) (rs' := (rs0 + 80406)) (by omega) (by omega) ?_
              refine X_pick (ls' := [(0, .ref _), (1, .ref _), (2, .ref _), (3, .int _), (4, .int _), (5, .int _), (6, .int _), (7, .long _), (9, .int _), (18, .int _), (19, .long _), (27, .int _), (30, .int _)]) [0, 1, 2, 3, 4, 5, 6, 7, 8, 14, 15, 17, 19] rfl ?_
              exact kL_law_J816 hc31 _ _ _ _ _ _ _ _ _ _ _ _ _ _ _ w
            · have w := w.2 c105
              refine X_aload_n (j := 1) (show decode cL_law 805 = .ok (.aload_n 1, 1) by decide +kernel) rfl rfl ?_
              refine X_iload (j := 9) (show decode cL_law 806 = .ok (.iload 11, 2) by decide +kernel) rfl ?_
              refine X_sH (rc' := (rc0 + 1660)) (rs' := (rs0 + 80406)) (as := [.ref _, .int _]) msh_L_227 (show decode cL_law 808 = .ok (.invokestatic 227, 3) by decide +kernel) (by decide) (by omega) (by omega) rfl rfl (Nat.le_of_ble_eq_true rfl) (kL_blockOf w) (fun r107 h106 w => ?_)
              refine X_iload (j := 16) (show decode cL_law 811 = .ok (.iload 23, 2) by decide +kernel) rfl ?_
              refine X_icmp_ne (tgt := 820) (show decode cL_law 813 = .ok (.if_icmp .ne 7, 3) by decide +kernel) (by decide) ⟨fun c108 => ?_, fun c108 => ?_⟩
              · have w := w.1 c108
                refine X_pick (ls' := [(0, .ref _), (1, .ref _), (2, .ref _), (3, .int _), (4, .int _), (5, .int _), (6, .int _), (7, .long _), (9, .int _), (18, .int _), (19, .long _), (27, .int _), (30, .int _)]) [0, 1, 2, 3, 4, 5, 6, 7, 8, 14, 15, 17, 19] rfl ?_
                exact kL_law_J820 hc31 _ _ _ _ _ _ _ _ _ _ _ _ _ _ _ w
              · have w := w.2 c108
                refine X_pick (ls' := [(0, .ref _), (1, .ref _), (2, .ref _), (3, .int _), (4, .int _), (5, .int _), (6, .int _), (7, .long _), (9, .int _), (18, .int _), (19, .long _), (27, .int _), (30, .int _)]) [0, 1, 2, 3, 4, 5, 6, 7, 8, 14, 15, 17, 19] rfl ?_
                exact kL_law_J816 hc31 _ _ _ _ _ _ _ _ _ _ _ _ _ _ _ w
      · have w := w.2 c98
        refine X_aload_n (j := 1) (show decode cL_law 762 = .ok (.aload_n 1, 1) by decide +kernel) rfl rfl ?_
        refine X_iload (j := 9) (show decode cL_law 763 = .ok (.iload 11, 2) by decide +kernel) rfl ?_
        obtain ⟨s112, w⟩ := w
        refine X_vI (rc' := (rc0 + 1664)) (rs' := (rs0 + 80430)) (as := [.int _]) mv_L_238 (show decode cL_law 765 = .ok (.invokevirtual 238, 3) by decide +kernel) (by decide) (by omega) (by omega) rfl rfl (Nat.le_of_ble_eq_true rfl) (rcvD s112 (by decide) rfl) (kX9_isPresent w) (fun E h hk => hk.elim) (fun r110 h109 w => ?_)
        refine X_if_ne (tgt := 820) (show decode cL_law 768 = .ok (.ifCond .ne 52, 3) by decide +kernel) (by decide) ⟨fun c111 => ?_, fun c111 => ?_⟩
        · have w := w.1 c111
          refine X_room (rc' := (rc0 + 1660)) (rs' := (rs0 + 80406)) (by omega) (by omega) ?_
          refine X_pick (ls' := [(0, .ref _), (1, .ref _), (2, .ref _), (3, .int _), (4, .int _), (5, .int _), (6, .int _), (7, .long _), (9, .int _), (18, .int _), (19, .long _), (27, .int _), (30, .int _)]) [0, 1, 2, 3, 4, 5, 6, 7, 8, 14, 15, 17, 19] rfl ?_
          exact kL_law_J820 hc31 _ _ _ _ _ _ _ _ _ _ _ _ _ _ _ w
        · have w := w.2 c111
          refine X_goto (tgt := 816) (show decode cL_law 771 = .ok (.goto 45, 3) by decide +kernel) (by decide) ?_
          refine X_room (rc' := (rc0 + 1660)) (rs' := (rs0 + 80406)) (by omega) (by omega) ?_
          refine X_pick (ls' := [(0, .ref _), (1, .ref _), (2, .ref _), (3, .int _), (4, .int _), (5, .int _), (6, .int _), (7, .long _), (9, .int _), (18, .int _), (19, .long _), (27, .int _), (30, .int _)]) [0, 1, 2, 3, 4, 5, 6, 7, 8, 14, 15, 17, 19] rfl ?_
          exact kL_law_J816 hc31 _ _ _ _ _ _ _ _ _ _ _ _ _ _ _ w
set_option maxRecDepth 100000 in
set_option maxHeartbeats 4000000 in
theorem kL_law_J734 {rc0 rs0 : Nat} {K : Int32 → AH → Prop} {c31 : Nat → Nat → Nat → Int32 → Int32 → Int32 → Int32 → AH → Prop} (hc31 : ∀ x0 x1 x2 x3 x4 x5 x6 h, c31 x0 x1 x2 x3 x4 x5 x6 h → X mZ_law 22 (KI K) T0 rc0 rs0 31 [(0, .ref x0), (1, .ref x1), (2, .ref x2), (3, .int x3), (4, .int x4), (5, .int x5), (6, .int x6)] [] h) (x0 : Nat) (x1 : Nat) (x2 : Nat) (x3 : Int32) (x4 : Int32) (x5 : Int32) (x6 : Int32) (x7 : Int64) (x9 : Int32) (x11 : Int32) (x12 : Int32) (x14 : Int32) (x15 : Int32) (x16 : Int32) (x18 : Int32) (x19 : Int64) (x23 : Int32) (x27 : Int32) (x30 : Int32) (y0 : Int32) (h : AH) (w : wL_law_J734 K c31 x0 x1 x2 x3 x4 x5 x6 x7 x9 x11 x12 x14 x15 x16 x18 x19 x23 x27 x30 y0 h) : X mZ_law 22 (KI K) T0 (rc0 + 1664) (rs0 + 80430) 734 [(0, .ref x0), (1, .ref x1), (2, .ref x2), (3, .int x3), (4, .int x4), (5, .int x5), (6, .int x6), (7, .long x7), (9, .int x9), (11, .int x11), (12, .int x12), (14, .int x14), (15, .int x15), (16, .int x16), (18, .int x18), (19, .long x19), (23, .int x23), (27, .int x27), (30, .int x30)] [.int y0] h := by
  unfold wL_law_J734 at w
  refine X_iconst (v := (nI 1)) (show decode cL_law 734 = .ok (.iconst 1, 1) by decide +kernel) (by decide) ?_
  refine X_goto (tgt := 739) (show decode cL_law 735 = .ok (.goto 4, 3) by decide +kernel) (by decide) ?_
  exact kL_law_J739 hc31 _ _ _ _ _ _ _ _ _ _ _ _ _ _ _ _ _ _ _ _ _ _ w
set_option maxRecDepth 100000 in
set_option maxHeartbeats 4000000 in
theorem kL_law_J738 {rc0 rs0 : Nat} {K : Int32 → AH → Prop} {c31 : Nat → Nat → Nat → Int32 → Int32 → Int32 → Int32 → AH → Prop} (hc31 : ∀ x0 x1 x2 x3 x4 x5 x6 h, c31 x0 x1 x2 x3 x4 x5 x6 h → X mZ_law 22 (KI K) T0 rc0 rs0 31 [(0, .ref x0), (1, .ref x1), (2, .ref x2), (3, .int x3), (4, .int x4), (5, .int x5), (6, .int x6)] [] h) (x0 : Nat) (x1 : Nat) (x2 : Nat) (x3 : Int32) (x4 : Int32) (x5 : Int32) (x6 : Int32) (x7 : Int64) (x9 : Int32) (x11 : Int32) (x12 : Int32) (x14 : Int32) (x15 : Int32) (x16 : Int32) (x18 : Int32) (x19 : Int64) (x23 : Int32) (x27 : Int32) (x30 : Int32) (y0 : Int32) (h : AH) (w : wL_law_J738 K c31 x0 x1 x2 x3 x4 x5 x6 x7 x9 x11 x12 x14 x15 x16 x18 x19 x23 x27 x30 y0 h) : X mZ_law 22 (KI K) T0 (rc0 + 1664) (rs0 + 80430) 738 [(0, .ref x0), (1, .ref x1), (2, .ref x2), (3, .int x3), (4, .int x4), (5, .int x5), (6, .int x6), (7, .long x7), (9, .int x9), (11, .int x11), (12, .int x12), (14, .int x14), (15, .int x15), (16, .int x16), (18, .int x18), (19, .long x19), (23, .int x23), (27, .int x27), (30, .int x30)] [.int y0] h := by
  unfold wL_law_J738 at w
  refine X_iconst (v := (nI 0)) (show decode cL_law 738 = .ok (.iconst 0, 1) by decide +kernel) (by decide) ?_
  exact kL_law_J739 hc31 _ _ _ _ _ _ _ _ _ _ _ _ _ _ _ _ _ _ _ _ _ _ w
set_option maxRecDepth 100000 in
set_option maxHeartbeats 4000000 in
theorem kL_law_J661 {rc0 rs0 : Nat} {K : Int32 → AH → Prop} {c31 : Nat → Nat → Nat → Int32 → Int32 → Int32 → Int32 → AH → Prop} (hc31 : ∀ x0 x1 x2 x3 x4 x5 x6 h, c31 x0 x1 x2 x3 x4 x5 x6 h → X mZ_law 22 (KI K) T0 rc0 rs0 31 [(0, .ref x0), (1, .ref x1), (2, .ref x2), (3, .int x3), (4, .int x4), (5, .int x5), (6, .int x6)] [] h) (x0 : Nat) (x1 : Nat) (x2 : Nat) (x3 : Int32) (x4 : Int32) (x5 : Int32) (x6 : Int32) (x7 : Int64) (x9 : Int32) (x11 : Int32) (x12 : Int32) (x14 : Int32) (x15 : Int32) (x16 : Int32) (x17 : Int32) (x18 : Int32) (x19 : Int64) (x21 : Int32) (x22 : Int32) (x23 : Int32) (x26 : Int32) (x27 : Int32) (x29 : Int32) (y0 : Int32) (h : AH) (w : wL_law_J661 K c31 x0 x1 x2 x3 x4 x5 x6 x7 x9 x11 x12 x14 x15 x16 x17 x18 x19 x21 x22 x23 x26 x27 x29 y0 h) : X mZ_law 22 (KI K) T0 (rc0 + 1664) (rs0 + 80430) 661 [(0, .ref x0), (1, .ref x1), (2, .ref x2), (3, .int x3), (4, .int x4), (5, .int x5), (6, .int x6), (7, .long x7), (9, .int x9), (11, .int x11), (12, .int x12), (14, .int x14), (15, .int x15), (16, .int x16), (17, .int x17), (18, .int x18), (19, .long x19), (21, .int x21), (22, .int x22), (23, .int x23), (26, .int x26), (27, .int x27), (29, .int x29)] [.int y0] h := by
  unfold wL_law_J661 at w
  refine X_istore (ls' := [(0, .ref _), (1, .ref _), (2, .ref _), (3, .int _), (4, .int _), (5, .int _), (6, .int _), (7, .long _), (9, .int _), (11, .int _), (12, .int _), (14, .int _), (15, .int _), (16, .int _), (17, .int _), (18, .int _), (19, .long _), (21, .int _), (22, .int _), (23, .int _), (26, .int _), (27, .int _), (29, .int _), (30, .int _)]) (show decode cL_law 661 = .ok (.istore 30, 2) by decide +kernel) (by decide) rfl ?_
  refine X_iload (j := 22) (show decode cL_law 663 = .ok (.iload 29, 2) by decide +kernel) rfl ?_
  refine X_iload (j := 23) (show decode cL_law 665 = .ok (.iload 30, 2) by decide +kernel) rfl ?_
  refine X_if_eq (tgt := 734) (show decode cL_law 667 = .ok (.ifCond .eq 67, 3) by decide +kernel) (by decide) ⟨fun c70 => ?_, fun c70 => ?_⟩
  · have w := w.1 c70
    refine X_pick (ls' := [(0, .ref _), (1, .ref _), (2, .ref _), (3, .int _), (4, .int _), (5, .int _), (6, .int _), (7, .long _), (9, .int _), (11, .int _), (12, .int _), (14, .int _), (15, .int _), (16, .int _), (18, .int _), (19, .long _), (23, .int _), (27, .int _), (30, .int _)]) [0, 1, 2, 3, 4, 5, 6, 7, 8, 9, 10, 11, 12, 13, 15, 16, 19, 21, 23] rfl ?_
    exact kL_law_J734 hc31 _ _ _ _ _ _ _ _ _ _ _ _ _ _ _ _ _ _ _ _ _ w
  · have w := w.2 c70
    refine X_aload_n (j := 1) (show decode cL_law 670 = .ok (.aload_n 1, 1) by decide +kernel) rfl rfl ?_
    obtain ⟨s132, w⟩ := w
    refine X_vI (rc' := (rc0 + 1664)) (rs' := (rs0 + 80430)) (as := []) mv_L_214 (show decode cL_law 671 = .ok (.invokevirtual 214, 3) by decide +kernel) (by decide) (by omega) (by omega) rfl rfl (Nat.le_of_ble_eq_true rfl) (rcvD s132 (by decide) rfl) (kX9_time w) (fun E h hk => hk.elim) (fun r114 h113 w => ?_)
    refine X_iload (j := 15) (show decode cL_law 674 = .ok (.iload 18, 2) by decide +kernel) rfl ?_
    refine X_iload (j := 11) (show decode cL_law 676 = .ok (.iload 14, 2) by decide +kernel) rfl ?_
    refine X_iadd (show decode cL_law 678 = .ok (.iadd, 1) by decide +kernel) ?_
    refine X_icmp_ne (tgt := 738) (show decode cL_law 679 = .ok (.if_icmp .ne 59, 3) by decide +kernel) (by decide) ⟨fun c115 => ?_, fun c115 => ?_⟩
    · have w := w.1 c115
      refine X_pick (ls' := [(0, .ref _), (1, .ref _), (2, .ref _), (3, .int _), (4, .int _), (5, .int _), (6, .int _), (7, .long _), (9, .int _), (11, .int _), (12, .int _), (14, .int _), (15, .int _), (16, .int _), (18, .int _), (19, .long _), (23, .int _), (27, .int _), (30, .int _)]) [0, 1, 2, 3, 4, 5, 6, 7, 8, 9, 10, 11, 12, 13, 15, 16, 19, 21, 23] rfl ?_
      exact kL_law_J738 hc31 _ _ _ _ _ _ _ _ _ _ _ _ _ _ _ _ _ _ _ _ _ w
    · have w := w.2 c115
      refine X_aload_n (j := 1) (show decode cL_law 682 = .ok (.aload_n 1, 1) by decide +kernel) rfl rfl ?_
      obtain ⟨s131, w⟩ := w
      refine X_vI (rc' := (rc0 + 1664)) (rs' := (rs0 + 80430)) (as := []) mv_L_211 (show decode cL_law 683 = .ok (.invokevirtual 211, 3) by decide +kernel) (by decide) (by omega) (by omega) rfl rfl (Nat.le_of_ble_eq_true rfl) (rcvD s131 (by decide) rfl) (kX9_arrived w) (fun E h hk => hk.elim) (fun r117 h116 w => ?_)
      refine X_iload (j := 14) (show decode cL_law 686 = .ok (.iload 17, 2) by decide +kernel) rfl ?_
      refine X_iload (j := 20) (show decode cL_law 688 = .ok (.iload 26, 2) by decide +kernel) rfl ?_
      refine X_iadd (show decode cL_law 690 = .ok (.iadd, 1) by decide +kernel) ?_
      refine X_icmp_ne (tgt := 738) (show decode cL_law 691 = .ok (.if_icmp .ne 47, 3) by decide +kernel) (by decide) ⟨fun c118 => ?_, fun c118 => ?_⟩
      · have w := w.1 c118
        refine X_pick (ls' := [(0, .ref _), (1, .ref _), (2, .ref _), (3, .int _), (4, .int _), (5, .int _), (6, .int _), (7, .long _), (9, .int _), (11, .int _), (12, .int _), (14, .int _), (15, .int _), (16, .int _), (18, .int _), (19, .long _), (23, .int _), (27, .int _), (30, .int _)]) [0, 1, 2, 3, 4, 5, 6, 7, 8, 9, 10, 11, 12, 13, 15, 16, 19, 21, 23] rfl ?_
        exact kL_law_J738 hc31 _ _ _ _ _ _ _ _ _ _ _ _ _ _ _ _ _ _ _ _ _ w
      · have w := w.2 c118
        refine X_aload_n (j := 1) (show decode cL_law 694 = .ok (.aload_n 1, 1) by decide +kernel) rfl rfl ?_
        obtain ⟨s130, w⟩ := w
        refine X_vI (rc' := (rc0 + 1664)) (rs' := (rs0 + 80430)) (as := []) mv_L_224 (show decode cL_law 695 = .ok (.invokevirtual 224, 3) by decide +kernel) (by decide) (by omega) (by omega) rfl rfl (Nat.le_of_ble_eq_true rfl) (rcvD s130 (by decide) rfl) (kX9_trains w) (fun E h hk => hk.elim) (fun r120 h119 w => ?_)
        refine X_iload (j := 18) (show decode cL_law 698 = .ok (.iload 22, 2) by decide +kernel) rfl ?_
        refine X_iload (j := 20) (show decode cL_law 700 = .ok (.iload 26, 2) by decide +kernel) rfl ?_
        refine X_isub (show decode cL_law 702 = .ok (.isub, 1) by decide +kernel) ?_
        refine X_icmp_ne (tgt := 738) (show decode cL_law 703 = .ok (.if_icmp .ne 35, 3) by decide +kernel) (by decide) ⟨fun c121 => ?_, fun c121 => ?_⟩
        · have w := w.1 c121
          refine X_pick (ls' := [(0, .ref _), (1, .ref _), (2, .ref _), (3, .int _), (4, .int _), (5, .int _), (6, .int _), (7, .long _), (9, .int _), (11, .int _), (12, .int _), (14, .int _), (15, .int _), (16, .int _), (18, .int _), (19, .long _), (23, .int _), (27, .int _), (30, .int _)]) [0, 1, 2, 3, 4, 5, 6, 7, 8, 9, 10, 11, 12, 13, 15, 16, 19, 21, 23] rfl ?_
          exact kL_law_J738 hc31 _ _ _ _ _ _ _ _ _ _ _ _ _ _ _ _ _ _ _ _ _ w
        · have w := w.2 c121
          refine X_aload_n (j := 1) (show decode cL_law 706 = .ok (.aload_n 1, 1) by decide +kernel) rfl rfl ?_
          obtain ⟨s129, w⟩ := w
          refine X_vL (rc' := (rc0 + 1664)) (rs' := (rs0 + 80430)) (as := []) mv_L_217 (show decode cL_law 707 = .ok (.invokevirtual 217, 3) by decide +kernel) (by decide) (by omega) (by omega) rfl rfl (Nat.le_of_ble_eq_true rfl) (rcvD s129 (by decide) rfl) (kX9_totalDelay w) (fun E h hk => hk.elim) (fun r123 h122 w => ?_)
          refine X_lload (j := 16) (show decode cL_law 710 = .ok (.lload 19, 2) by decide +kernel) rfl ?_
          refine X_lcmp (show decode cL_law 712 = .ok (.lcmp, 1) by decide +kernel) ?_
          refine X_if_lt (tgt := 738) (show decode cL_law 713 = .ok (.ifCond .lt 25, 3) by decide +kernel) (by decide) ⟨fun c124 => ?_, fun c124 => ?_⟩
          · have w := w.1 c124
            refine X_pick (ls' := [(0, .ref _), (1, .ref _), (2, .ref _), (3, .int _), (4, .int _), (5, .int _), (6, .int _), (7, .long _), (9, .int _), (11, .int _), (12, .int _), (14, .int _), (15, .int _), (16, .int _), (18, .int _), (19, .long _), (23, .int _), (27, .int _), (30, .int _)]) [0, 1, 2, 3, 4, 5, 6, 7, 8, 9, 10, 11, 12, 13, 15, 16, 19, 21, 23] rfl ?_
            exact kL_law_J738 hc31 _ _ _ _ _ _ _ _ _ _ _ _ _ _ _ _ _ _ _ _ _ w
          · have w := w.2 c124
            refine X_aload_n (j := 1) (show decode cL_law 716 = .ok (.aload_n 1, 1) by decide +kernel) rfl rfl ?_
            obtain ⟨s128, w⟩ := w
            refine X_vL (rc' := (rc0 + 1664)) (rs' := (rs0 + 80430)) (as := []) mv_L_217 (show decode cL_law 717 = .ok (.invokevirtual 217, 3) by decide +kernel) (by decide) (by omega) (by omega) rfl rfl (Nat.le_of_ble_eq_true rfl) (rcvD s128 (by decide) rfl) (kX9_totalDelay w) (fun E h hk => hk.elim) (fun r126 h125 w => ?_)
            refine X_lload (j := 16) (show decode cL_law 720 = .ok (.lload 19, 2) by decide +kernel) rfl ?_
            refine X_iload (j := 17) (show decode cL_law 722 = .ok (.iload 21, 2) by decide +kernel) rfl ?_
            refine X_i2l (show decode cL_law 724 = .ok (.i2l, 1) by decide +kernel) ?_
            refine X_iload (j := 11) (show decode cL_law 725 = .ok (.iload 14, 2) by decide +kernel) rfl ?_
            refine X_i2l (show decode cL_law 727 = .ok (.i2l, 1) by decide +kernel) ?_
            refine X_lmul (show decode cL_law 728 = .ok (.lmul, 1) by decide +kernel) ?_
            refine X_ladd (show decode cL_law 729 = .ok (.ladd, 1) by decide +kernel) ?_
            refine X_lcmp (show decode cL_law 730 = .ok (.lcmp, 1) by decide +kernel) ?_
            refine X_if_gt (tgt := 738) (show decode cL_law 731 = .ok (.ifCond .gt 7, 3) by decide +kernel) (by decide) ⟨fun c127 => ?_, fun c127 => ?_⟩
            · have w := w.1 c127
              refine X_pick (ls' := [(0, .ref _), (1, .ref _), (2, .ref _), (3, .int _), (4, .int _), (5, .int _), (6, .int _), (7, .long _), (9, .int _), (11, .int _), (12, .int _), (14, .int _), (15, .int _), (16, .int _), (18, .int _), (19, .long _), (23, .int _), (27, .int _), (30, .int _)]) [0, 1, 2, 3, 4, 5, 6, 7, 8, 9, 10, 11, 12, 13, 15, 16, 19, 21, 23] rfl ?_
              exact kL_law_J738 hc31 _ _ _ _ _ _ _ _ _ _ _ _ _ _ _ _ _ _ _ _ _ w
            · have w := w.2 c127
              refine X_pick (ls' := [(0, .ref _), (1, .ref _), (2, .ref _), (3, .int _), (4, .int _), (5, .int _), (6, .int _), (7, .long _), (9, .int _), (11, .int _), (12, .int _), (14, .int _), (15, .int _), (16, .int _), (18, .int _), (19, .long _), (23, .int _), (27, .int _), (30, .int _)]) [0, 1, 2, 3, 4, 5, 6, 7, 8, 9, 10, 11, 12, 13, 15, 16, 19, 21, 23] rfl ?_
              exact kL_law_J734 hc31 _ _ _ _ _ _ _ _ _ _ _ _ _ _ _ _ _ _ _ _ _ w
set_option maxRecDepth 100000 in
set_option maxHeartbeats 4000000 in
theorem kL_law_J660 {rc0 rs0 : Nat} {K : Int32 → AH → Prop} {c31 : Nat → Nat → Nat → Int32 → Int32 → Int32 → Int32 → AH → Prop} (hc31 : ∀ x0 x1 x2 x3 x4 x5 x6 h, c31 x0 x1 x2 x3 x4 x5 x6 h → X mZ_law 22 (KI K) T0 rc0 rs0 31 [(0, .ref x0), (1, .ref x1), (2, .ref x2), (3, .int x3), (4, .int x4), (5, .int x5), (6, .int x6)] [] h) (x0 : Nat) (x1 : Nat) (x2 : Nat) (x3 : Int32) (x4 : Int32) (x5 : Int32) (x6 : Int32) (x7 : Int64) (x9 : Int32) (x11 : Int32) (x12 : Int32) (x14 : Int32) (x15 : Int32) (x16 : Int32) (x17 : Int32) (x18 : Int32) (x19 : Int64) (x21 : Int32) (x22 : Int32) (x23 : Int32) (x26 : Int32) (x27 : Int32) (x29 : Int32) (h : AH) (w : wL_law_J660 K c31 x0 x1 x2 x3 x4 x5 x6 x7 x9 x11 x12 x14 x15 x16 x17 x18 x19 x21 x22 x23 x26 x27 x29 h) : X mZ_law 22 (KI K) T0 (rc0 + 1664) (rs0 + 80430) 660 [(0, .ref x0), (1, .ref x1), (2, .ref x2), (3, .int x3), (4, .int x4), (5, .int x5), (6, .int x6), (7, .long x7), (9, .int x9), (11, .int x11), (12, .int x12), (14, .int x14), (15, .int x15), (16, .int x16), (17, .int x17), (18, .int x18), (19, .long x19), (21, .int x21), (22, .int x22), (23, .int x23), (26, .int x26), (27, .int x27), (29, .int x29)] [] h := by
  unfold wL_law_J660 at w
  refine X_iconst (v := (nI 0)) (show decode cL_law 660 = .ok (.iconst 0, 1) by decide +kernel) (by decide) ?_
  exact kL_law_J661 hc31 _ _ _ _ _ _ _ _ _ _ _ _ _ _ _ _ _ _ _ _ _ _ _ _ _ w
set_option maxRecDepth 100000 in
set_option maxHeartbeats 4000000 in
theorem kL_law_J634 {rc0 rs0 : Nat} {K : Int32 → AH → Prop} {c31 : Nat → Nat → Nat → Int32 → Int32 → Int32 → Int32 → AH → Prop} (hc31 : ∀ x0 x1 x2 x3 x4 x5 x6 h, c31 x0 x1 x2 x3 x4 x5 x6 h → X mZ_law 22 (KI K) T0 rc0 rs0 31 [(0, .ref x0), (1, .ref x1), (2, .ref x2), (3, .int x3), (4, .int x4), (5, .int x5), (6, .int x6)] [] h) (x0 : Nat) (x1 : Nat) (x2 : Nat) (x3 : Int32) (x4 : Int32) (x5 : Int32) (x6 : Int32) (x7 : Int64) (x9 : Int32) (x11 : Int32) (x12 : Int32) (x14 : Int32) (x15 : Int32) (x16 : Int32) (x17 : Int32) (x18 : Int32) (x19 : Int64) (x21 : Int32) (x22 : Int32) (x23 : Int32) (x26 : Int32) (x27 : Int32) (y0 : Int32) (y1 : Int32) (h : AH) (w : wL_law_J634 K c31 x0 x1 x2 x3 x4 x5 x6 x7 x9 x11 x12 x14 x15 x16 x17 x18 x19 x21 x22 x23 x26 x27 y0 y1 h) : X mZ_law 22 (KI K) T0 (rc0 + 1664) (rs0 + 80430) 634 [(0, .ref x0), (1, .ref x1), (2, .ref x2), (3, .int x3), (4, .int x4), (5, .int x5), (6, .int x6), (7, .long x7), (9, .int x9), (11, .int x11), (12, .int x12), (14, .int x14), (15, .int x15), (16, .int x16), (17, .int x17), (18, .int x18), (19, .long x19), (21, .int x21), (22, .int x22), (23, .int x23), (26, .int x26), (27, .int x27)] [.int y1, .int y0] h := by
  unfold wL_law_J634 at w
  refine X_iand (show decode cL_law 634 = .ok (.iand, 1) by decide +kernel) ?_
  refine X_istore (ls' := [(0, .ref _), (1, .ref _), (2, .ref _), (3, .int _), (4, .int _), (5, .int _), (6, .int _), (7, .long _), (9, .int _), (11, .int _), (12, .int _), (14, .int _), (15, .int _), (16, .int _), (17, .int _), (18, .int _), (19, .long _), (21, .int _), (22, .int _), (23, .int _), (26, .int _), (27, .int _), (29, .int _)]) (show decode cL_law 635 = .ok (.istore 29, 2) by decide +kernel) (by decide) rfl ?_
  refine X_iload (j := 21) (show decode cL_law 637 = .ok (.iload 27, 2) by decide +kernel) rfl ?_
  refine X_if_eq (tgt := 660) (show decode cL_law 639 = .ok (.ifCond .eq 21, 3) by decide +kernel) (by decide) ⟨fun c69 => ?_, fun c69 => ?_⟩
  · have w := w.1 c69
    exact kL_law_J660 hc31 _ _ _ _ _ _ _ _ _ _ _ _ _ _ _ _ _ _ _ _ _ _ _ _ w
  · have w := w.2 c69
    refine X_iload (j := 8) (show decode cL_law 642 = .ok (.iload 9, 2) by decide +kernel) rfl ?_
    refine X_bipush (v := (nI 30)) (show decode cL_law 644 = .ok (.bipush 30, 2) by decide +kernel) (by decide) ?_
    refine X_icmp_le (tgt := 660) (show decode cL_law 646 = .ok (.if_icmp .le 14, 3) by decide +kernel) (by decide) ⟨fun c133 => ?_, fun c133 => ?_⟩
    · have w := w.1 c133
      exact kL_law_J660 hc31 _ _ _ _ _ _ _ _ _ _ _ _ _ _ _ _ _ _ _ _ _ _ _ _ w
    · have w := w.2 c133
      refine X_iload (j := 8) (show decode cL_law 649 = .ok (.iload 9, 2) by decide +kernel) rfl ?_
      refine X_bipush (v := (nI 46)) (show decode cL_law 651 = .ok (.bipush 46, 2) by decide +kernel) (by decide) ?_
      refine X_icmp_ge (tgt := 660) (show decode cL_law 653 = .ok (.if_icmp .ge 7, 3) by decide +kernel) (by decide) ⟨fun c134 => ?_, fun c134 => ?_⟩
      · have w := w.1 c134
        exact kL_law_J660 hc31 _ _ _ _ _ _ _ _ _ _ _ _ _ _ _ _ _ _ _ _ _ _ _ _ w
      · have w := w.2 c134
        refine X_iconst (v := (nI 1)) (show decode cL_law 656 = .ok (.iconst 1, 1) by decide +kernel) (by decide) ?_
        refine X_goto (tgt := 661) (show decode cL_law 657 = .ok (.goto 4, 3) by decide +kernel) (by decide) ?_
        exact kL_law_J661 hc31 _ _ _ _ _ _ _ _ _ _ _ _ _ _ _ _ _ _ _ _ _ _ _ _ _ w
set_option maxRecDepth 100000 in
set_option maxHeartbeats 4000000 in
theorem kL_law_J629 {rc0 rs0 : Nat} {K : Int32 → AH → Prop} {c31 : Nat → Nat → Nat → Int32 → Int32 → Int32 → Int32 → AH → Prop} (hc31 : ∀ x0 x1 x2 x3 x4 x5 x6 h, c31 x0 x1 x2 x3 x4 x5 x6 h → X mZ_law 22 (KI K) T0 rc0 rs0 31 [(0, .ref x0), (1, .ref x1), (2, .ref x2), (3, .int x3), (4, .int x4), (5, .int x5), (6, .int x6)] [] h) (x0 : Nat) (x1 : Nat) (x2 : Nat) (x3 : Int32) (x4 : Int32) (x5 : Int32) (x6 : Int32) (x7 : Int64) (x9 : Int32) (x11 : Int32) (x12 : Int32) (x14 : Int32) (x15 : Int32) (x16 : Int32) (x17 : Int32) (x18 : Int32) (x19 : Int64) (x21 : Int32) (x22 : Int32) (x23 : Int32) (x26 : Int32) (x27 : Int32) (y0 : Int32) (h : AH) (w : wL_law_J629 K c31 x0 x1 x2 x3 x4 x5 x6 x7 x9 x11 x12 x14 x15 x16 x17 x18 x19 x21 x22 x23 x26 x27 y0 h) : X mZ_law 22 (KI K) T0 (rc0 + 1664) (rs0 + 80430) 629 [(0, .ref x0), (1, .ref x1), (2, .ref x2), (3, .int x3), (4, .int x4), (5, .int x5), (6, .int x6), (7, .long x7), (9, .int x9), (11, .int x11), (12, .int x12), (14, .int x14), (15, .int x15), (16, .int x16), (17, .int x17), (18, .int x18), (19, .long x19), (21, .int x21), (22, .int x22), (23, .int x23), (26, .int x26), (27, .int x27)] [.int y0] h := by
  unfold wL_law_J629 at w
  refine X_iconst (v := (nI 1)) (show decode cL_law 629 = .ok (.iconst 1, 1) by decide +kernel) (by decide) ?_
  refine X_goto (tgt := 634) (show decode cL_law 630 = .ok (.goto 4, 3) by decide +kernel) (by decide) ?_
  exact kL_law_J634 hc31 _ _ _ _ _ _ _ _ _ _ _ _ _ _ _ _ _ _ _ _ _ _ _ _ _ w
set_option maxRecDepth 100000 in
set_option maxHeartbeats 4000000 in
theorem kL_law_J633 {rc0 rs0 : Nat} {K : Int32 → AH → Prop} {c31 : Nat → Nat → Nat → Int32 → Int32 → Int32 → Int32 → AH → Prop} (hc31 : ∀ x0 x1 x2 x3 x4 x5 x6 h, c31 x0 x1 x2 x3 x4 x5 x6 h → X mZ_law 22 (KI K) T0 rc0 rs0 31 [(0, .ref x0), (1, .ref x1), (2, .ref x2), (3, .int x3), (4, .int x4), (5, .int x5), (6, .int x6)] [] h) (x0 : Nat) (x1 : Nat) (x2 : Nat) (x3 : Int32) (x4 : Int32) (x5 : Int32) (x6 : Int32) (x7 : Int64) (x9 : Int32) (x11 : Int32) (x12 : Int32) (x14 : Int32) (x15 : Int32) (x16 : Int32) (x17 : Int32) (x18 : Int32) (x19 : Int64) (x21 : Int32) (x22 : Int32) (x23 : Int32) (x26 : Int32) (x27 : Int32) (y0 : Int32) (h : AH) (w : wL_law_J633 K c31 x0 x1 x2 x3 x4 x5 x6 x7 x9 x11 x12 x14 x15 x16 x17 x18 x19 x21 x22 x23 x26 x27 y0 h) : X mZ_law 22 (KI K) T0 (rc0 + 1664) (rs0 + 80430) 633 [(0, .ref x0), (1, .ref x1), (2, .ref x2), (3, .int x3), (4, .int x4), (5, .int x5), (6, .int x6), (7, .long x7), (9, .int x9), (11, .int x11), (12, .int x12), (14, .int x14), (15, .int x15), (16, .int x16), (17, .int x17), (18, .int x18), (19, .long x19), (21, .int x21), (22, .int x22), (23, .int x23), (26, .int x26), (27, .int x27)] [.int y0] h := by
  unfold wL_law_J633 at w
  refine X_iconst (v := (nI 0)) (show decode cL_law 633 = .ok (.iconst 0, 1) by decide +kernel) (by decide) ?_
  exact kL_law_J634 hc31 _ _ _ _ _ _ _ _ _ _ _ _ _ _ _ _ _ _ _ _ _ _ _ _ _ w
set_option maxRecDepth 100000 in
set_option maxHeartbeats 4000000 in
theorem kL_law_J570 {rc0 rs0 : Nat} {K : Int32 → AH → Prop} {c31 : Nat → Nat → Nat → Int32 → Int32 → Int32 → Int32 → AH → Prop} (hc31 : ∀ x0 x1 x2 x3 x4 x5 x6 h, c31 x0 x1 x2 x3 x4 x5 x6 h → X mZ_law 22 (KI K) T0 rc0 rs0 31 [(0, .ref x0), (1, .ref x1), (2, .ref x2), (3, .int x3), (4, .int x4), (5, .int x5), (6, .int x6)] [] h) (x0 : Nat) (x1 : Nat) (x2 : Nat) (x3 : Int32) (x4 : Int32) (x5 : Int32) (x6 : Int32) (x7 : Int64) (x9 : Int32) (x11 : Int32) (x12 : Int32) (x14 : Int32) (x15 : Int32) (x16 : Int32) (x17 : Int32) (x18 : Int32) (x19 : Int64) (x21 : Int32) (x22 : Int32) (x23 : Int32) (x26 : Int32) (x27 : Int32) (y0 : Int32) (y1 : Int32) (h : AH) (w : wL_law_J570 K c31 x0 x1 x2 x3 x4 x5 x6 x7 x9 x11 x12 x14 x15 x16 x17 x18 x19 x21 x22 x23 x26 x27 y0 y1 h) : X mZ_law 22 (KI K) T0 (rc0 + 1666) (rs0 + 80442) 570 [(0, .ref x0), (1, .ref x1), (2, .ref x2), (3, .int x3), (4, .int x4), (5, .int x5), (6, .int x6), (7, .long x7), (9, .int x9), (11, .int x11), (12, .int x12), (14, .int x14), (15, .int x15), (16, .int x16), (17, .int x17), (18, .int x18), (19, .long x19), (21, .int x21), (22, .int x22), (23, .int x23), (26, .int x26), (27, .int x27)] [.int y1, .int y0] h := by
  unfold wL_law_J570 at w
  refine X_iand (show decode cL_law 570 = .ok (.iand, 1) by decide +kernel) ?_
  refine X_istore (ls' := [(0, .ref _), (1, .ref _), (2, .ref _), (3, .int _), (4, .int _), (5, .int _), (6, .int _), (7, .long _), (9, .int _), (11, .int _), (12, .int _), (14, .int _), (15, .int _), (16, .int _), (17, .int _), (18, .int _), (19, .long _), (21, .int _), (22, .int _), (23, .int _), (26, .int _), (27, .int _), (29, .int _)]) (show decode cL_law 571 = .ok (.istore 29, 2) by decide +kernel) (by decide) rfl ?_
  refine X_iload (j := 22) (show decode cL_law 573 = .ok (.iload 29, 2) by decide +kernel) rfl ?_
  refine X_iload (j := 21) (show decode cL_law 575 = .ok (.iload 27, 2) by decide +kernel) rfl ?_
  refine X_if_eq (tgt := 629) (show decode cL_law 577 = .ok (.ifCond .eq 52, 3) by decide +kernel) (by decide) ⟨fun c68 => ?_, fun c68 => ?_⟩
  · have w := w.1 c68
    refine X_room (rc' := (rc0 + 1664)) (rs' := (rs0 + 80430)) (by omega) (by omega) ?_
    refine X_pick (ls' := [(0, .ref _), (1, .ref _), (2, .ref _), (3, .int _), (4, .int _), (5, .int _), (6, .int _), (7, .long _), (9, .int _), (11, .int _), (12, .int _), (14, .int _), (15, .int _), (16, .int _), (17, .int _), (18, .int _), (19, .long _), (21, .int _), (22, .int _), (23, .int _), (26, .int _), (27, .int _)]) [0, 1, 2, 3, 4, 5, 6, 7, 8, 9, 10, 11, 12, 13, 14, 15, 16, 17, 18, 19, 20, 21] rfl ?_
    exact kL_law_J629 hc31 _ _ _ _ _ _ _ _ _ _ _ _ _ _ _ _ _ _ _ _ _ _ _ _ w
  · have w := w.2 c68
    refine X_iload (j := 8) (show decode cL_law 580 = .ok (.iload 9, 2) by decide +kernel) rfl ?_
    refine X_bipush (v := (nI 28)) (show decode cL_law 582 = .ok (.bipush 28, 2) by decide +kernel) (by decide) ?_
    refine X_icmp_lt (tgt := 629) (show decode cL_law 584 = .ok (.if_icmp .lt 45, 3) by decide +kernel) (by decide) ⟨fun c135 => ?_, fun c135 => ?_⟩
    · have w := w.1 c135
      refine X_room (rc' := (rc0 + 1664)) (rs' := (rs0 + 80430)) (by omega) (by omega) ?_
      refine X_pick (ls' := [(0, .ref _), (1, .ref _), (2, .ref _), (3, .int _), (4, .int _), (5, .int _), (6, .int _), (7, .long _), (9, .int _), (11, .int _), (12, .int _), (14, .int _), (15, .int _), (16, .int _), (17, .int _), (18, .int _), (19, .long _), (21, .int _), (22, .int _), (23, .int _), (26, .int _), (27, .int _)]) [0, 1, 2, 3, 4, 5, 6, 7, 8, 9, 10, 11, 12, 13, 14, 15, 16, 17, 18, 19, 20, 21] rfl ?_
      exact kL_law_J629 hc31 _ _ _ _ _ _ _ _ _ _ _ _ _ _ _ _ _ _ _ _ _ _ _ _ w
    · have w := w.2 c135
      refine X_iload (j := 8) (show decode cL_law 587 = .ok (.iload 9, 2) by decide +kernel) rfl ?_
      refine X_bipush (v := (nI 30)) (show decode cL_law 589 = .ok (.bipush 30, 2) by decide +kernel) (by decide) ?_
      refine X_icmp_gt (tgt := 629) (show decode cL_law 591 = .ok (.if_icmp .gt 38, 3) by decide +kernel) (by decide) ⟨fun c136 => ?_, fun c136 => ?_⟩
      · have w := w.1 c136
        refine X_room (rc' := (rc0 + 1664)) (rs' := (rs0 + 80430)) (by omega) (by omega) ?_
        refine X_pick (ls' := [(0, .ref _), (1, .ref _), (2, .ref _), (3, .int _), (4, .int _), (5, .int _), (6, .int _), (7, .long _), (9, .int _), (11, .int _), (12, .int _), (14, .int _), (15, .int _), (16, .int _), (17, .int _), (18, .int _), (19, .long _), (21, .int _), (22, .int _), (23, .int _), (26, .int _), (27, .int _)]) [0, 1, 2, 3, 4, 5, 6, 7, 8, 9, 10, 11, 12, 13, 14, 15, 16, 17, 18, 19, 20, 21] rfl ?_
        exact kL_law_J629 hc31 _ _ _ _ _ _ _ _ _ _ _ _ _ _ _ _ _ _ _ _ _ _ _ _ w
      · have w := w.2 c136
        refine X_iload (j := 10) (show decode cL_law 594 = .ok (.iload 12, 2) by decide +kernel) rfl ?_
        refine X_iconst (v := (nI 1)) (show decode cL_law 596 = .ok (.iconst 1, 1) by decide +kernel) (by decide) ?_
        refine X_icmp_ne (tgt := 633) (show decode cL_law 597 = .ok (.if_icmp .ne 36, 3) by decide +kernel) (by decide) ⟨fun c137 => ?_, fun c137 => ?_⟩
        · have w := w.1 c137
          refine X_room (rc' := (rc0 + 1664)) (rs' := (rs0 + 80430)) (by omega) (by omega) ?_
          refine X_pick (ls' := [(0, .ref _), (1, .ref _), (2, .ref _), (3, .int _), (4, .int _), (5, .int _), (6, .int _), (7, .long _), (9, .int _), (11, .int _), (12, .int _), (14, .int _), (15, .int _), (16, .int _), (17, .int _), (18, .int _), (19, .long _), (21, .int _), (22, .int _), (23, .int _), (26, .int _), (27, .int _)]) [0, 1, 2, 3, 4, 5, 6, 7, 8, 9, 10, 11, 12, 13, 14, 15, 16, 17, 18, 19, 20, 21] rfl ?_
          exact kL_law_J633 hc31 _ _ _ _ _ _ _ _ _ _ _ _ _ _ _ _ _ _ _ _ _ _ _ _ w
        · have w := w.2 c137
          refine X_aload_n (j := 1) (show decode cL_law 600 = .ok (.aload_n 1, 1) by decide +kernel) rfl rfl ?_
          refine X_iload (j := 9) (show decode cL_law 601 = .ok (.iload 11, 2) by decide +kernel) rfl ?_
          refine X_sH (rc' := (rc0 + 1665)) (rs' := (rs0 + 80436)) (as := [.ref _, .int _]) msh_L_203 (show decode cL_law 603 = .ok (.invokestatic 203, 3) by decide +kernel) (by decide) (by omega) (by omega) rfl rfl (Nat.le_of_ble_eq_true rfl) (kL_hasRoute w) (fun r139 h138 w => ?_)
          refine X_if_ne (tgt := 633) (show decode cL_law 606 = .ok (.ifCond .ne 27, 3) by decide +kernel) (by decide) ⟨fun c140 => ?_, fun c140 => ?_⟩
          · have w := w.1 c140
            refine X_room (rc' := (rc0 + 1664)) (rs' := (rs0 + 80430)) (by omega) (by omega) ?_
            refine X_pick (ls' := [(0, .ref _), (1, .ref _), (2, .ref _), (3, .int _), (4, .int _), (5, .int _), (6, .int _), (7, .long _), (9, .int _), (11, .int _), (12, .int _), (14, .int _), (15, .int _), (16, .int _), (17, .int _), (18, .int _), (19, .long _), (21, .int _), (22, .int _), (23, .int _), (26, .int _), (27, .int _)]) [0, 1, 2, 3, 4, 5, 6, 7, 8, 9, 10, 11, 12, 13, 14, 15, 16, 17, 18, 19, 20, 21] rfl ?_
            exact kL_law_J633 hc31 _ _ _ _ _ _ _ _ _ _ _ _ _ _ _ _ _ _ _ _ _ _ _ _ w
          · have w := w.2 c140
            refine X_iload (j := 20) (show decode cL_law 609 = .ok (.iload 26, 2) by decide +kernel) rfl ?_
            refine X_iload (j := 17) (show decode cL_law 611 = .ok (.iload 21, 2) by decide +kernel) rfl ?_
            refine X_iconst (v := (nI 1)) (show decode cL_law 613 = .ok (.iconst 1, 1) by decide +kernel) (by decide) ?_
            refine X_iadd (show decode cL_law 614 = .ok (.iadd, 1) by decide +kernel) ?_
            refine X_icmp_ne (tgt := 633) (show decode cL_law 615 = .ok (.if_icmp .ne 18, 3) by decide +kernel) (by decide) ⟨fun c141 => ?_, fun c141 => ?_⟩
            · have w := w.1 c141
              refine X_room (rc' := (rc0 + 1664)) (rs' := (rs0 + 80430)) (by omega) (by omega) ?_
              refine X_pick (ls' := [(0, .ref _), (1, .ref _), (2, .ref _), (3, .int _), (4, .int _), (5, .int _), (6, .int _), (7, .long _), (9, .int _), (11, .int _), (12, .int _), (14, .int _), (15, .int _), (16, .int _), (17, .int _), (18, .int _), (19, .long _), (21, .int _), (22, .int _), (23, .int _), (26, .int _), (27, .int _)]) [0, 1, 2, 3, 4, 5, 6, 7, 8, 9, 10, 11, 12, 13, 14, 15, 16, 17, 18, 19, 20, 21] rfl ?_
              exact kL_law_J633 hc31 _ _ _ _ _ _ _ _ _ _ _ _ _ _ _ _ _ _ _ _ _ _ _ _ w
            · have w := w.2 c141
              refine X_aload_n (j := 1) (show decode cL_law 618 = .ok (.aload_n 1, 1) by decide +kernel) rfl rfl ?_
              refine X_iload (j := 17) (show decode cL_law 619 = .ok (.iload 21, 2) by decide +kernel) rfl ?_
              refine X_sH (rc' := (rc0 + 1664)) (rs' := (rs0 + 80430)) (as := [.ref _, .int _]) msh_L_241 (show decode cL_law 621 = .ok (.invokestatic 241, 3) by decide +kernel) (by decide) (by omega) (by omega) rfl rfl (Nat.le_of_ble_eq_true rfl) (kL_queued w) (fun r143 h142 w => ?_)
              refine X_iload (j := 9) (show decode cL_law 624 = .ok (.iload 11, 2) by decide +kernel) rfl ?_
              refine X_icmp_ne (tgt := 633) (show decode cL_law 626 = .ok (.if_icmp .ne 7, 3) by decide +kernel) (by decide) ⟨fun c144 => ?_, fun c144 => ?_⟩
              · have w := w.1 c144
                refine X_pick (ls' := [(0, .ref _), (1, .ref _), (2, .ref _), (3, .int _), (4, .int _), (5, .int _), (6, .int _), (7, .long _), (9, .int _), (11, .int _), (12, .int _), (14, .int _), (15, .int _), (16, .int _), (17, .int _), (18, .int _), (19, .long _), (21, .int _), (22, .int _), (23, .int _), (26, .int _), (27, .int _)]) [0, 1, 2, 3, 4, 5, 6, 7, 8, 9, 10, 11, 12, 13, 14, 15, 16, 17, 18, 19, 20, 21] rfl ?_
                exact kL_law_J633 hc31 _ _ _ _ _ _ _ _ _ _ _ _ _ _ _ _ _ _ _ _ _ _ _ _ w
              · have w := w.2 c144
                refine X_pick (ls' := [(0, .ref _), (1, .ref _), (2, .ref _), (3, .int _), (4, .int _), (5, .int _), (6, .int _), (7, .long _), (9, .int _), (11, .int _), (12, .int _), (14, .int _), (15, .int _), (16, .int _), (17, .int _), (18, .int _), (19, .long _), (21, .int _), (22, .int _), (23, .int _), (26, .int _), (27, .int _)]) [0, 1, 2, 3, 4, 5, 6, 7, 8, 9, 10, 11, 12, 13, 14, 15, 16, 17, 18, 19, 20, 21] rfl ?_
                exact kL_law_J629 hc31 _ _ _ _ _ _ _ _ _ _ _ _ _ _ _ _ _ _ _ _ _ _ _ _ w
set_option maxRecDepth 100000 in
set_option maxHeartbeats 4000000 in
theorem kL_law_J565 {rc0 rs0 : Nat} {K : Int32 → AH → Prop} {c31 : Nat → Nat → Nat → Int32 → Int32 → Int32 → Int32 → AH → Prop} (hc31 : ∀ x0 x1 x2 x3 x4 x5 x6 h, c31 x0 x1 x2 x3 x4 x5 x6 h → X mZ_law 22 (KI K) T0 rc0 rs0 31 [(0, .ref x0), (1, .ref x1), (2, .ref x2), (3, .int x3), (4, .int x4), (5, .int x5), (6, .int x6)] [] h) (x0 : Nat) (x1 : Nat) (x2 : Nat) (x3 : Int32) (x4 : Int32) (x5 : Int32) (x6 : Int32) (x7 : Int64) (x9 : Int32) (x11 : Int32) (x12 : Int32) (x14 : Int32) (x15 : Int32) (x16 : Int32) (x17 : Int32) (x18 : Int32) (x19 : Int64) (x21 : Int32) (x22 : Int32) (x23 : Int32) (x26 : Int32) (x27 : Int32) (y0 : Int32) (h : AH) (w : wL_law_J565 K c31 x0 x1 x2 x3 x4 x5 x6 x7 x9 x11 x12 x14 x15 x16 x17 x18 x19 x21 x22 x23 x26 x27 y0 h) : X mZ_law 22 (KI K) T0 (rc0 + 1666) (rs0 + 80442) 565 [(0, .ref x0), (1, .ref x1), (2, .ref x2), (3, .int x3), (4, .int x4), (5, .int x5), (6, .int x6), (7, .long x7), (9, .int x9), (11, .int x11), (12, .int x12), (14, .int x14), (15, .int x15), (16, .int x16), (17, .int x17), (18, .int x18), (19, .long x19), (21, .int x21), (22, .int x22), (23, .int x23), (26, .int x26), (27, .int x27)] [.int y0] h := by
  unfold wL_law_J565 at w
  refine X_iconst (v := (nI 1)) (show decode cL_law 565 = .ok (.iconst 1, 1) by decide +kernel) (by decide) ?_
  refine X_goto (tgt := 570) (show decode cL_law 566 = .ok (.goto 4, 3) by decide +kernel) (by decide) ?_
  exact kL_law_J570 hc31 _ _ _ _ _ _ _ _ _ _ _ _ _ _ _ _ _ _ _ _ _ _ _ _ _ w
set_option maxRecDepth 100000 in
set_option maxHeartbeats 4000000 in
theorem kL_law_J569 {rc0 rs0 : Nat} {K : Int32 → AH → Prop} {c31 : Nat → Nat → Nat → Int32 → Int32 → Int32 → Int32 → AH → Prop} (hc31 : ∀ x0 x1 x2 x3 x4 x5 x6 h, c31 x0 x1 x2 x3 x4 x5 x6 h → X mZ_law 22 (KI K) T0 rc0 rs0 31 [(0, .ref x0), (1, .ref x1), (2, .ref x2), (3, .int x3), (4, .int x4), (5, .int x5), (6, .int x6)] [] h) (x0 : Nat) (x1 : Nat) (x2 : Nat) (x3 : Int32) (x4 : Int32) (x5 : Int32) (x6 : Int32) (x7 : Int64) (x9 : Int32) (x11 : Int32) (x12 : Int32) (x14 : Int32) (x15 : Int32) (x16 : Int32) (x17 : Int32) (x18 : Int32) (x19 : Int64) (x21 : Int32) (x22 : Int32) (x23 : Int32) (x26 : Int32) (x27 : Int32) (y0 : Int32) (h : AH) (w : wL_law_J569 K c31 x0 x1 x2 x3 x4 x5 x6 x7 x9 x11 x12 x14 x15 x16 x17 x18 x19 x21 x22 x23 x26 x27 y0 h) : X mZ_law 22 (KI K) T0 (rc0 + 1666) (rs0 + 80442) 569 [(0, .ref x0), (1, .ref x1), (2, .ref x2), (3, .int x3), (4, .int x4), (5, .int x5), (6, .int x6), (7, .long x7), (9, .int x9), (11, .int x11), (12, .int x12), (14, .int x14), (15, .int x15), (16, .int x16), (17, .int x17), (18, .int x18), (19, .long x19), (21, .int x21), (22, .int x22), (23, .int x23), (26, .int x26), (27, .int x27)] [.int y0] h := by
  unfold wL_law_J569 at w
  refine X_iconst (v := (nI 0)) (show decode cL_law 569 = .ok (.iconst 0, 1) by decide +kernel) (by decide) ?_
  exact kL_law_J570 hc31 _ _ _ _ _ _ _ _ _ _ _ _ _ _ _ _ _ _ _ _ _ _ _ _ _ w
set_option maxRecDepth 100000 in
set_option maxHeartbeats 4000000 in
theorem kL_law_J393 {rc0 rs0 : Nat} {K : Int32 → AH → Prop} {c31 : Nat → Nat → Nat → Int32 → Int32 → Int32 → Int32 → AH → Prop} (hc31 : ∀ x0 x1 x2 x3 x4 x5 x6 h, c31 x0 x1 x2 x3 x4 x5 x6 h → X mZ_law 22 (KI K) T0 rc0 rs0 31 [(0, .ref x0), (1, .ref x1), (2, .ref x2), (3, .int x3), (4, .int x4), (5, .int x5), (6, .int x6)] [] h) (x0 : Nat) (x1 : Nat) (x2 : Nat) (x3 : Int32) (x4 : Int32) (x6 : Int32) (x7 : Int64) (x9 : Int32) (x11 : Int32) (x12 : Int32) (x13 : Int32) (x14 : Int32) (x15 : Int32) (x16 : Int32) (x17 : Int32) (x18 : Int32) (x19 : Int64) (x21 : Int32) (x22 : Int32) (x23 : Int32) (x25 : Int32) (x26 : Int32) (x27 : Int32) (x29 : Int32) (y0 : Int32) (y1 : Int32) (h : AH) (w : wL_law_J393 K c31 x0 x1 x2 x3 x4 x6 x7 x9 x11 x12 x13 x14 x15 x16 x17 x18 x19 x21 x22 x23 x25 x26 x27 x29 y0 y1 h) : X mZ_law 22 (KI K) T0 (rc0 + 1680) (rs0 + 80526) 393 [(0, .ref x0), (1, .ref x1), (2, .ref x2), (3, .int x3), (4, .int x4), (6, .int x6), (7, .long x7), (9, .int x9), (11, .int x11), (12, .int x12), (13, .int x13), (14, .int x14), (15, .int x15), (16, .int x16), (17, .int x17), (18, .int x18), (19, .long x19), (21, .int x21), (22, .int x22), (23, .int x23), (25, .int x25), (26, .int x26), (27, .int x27), (29, .int x29)] [.int y1, .int y0] h := by
  unfold wL_law_J393 at w
  refine X_iadd (show decode cL_law 393 = .ok (.iadd, 1) by decide +kernel) ?_
  refine X_istore (ls' := [(0, .ref _), (1, .ref _), (2, .ref _), (3, .int _), (4, .int _), (5, .int _), (6, .int _), (7, .long _), (9, .int _), (11, .int _), (12, .int _), (13, .int _), (14, .int _), (15, .int _), (16, .int _), (17, .int _), (18, .int _), (19, .long _), (21, .int _), (22, .int _), (23, .int _), (25, .int _), (26, .int _), (27, .int _), (29, .int _)]) (show decode cL_law 394 = .ok (.istore 5, 2) by decide +kernel) (by decide) rfl ?_
  refine X_iload (j := 24) (show decode cL_law 396 = .ok (.iload 29, 2) by decide +kernel) rfl ?_
  refine X_iload (j := 8) (show decode cL_law 398 = .ok (.iload 9, 2) by decide +kernel) rfl ?_
  refine X_bipush (v := (nI 22)) (show decode cL_law 400 = .ok (.bipush 22, 2) by decide +kernel) (by decide) ?_
  refine X_icmp_lt (tgt := 565) (show decode cL_law 402 = .ok (.if_icmp .lt 163, 3) by decide +kernel) (by decide) ⟨fun c67 => ?_, fun c67 => ?_⟩
  · have w := w.1 c67
    refine X_room (rc' := (rc0 + 1666)) (rs' := (rs0 + 80442)) (by omega) (by omega) ?_
    refine X_pick (ls' := [(0, .ref _), (1, .ref _), (2, .ref _), (3, .int _), (4, .int _), (5, .int _), (6, .int _), (7, .long _), (9, .int _), (11, .int _), (12, .int _), (14, .int _), (15, .int _), (16, .int _), (17, .int _), (18, .int _), (19, .long _), (21, .int _), (22, .int _), (23, .int _), (26, .int _), (27, .int _)]) [0, 1, 2, 3, 4, 5, 6, 7, 8, 9, 10, 12, 13, 14, 15, 16, 17, 18, 19, 20, 22, 23] rfl ?_
    exact kL_law_J565 hc31 _ _ _ _ _ _ _ _ _ _ _ _ _ _ _ _ _ _ _ _ _ _ _ _ w
  · have w := w.2 c67
    refine X_iload (j := 8) (show decode cL_law 405 = .ok (.iload 9, 2) by decide +kernel) rfl ?_
    refine X_bipush (v := (nI 27)) (show decode cL_law 407 = .ok (.bipush 27, 2) by decide +kernel) (by decide) ?_
    refine X_icmp_gt (tgt := 565) (show decode cL_law 409 = .ok (.if_icmp .gt 156, 3) by decide +kernel) (by decide) ⟨fun c145 => ?_, fun c145 => ?_⟩
    · have w := w.1 c145
      refine X_room (rc' := (rc0 + 1666)) (rs' := (rs0 + 80442)) (by omega) (by omega) ?_
      refine X_pick (ls' := [(0, .ref _), (1, .ref _), (2, .ref _), (3, .int _), (4, .int _), (5, .int _), (6, .int _), (7, .long _), (9, .int _), (11, .int _), (12, .int _), (14, .int _), (15, .int _), (16, .int _), (17, .int _), (18, .int _), (19, .long _), (21, .int _), (22, .int _), (23, .int _), (26, .int _), (27, .int _)]) [0, 1, 2, 3, 4, 5, 6, 7, 8, 9, 10, 12, 13, 14, 15, 16, 17, 18, 19, 20, 22, 23] rfl ?_
      exact kL_law_J565 hc31 _ _ _ _ _ _ _ _ _ _ _ _ _ _ _ _ _ _ _ _ _ _ _ _ w
    · have w := w.2 c145
      refine X_iload (j := 23) (show decode cL_law 412 = .ok (.iload 27, 2) by decide +kernel) rfl ?_
      refine X_if_eq (tgt := 474) (show decode cL_law 414 = .ok (.ifCond .eq 60, 3) by decide +kernel) (by decide) ⟨fun c146 => ?_, fun c146 => ?_⟩
      · have w := w.1 c146
        refine X_iload (j := 22) (show decode cL_law 474 = .ok (.iload 26, 2) by decide +kernel) rfl ?_
        refine X_bipush (v := (-75)) (show decode cL_law 476 = .ok (.bipush (-75), 2) by decide +kernel) (by decide) ?_
        refine X_icmp_ne (tgt := 489) (show decode cL_law 478 = .ok (.if_icmp .ne 11, 3) by decide +kernel) (by decide) ⟨fun c147 => ?_, fun c147 => ?_⟩
        · have w := w.1 c147
          refine X_iload (j := 22) (show decode cL_law 489 = .ok (.iload 26, 2) by decide +kernel) rfl ?_
          refine X_bipush (v := (-79)) (show decode cL_law 491 = .ok (.bipush (-79), 2) by decide +kernel) (by decide) ?_
          refine X_icmp_ne (tgt := 505) (show decode cL_law 493 = .ok (.if_icmp .ne 12, 3) by decide +kernel) (by decide) ⟨fun c148 => ?_, fun c148 => ?_⟩
          · have w := w.1 c148
            refine X_iload (j := 11) (show decode cL_law 505 = .ok (.iload 13, 2) by decide +kernel) rfl ?_
            refine X_if_ne (tgt := 569) (show decode cL_law 507 = .ok (.ifCond .ne 62, 3) by decide +kernel) (by decide) ⟨fun c149 => ?_, fun c149 => ?_⟩
            · have w := w.1 c149
              refine X_room (rc' := (rc0 + 1666)) (rs' := (rs0 + 80442)) (by omega) (by omega) ?_
              refine X_pick (ls' := [(0, .ref _), (1, .ref _), (2, .ref _), (3, .int _), (4, .int _), (5, .int _), (6, .int _), (7, .long _), (9, .int _), (11, .int _), (12, .int _), (14, .int _), (15, .int _), (16, .int _), (17, .int _), (18, .int _), (19, .long _), (21, .int _), (22, .int _), (23, .int _), (26, .int _), (27, .int _)]) [0, 1, 2, 3, 4, 5, 6, 7, 8, 9, 10, 12, 13, 14, 15, 16, 17, 18, 19, 20, 22, 23] rfl ?_
              exact kL_law_J569 hc31 _ _ _ _ _ _ _ _ _ _ _ _ _ _ _ _ _ _ _ _ _ _ _ _ w
            · have w := w.2 c149
              refine X_iload (j := 10) (show decode cL_law 510 = .ok (.iload 12, 2) by decide +kernel) rfl ?_
              refine X_if_ne (tgt := 569) (show decode cL_law 512 = .ok (.ifCond .ne 57, 3) by decide +kernel) (by decide) ⟨fun c150 => ?_, fun c150 => ?_⟩
              · have w := w.1 c150
                refine X_room (rc' := (rc0 + 1666)) (rs' := (rs0 + 80442)) (by omega) (by omega) ?_
                refine X_pick (ls' := [(0, .ref _), (1, .ref _), (2, .ref _), (3, .int _), (4, .int _), (5, .int _), (6, .int _), (7, .long _), (9, .int _), (11, .int _), (12, .int _), (14, .int _), (15, .int _), (16, .int _), (17, .int _), (18, .int _), (19, .long _), (21, .int _), (22, .int _), (23, .int _), (26, .int _), (27, .int _)]) [0, 1, 2, 3, 4, 5, 6, 7, 8, 9, 10, 12, 13, 14, 15, 16, 17, 18, 19, 20, 22, 23] rfl ?_
                exact kL_law_J569 hc31 _ _ _ _ _ _ _ _ _ _ _ _ _ _ _ _ _ _ _ _ _ _ _ _ w
              · have w := w.2 c150
                refine X_iload (j := 21) (show decode cL_law 515 = .ok (.iload 25, 2) by decide +kernel) rfl ?_
                refine X_if_ge (tgt := 541) (show decode cL_law 517 = .ok (.ifCond .ge 24, 3) by decide +kernel) (by decide) ⟨fun c151 => ?_, fun c151 => ?_⟩
                · have w := w.1 c151
                  refine X_aload_n (j := 1) (show decode cL_law 541 = .ok (.aload_n 1, 1) by decide +kernel) rfl rfl ?_
                  refine X_sH (rc' := (rc0 + 1679)) (rs' := (rs0 + 80520)) (as := [.ref _]) msh_L_180 (show decode cL_law 542 = .ok (.invokestatic 180, 3) by decide +kernel) (by decide) (by omega) (by omega) rfl rfl (Nat.le_of_ble_eq_true rfl) (kL_refusalReason w) (fun r153 h152 w => ?_)
                  refine X_aload_n (j := 1) (show decode cL_law 545 = .ok (.aload_n 1, 1) by decide +kernel) rfl rfl ?_
                  refine X_aload_n (j := 1) (show decode cL_law 546 = .ok (.aload_n 1, 1) by decide +kernel) rfl rfl ?_
                  refine X_sH (rc' := (rc0 + 1678)) (rs' := (rs0 + 80514)) (as := [.ref _]) msh_L_182 (show decode cL_law 547 = .ok (.invokestatic 182, 3) by decide +kernel) (by decide) (by omega) (by omega) rfl rfl (Nat.le_of_ble_eq_true rfl) (kL_refusalBlock w) (fun r155 h154 w => ?_)
                  refine X_sH (rc' := (rc0 + 1677)) (rs' := (rs0 + 80508)) (as := [.ref _, .int _]) msh_L_245 (show decode cL_law 550 = .ok (.invokestatic 245, 3) by decide +kernel) (by decide) (by omega) (by omega) rfl rfl (Nat.le_of_ble_eq_true rfl) (kL_blockState w) (fun r157 h156 w => ?_)
                  refine X_icmp_ne (tgt := 569) (show decode cL_law 553 = .ok (.if_icmp .ne 16, 3) by decide +kernel) (by decide) ⟨fun c158 => ?_, fun c158 => ?_⟩
                  · have w := w.1 c158
                    refine X_room (rc' := (rc0 + 1666)) (rs' := (rs0 + 80442)) (by omega) (by omega) ?_
                    refine X_pick (ls' := [(0, .ref _), (1, .ref _), (2, .ref _), (3, .int _), (4, .int _), (5, .int _), (6, .int _), (7, .long _), (9, .int _), (11, .int _), (12, .int _), (14, .int _), (15, .int _), (16, .int _), (17, .int _), (18, .int _), (19, .long _), (21, .int _), (22, .int _), (23, .int _), (26, .int _), (27, .int _)]) [0, 1, 2, 3, 4, 5, 6, 7, 8, 9, 10, 12, 13, 14, 15, 16, 17, 18, 19, 20, 22, 23] rfl ?_
                    exact kL_law_J569 hc31 _ _ _ _ _ _ _ _ _ _ _ _ _ _ _ _ _ _ _ _ _ _ _ _ w
                  · have w := w.2 c158
                    refine X_aload_n (j := 1) (show decode cL_law 556 = .ok (.aload_n 1, 1) by decide +kernel) rfl rfl ?_
                    refine X_sH (rc' := (rc0 + 1676)) (rs' := (rs0 + 80502)) (as := [.ref _]) msh_L_180 (show decode cL_law 557 = .ok (.invokestatic 180, 3) by decide +kernel) (by decide) (by omega) (by omega) rfl rfl (Nat.le_of_ble_eq_true rfl) (kL_refusalReason w) (fun r160 h159 w => ?_)
                    refine X_bipush (v := (nI 102)) (show decode cL_law 560 = .ok (.bipush 102, 2) by decide +kernel) (by decide) ?_
                    refine X_icmp_eq (tgt := 569) (show decode cL_law 562 = .ok (.if_icmp .eq 7, 3) by decide +kernel) (by decide) ⟨fun c161 => ?_, fun c161 => ?_⟩
                    · have w := w.1 c161
                      refine X_room (rc' := (rc0 + 1666)) (rs' := (rs0 + 80442)) (by omega) (by omega) ?_
                      refine X_pick (ls' := [(0, .ref _), (1, .ref _), (2, .ref _), (3, .int _), (4, .int _), (5, .int _), (6, .int _), (7, .long _), (9, .int _), (11, .int _), (12, .int _), (14, .int _), (15, .int _), (16, .int _), (17, .int _), (18, .int _), (19, .long _), (21, .int _), (22, .int _), (23, .int _), (26, .int _), (27, .int _)]) [0, 1, 2, 3, 4, 5, 6, 7, 8, 9, 10, 12, 13, 14, 15, 16, 17, 18, 19, 20, 22, 23] rfl ?_
                      exact kL_law_J569 hc31 _ _ _ _ _ _ _ _ _ _ _ _ _ _ _ _ _ _ _ _ _ _ _ _ w
                    · have w := w.2 c161
                      refine X_room (rc' := (rc0 + 1666)) (rs' := (rs0 + 80442)) (by omega) (by omega) ?_
                      refine X_pick (ls' := [(0, .ref _), (1, .ref _), (2, .ref _), (3, .int _), (4, .int _), (5, .int _), (6, .int _), (7, .long _), (9, .int _), (11, .int _), (12, .int _), (14, .int _), (15, .int _), (16, .int _), (17, .int _), (18, .int _), (19, .long _), (21, .int _), (22, .int _), (23, .int _), (26, .int _), (27, .int _)]) [0, 1, 2, 3, 4, 5, 6, 7, 8, 9, 10, 12, 13, 14, 15, 16, 17, 18, 19, 20, 22, 23] rfl ?_
                      exact kL_law_J565 hc31 _ _ _ _ _ _ _ _ _ _ _ _ _ _ _ _ _ _ _ _ _ _ _ _ w
                · have w := w.2 c151
                  refine X_aload_n (j := 1) (show decode cL_law 520 = .ok (.aload_n 1, 1) by decide +kernel) rfl rfl ?_
                  refine X_sH (rc' := (rc0 + 1679)) (rs' := (rs0 + 80520)) (as := [.ref _]) msh_L_180 (show decode cL_law 521 = .ok (.invokestatic 180, 3) by decide +kernel) (by decide) (by omega) (by omega) rfl rfl (Nat.le_of_ble_eq_true rfl) (kL_refusalReason w) (fun r163 h162 w => ?_)
                  refine X_bipush (v := (nI 110)) (show decode cL_law 524 = .ok (.bipush 110, 2) by decide +kernel) (by decide) ?_
                  refine X_icmp_ne (tgt := 569) (show decode cL_law 526 = .ok (.if_icmp .ne 43, 3) by decide +kernel) (by decide) ⟨fun c164 => ?_, fun c164 => ?_⟩
                  · have w := w.1 c164
                    refine X_room (rc' := (rc0 + 1666)) (rs' := (rs0 + 80442)) (by omega) (by omega) ?_
                    refine X_pick (ls' := [(0, .ref _), (1, .ref _), (2, .ref _), (3, .int _), (4, .int _), (5, .int _), (6, .int _), (7, .long _), (9, .int _), (11, .int _), (12, .int _), (14, .int _), (15, .int _), (16, .int _), (17, .int _), (18, .int _), (19, .long _), (21, .int _), (22, .int _), (23, .int _), (26, .int _), (27, .int _)]) [0, 1, 2, 3, 4, 5, 6, 7, 8, 9, 10, 12, 13, 14, 15, 16, 17, 18, 19, 20, 22, 23] rfl ?_
                    exact kL_law_J569 hc31 _ _ _ _ _ _ _ _ _ _ _ _ _ _ _ _ _ _ _ _ _ _ _ _ w
                  · have w := w.2 c164
                    refine X_aload_n (j := 1) (show decode cL_law 529 = .ok (.aload_n 1, 1) by decide +kernel) rfl rfl ?_
                    refine X_sH (rc' := (rc0 + 1678)) (rs' := (rs0 + 80514)) (as := [.ref _]) msh_L_182 (show decode cL_law 530 = .ok (.invokestatic 182, 3) by decide +kernel) (by decide) (by omega) (by omega) rfl rfl (Nat.le_of_ble_eq_true rfl) (kL_refusalBlock w) (fun r166 h165 w => ?_)
                    refine X_bipush (v := (-75)) (show decode cL_law 533 = .ok (.bipush (-75), 2) by decide +kernel) (by decide) ?_
                    refine X_icmp_ne (tgt := 569) (show decode cL_law 535 = .ok (.if_icmp .ne 34, 3) by decide +kernel) (by decide) ⟨fun c167 => ?_, fun c167 => ?_⟩
                    · have w := w.1 c167
                      refine X_room (rc' := (rc0 + 1666)) (rs' := (rs0 + 80442)) (by omega) (by omega) ?_
                      refine X_pick (ls' := [(0, .ref _), (1, .ref _), (2, .ref _), (3, .int _), (4, .int _), (5, .int _), (6, .int _), (7, .long _), (9, .int _), (11, .int _), (12, .int _), (14, .int _), (15, .int _), (16, .int _), (17, .int _), (18, .int _), (19, .long _), (21, .int _), (22, .int _), (23, .int _), (26, .int _), (27, .int _)]) [0, 1, 2, 3, 4, 5, 6, 7, 8, 9, 10, 12, 13, 14, 15, 16, 17, 18, 19, 20, 22, 23] rfl ?_
                      exact kL_law_J569 hc31 _ _ _ _ _ _ _ _ _ _ _ _ _ _ _ _ _ _ _ _ _ _ _ _ w
                    · have w := w.2 c167
                      refine X_goto (tgt := 565) (show decode cL_law 538 = .ok (.goto 27, 3) by decide +kernel) (by decide) ?_
                      refine X_room (rc' := (rc0 + 1666)) (rs' := (rs0 + 80442)) (by omega) (by omega) ?_
                      refine X_pick (ls' := [(0, .ref _), (1, .ref _), (2, .ref _), (3, .int _), (4, .int _), (5, .int _), (6, .int _), (7, .long _), (9, .int _), (11, .int _), (12, .int _), (14, .int _), (15, .int _), (16, .int _), (17, .int _), (18, .int _), (19, .long _), (21, .int _), (22, .int _), (23, .int _), (26, .int _), (27, .int _)]) [0, 1, 2, 3, 4, 5, 6, 7, 8, 9, 10, 12, 13, 14, 15, 16, 17, 18, 19, 20, 22, 23] rfl ?_
                      exact kL_law_J565 hc31 _ _ _ _ _ _ _ _ _ _ _ _ _ _ _ _ _ _ _ _ _ _ _ _ w
          · have w := w.2 c148
            refine X_iload (j := 10) (show decode cL_law 496 = .ok (.iload 12, 2) by decide +kernel) rfl ?_
            refine X_iconst (v := (nI 1)) (show decode cL_law 498 = .ok (.iconst 1, 1) by decide +kernel) (by decide) ?_
            refine X_icmp_ne (tgt := 569) (show decode cL_law 499 = .ok (.if_icmp .ne 70, 3) by decide +kernel) (by decide) ⟨fun c168 => ?_, fun c168 => ?_⟩
            · have w := w.1 c168
              refine X_room (rc' := (rc0 + 1666)) (rs' := (rs0 + 80442)) (by omega) (by omega) ?_
              refine X_pick (ls' := [(0, .ref _), (1, .ref _), (2, .ref _), (3, .int _), (4, .int _), (5, .int _), (6, .int _), (7, .long _), (9, .int _), (11, .int _), (12, .int _), (14, .int _), (15, .int _), (16, .int _), (17, .int _), (18, .int _), (19, .long _), (21, .int _), (22, .int _), (23, .int _), (26, .int _), (27, .int _)]) [0, 1, 2, 3, 4, 5, 6, 7, 8, 9, 10, 12, 13, 14, 15, 16, 17, 18, 19, 20, 22, 23] rfl ?_
              exact kL_law_J569 hc31 _ _ _ _ _ _ _ _ _ _ _ _ _ _ _ _ _ _ _ _ _ _ _ _ w
            · have w := w.2 c168
              refine X_goto (tgt := 565) (show decode cL_law 502 = .ok (.goto 63, 3) by decide +kernel) (by decide) ?_
              refine X_room (rc' := (rc0 + 1666)) (rs' := (rs0 + 80442)) (by omega) (by omega) ?_
              refine X_pick (ls' := [(0, .ref _), (1, .ref _), (2, .ref _), (3, .int _), (4, .int _), (5, .int _), (6, .int _), (7, .long _), (9, .int _), (11, .int _), (12, .int _), (14, .int _), (15, .int _), (16, .int _), (17, .int _), (18, .int _), (19, .long _), (21, .int _), (22, .int _), (23, .int _), (26, .int _), (27, .int _)]) [0, 1, 2, 3, 4, 5, 6, 7, 8, 9, 10, 12, 13, 14, 15, 16, 17, 18, 19, 20, 22, 23] rfl ?_
              exact kL_law_J565 hc31 _ _ _ _ _ _ _ _ _ _ _ _ _ _ _ _ _ _ _ _ _ _ _ _ w
        · have w := w.2 c147
          refine X_iload (j := 10) (show decode cL_law 481 = .ok (.iload 12, 2) by decide +kernel) rfl ?_
          refine X_if_ge (tgt := 569) (show decode cL_law 483 = .ok (.ifCond .ge 86, 3) by decide +kernel) (by decide) ⟨fun c169 => ?_, fun c169 => ?_⟩
          · have w := w.1 c169
            refine X_room (rc' := (rc0 + 1666)) (rs' := (rs0 + 80442)) (by omega) (by omega) ?_
            refine X_pick (ls' := [(0, .ref _), (1, .ref _), (2, .ref _), (3, .int _), (4, .int _), (5, .int _), (6, .int _), (7, .long _), (9, .int _), (11, .int _), (12, .int _), (14, .int _), (15, .int _), (16, .int _), (17, .int _), (18, .int _), (19, .long _), (21, .int _), (22, .int _), (23, .int _), (26, .int _), (27, .int _)]) [0, 1, 2, 3, 4, 5, 6, 7, 8, 9, 10, 12, 13, 14, 15, 16, 17, 18, 19, 20, 22, 23] rfl ?_
            exact kL_law_J569 hc31 _ _ _ _ _ _ _ _ _ _ _ _ _ _ _ _ _ _ _ _ _ _ _ _ w
          · have w := w.2 c169
            refine X_goto (tgt := 565) (show decode cL_law 486 = .ok (.goto 79, 3) by decide +kernel) (by decide) ?_
            refine X_room (rc' := (rc0 + 1666)) (rs' := (rs0 + 80442)) (by omega) (by omega) ?_
            refine X_pick (ls' := [(0, .ref _), (1, .ref _), (2, .ref _), (3, .int _), (4, .int _), (5, .int _), (6, .int _), (7, .long _), (9, .int _), (11, .int _), (12, .int _), (14, .int _), (15, .int _), (16, .int _), (17, .int _), (18, .int _), (19, .long _), (21, .int _), (22, .int _), (23, .int _), (26, .int _), (27, .int _)]) [0, 1, 2, 3, 4, 5, 6, 7, 8, 9, 10, 12, 13, 14, 15, 16, 17, 18, 19, 20, 22, 23] rfl ?_
            exact kL_law_J565 hc31 _ _ _ _ _ _ _ _ _ _ _ _ _ _ _ _ _ _ _ _ _ _ _ _ w
      · have w := w.2 c146
        refine X_iload (j := 11) (show decode cL_law 417 = .ok (.iload 13, 2) by decide +kernel) rfl ?_
        refine X_iconst (v := (nI 1)) (show decode cL_law 419 = .ok (.iconst 1, 1) by decide +kernel) (by decide) ?_
        refine X_icmp_ne (tgt := 569) (show decode cL_law 420 = .ok (.if_icmp .ne 149, 3) by decide +kernel) (by decide) ⟨fun c170 => ?_, fun c170 => ?_⟩
        · have w := w.1 c170
          refine X_room (rc' := (rc0 + 1666)) (rs' := (rs0 + 80442)) (by omega) (by omega) ?_
          refine X_pick (ls' := [(0, .ref _), (1, .ref _), (2, .ref _), (3, .int _), (4, .int _), (5, .int _), (6, .int _), (7, .long _), (9, .int _), (11, .int _), (12, .int _), (14, .int _), (15, .int _), (16, .int _), (17, .int _), (18, .int _), (19, .long _), (21, .int _), (22, .int _), (23, .int _), (26, .int _), (27, .int _)]) [0, 1, 2, 3, 4, 5, 6, 7, 8, 9, 10, 12, 13, 14, 15, 16, 17, 18, 19, 20, 22, 23] rfl ?_
          exact kL_law_J569 hc31 _ _ _ _ _ _ _ _ _ _ _ _ _ _ _ _ _ _ _ _ _ _ _ _ w
        · have w := w.2 c170
          refine X_iload (j := 22) (show decode cL_law 423 = .ok (.iload 26, 2) by decide +kernel) rfl ?_
          refine X_iload (j := 21) (show decode cL_law 425 = .ok (.iload 25, 2) by decide +kernel) rfl ?_
          refine X_icmp_ne (tgt := 569) (show decode cL_law 427 = .ok (.if_icmp .ne 142, 3) by decide +kernel) (by decide) ⟨fun c171 => ?_, fun c171 => ?_⟩
          · have w := w.1 c171
            refine X_room (rc' := (rc0 + 1666)) (rs' := (rs0 + 80442)) (by omega) (by omega) ?_
            refine X_pick (ls' := [(0, .ref _), (1, .ref _), (2, .ref _), (3, .int _), (4, .int _), (5, .int _), (6, .int _), (7, .long _), (9, .int _), (11, .int _), (12, .int _), (14, .int _), (15, .int _), (16, .int _), (17, .int _), (18, .int _), (19, .long _), (21, .int _), (22, .int _), (23, .int _), (26, .int _), (27, .int _)]) [0, 1, 2, 3, 4, 5, 6, 7, 8, 9, 10, 12, 13, 14, 15, 16, 17, 18, 19, 20, 22, 23] rfl ?_
            exact kL_law_J569 hc31 _ _ _ _ _ _ _ _ _ _ _ _ _ _ _ _ _ _ _ _ _ _ _ _ w
          · have w := w.2 c171
            refine X_aload_n (j := 1) (show decode cL_law 430 = .ok (.aload_n 1, 1) by decide +kernel) rfl rfl ?_
            refine X_iload (j := 9) (show decode cL_law 431 = .ok (.iload 11, 2) by decide +kernel) rfl ?_
            refine X_sH (rc' := (rc0 + 1679)) (rs' := (rs0 + 80520)) (as := [.ref _, .int _]) msh_L_203 (show decode cL_law 433 = .ok (.invokestatic 203, 3) by decide +kernel) (by decide) (by omega) (by omega) rfl rfl (Nat.le_of_ble_eq_true rfl) (kL_hasRoute w) (fun r173 h172 w => ?_)
            refine X_iconst (v := (nI 1)) (show decode cL_law 436 = .ok (.iconst 1, 1) by decide +kernel) (by decide) ?_
            refine X_icmp_ne (tgt := 569) (show decode cL_law 437 = .ok (.if_icmp .ne 132, 3) by decide +kernel) (by decide) ⟨fun c174 => ?_, fun c174 => ?_⟩
            · have w := w.1 c174
              refine X_room (rc' := (rc0 + 1666)) (rs' := (rs0 + 80442)) (by omega) (by omega) ?_
              refine X_pick (ls' := [(0, .ref _), (1, .ref _), (2, .ref _), (3, .int _), (4, .int _), (5, .int _), (6, .int _), (7, .long _), (9, .int _), (11, .int _), (12, .int _), (14, .int _), (15, .int _), (16, .int _), (17, .int _), (18, .int _), (19, .long _), (21, .int _), (22, .int _), (23, .int _), (26, .int _), (27, .int _)]) [0, 1, 2, 3, 4, 5, 6, 7, 8, 9, 10, 12, 13, 14, 15, 16, 17, 18, 19, 20, 22, 23] rfl ?_
              exact kL_law_J569 hc31 _ _ _ _ _ _ _ _ _ _ _ _ _ _ _ _ _ _ _ _ _ _ _ _ w
            · have w := w.2 c174
              refine X_aload_n (j := 1) (show decode cL_law 440 = .ok (.aload_n 1, 1) by decide +kernel) rfl rfl ?_
              refine X_iload (j := 9) (show decode cL_law 441 = .ok (.iload 11, 2) by decide +kernel) rfl ?_
              refine X_sH (rc' := (rc0 + 1678)) (rs' := (rs0 + 80514)) (as := [.ref _, .int _]) msh_L_205 (show decode cL_law 443 = .ok (.invokestatic 205, 3) by decide +kernel) (by decide) (by omega) (by omega) rfl rfl (Nat.le_of_ble_eq_true rfl) (kL_isClear w) (fun r176 h175 w => ?_)
              refine X_if_ne (tgt := 569) (show decode cL_law 446 = .ok (.ifCond .ne 123, 3) by decide +kernel) (by decide) ⟨fun c177 => ?_, fun c177 => ?_⟩
              · have w := w.1 c177
                refine X_room (rc' := (rc0 + 1666)) (rs' := (rs0 + 80442)) (by omega) (by omega) ?_
                refine X_pick (ls' := [(0, .ref _), (1, .ref _), (2, .ref _), (3, .int _), (4, .int _), (5, .int _), (6, .int _), (7, .long _), (9, .int _), (11, .int _), (12, .int _), (14, .int _), (15, .int _), (16, .int _), (17, .int _), (18, .int _), (19, .long _), (21, .int _), (22, .int _), (23, .int _), (26, .int _), (27, .int _)]) [0, 1, 2, 3, 4, 5, 6, 7, 8, 9, 10, 12, 13, 14, 15, 16, 17, 18, 19, 20, 22, 23] rfl ?_
                exact kL_law_J569 hc31 _ _ _ _ _ _ _ _ _ _ _ _ _ _ _ _ _ _ _ _ _ _ _ _ w
              · have w := w.2 c177
                refine X_aload_n (j := 1) (show decode cL_law 449 = .ok (.aload_n 1, 1) by decide +kernel) rfl rfl ?_
                refine X_iload (j := 9) (show decode cL_law 450 = .ok (.iload 11, 2) by decide +kernel) rfl ?_
                refine X_sH (rc' := (rc0 + 1676)) (rs' := (rs0 + 80502)) (as := [.ref _, .int _]) msh_L_207 (show decode cL_law 452 = .ok (.invokestatic 207, 3) by decide +kernel) (by decide) (by omega) (by omega) rfl rfl (Nat.le_of_ble_eq_true rfl) (kL_minutesUntilArrival w) (fun r179 h178 w => ?_)
                refine X_iload (j := 21) (show decode cL_law 455 = .ok (.iload 25, 2) by decide +kernel) rfl ?_
                refine X_icmp_ne (tgt := 569) (show decode cL_law 457 = .ok (.if_icmp .ne 112, 3) by decide +kernel) (by decide) ⟨fun c180 => ?_, fun c180 => ?_⟩
                · have w := w.1 c180
                  refine X_room (rc' := (rc0 + 1666)) (rs' := (rs0 + 80442)) (by omega) (by omega) ?_
                  refine X_pick (ls' := [(0, .ref _), (1, .ref _), (2, .ref _), (3, .int _), (4, .int _), (5, .int _), (6, .int _), (7, .long _), (9, .int _), (11, .int _), (12, .int _), (14, .int _), (15, .int _), (16, .int _), (17, .int _), (18, .int _), (19, .long _), (21, .int _), (22, .int _), (23, .int _), (26, .int _), (27, .int _)]) [0, 1, 2, 3, 4, 5, 6, 7, 8, 9, 10, 12, 13, 14, 15, 16, 17, 18, 19, 20, 22, 23] rfl ?_
                  exact kL_law_J569 hc31 _ _ _ _ _ _ _ _ _ _ _ _ _ _ _ _ _ _ _ _ _ _ _ _ w
                · have w := w.2 c180
                  refine X_aload_n (j := 1) (show decode cL_law 460 = .ok (.aload_n 1, 1) by decide +kernel) rfl rfl ?_
                  refine X_sI (rc' := (rc0 + 1666)) (rs' := (rs0 + 80442)) (as := [.ref _]) ms_L_221 (show decode cL_law 461 = .ok (.invokestatic 221, 3) by decide +kernel) (by decide) (by omega) (by omega) rfl rfl (Nat.le_of_ble_eq_true rfl) (kL_waiting w) (fun E h hk => hk.elim) (fun r182 h181 w => ?_)
                  refine X_iload (j := 18) (show decode cL_law 464 = .ok (.iload 21, 2) by decide +kernel) rfl ?_
                  refine X_iconst (v := (nI 1)) (show decode cL_law 466 = .ok (.iconst 1, 1) by decide +kernel) (by decide) ?_
                  refine X_isub (show decode cL_law 467 = .ok (.isub, 1) by decide +kernel) ?_
                  refine X_icmp_ne (tgt := 569) (show decode cL_law 468 = .ok (.if_icmp .ne 101, 3) by decide +kernel) (by decide) ⟨fun c183 => ?_, fun c183 => ?_⟩
                  · have w := w.1 c183
                    refine X_pick (ls' := [(0, .ref _), (1, .ref _), (2, .ref _), (3, .int _), (4, .int _), (5, .int _), (6, .int _), (7, .long _), (9, .int _), (11, .int _), (12, .int _), (14, .int _), (15, .int _), (16, .int _), (17, .int _), (18, .int _), (19, .long _), (21, .int _), (22, .int _), (23, .int _), (26, .int _), (27, .int _)]) [0, 1, 2, 3, 4, 5, 6, 7, 8, 9, 10, 12, 13, 14, 15, 16, 17, 18, 19, 20, 22, 23] rfl ?_
                    exact kL_law_J569 hc31 _ _ _ _ _ _ _ _ _ _ _ _ _ _ _ _ _ _ _ _ _ _ _ _ w
                  · have w := w.2 c183
                    refine X_goto (tgt := 565) (show decode cL_law 471 = .ok (.goto 94, 3) by decide +kernel) (by decide) ?_
                    refine X_pick (ls' := [(0, .ref _), (1, .ref _), (2, .ref _), (3, .int _), (4, .int _), (5, .int _), (6, .int _), (7, .long _), (9, .int _), (11, .int _), (12, .int _), (14, .int _), (15, .int _), (16, .int _), (17, .int _), (18, .int _), (19, .long _), (21, .int _), (22, .int _), (23, .int _), (26, .int _), (27, .int _)]) [0, 1, 2, 3, 4, 5, 6, 7, 8, 9, 10, 12, 13, 14, 15, 16, 17, 18, 19, 20, 22, 23] rfl ?_
                    exact kL_law_J565 hc31 _ _ _ _ _ _ _ _ _ _ _ _ _ _ _ _ _ _ _ _ _ _ _ _ w
set_option maxRecDepth 100000 in
set_option maxHeartbeats 4000000 in
theorem kL_law_J379 {rc0 rs0 : Nat} {K : Int32 → AH → Prop} {c31 : Nat → Nat → Nat → Int32 → Int32 → Int32 → Int32 → AH → Prop} (hc31 : ∀ x0 x1 x2 x3 x4 x5 x6 h, c31 x0 x1 x2 x3 x4 x5 x6 h → X mZ_law 22 (KI K) T0 rc0 rs0 31 [(0, .ref x0), (1, .ref x1), (2, .ref x2), (3, .int x3), (4, .int x4), (5, .int x5), (6, .int x6)] [] h) (x0 : Nat) (x1 : Nat) (x2 : Nat) (x3 : Int32) (x4 : Int32) (x5 : Int32) (x6 : Int32) (x7 : Int64) (x9 : Int32) (x11 : Int32) (x12 : Int32) (x13 : Int32) (x14 : Int32) (x15 : Int32) (x16 : Int32) (x17 : Int32) (x18 : Int32) (x19 : Int64) (x21 : Int32) (x22 : Int32) (x23 : Int32) (x25 : Int32) (x26 : Int32) (x27 : Int32) (x28 : Int32) (y0 : Int32) (h : AH) (w : wL_law_J379 K c31 x0 x1 x2 x3 x4 x5 x6 x7 x9 x11 x12 x13 x14 x15 x16 x17 x18 x19 x21 x22 x23 x25 x26 x27 x28 y0 h) : X mZ_law 22 (KI K) T0 (rc0 + 1680) (rs0 + 80526) 379 [(0, .ref x0), (1, .ref x1), (2, .ref x2), (3, .int x3), (4, .int x4), (5, .int x5), (6, .int x6), (7, .long x7), (9, .int x9), (11, .int x11), (12, .int x12), (13, .int x13), (14, .int x14), (15, .int x15), (16, .int x16), (17, .int x17), (18, .int x18), (19, .long x19), (21, .int x21), (22, .int x22), (23, .int x23), (25, .int x25), (26, .int x26), (27, .int x27), (28, .int x28)] [.int y0] h := by
  unfold wL_law_J379 at w
  refine X_istore (ls' := [(0, .ref _), (1, .ref _), (2, .ref _), (3, .int _), (4, .int _), (5, .int _), (6, .int _), (7, .long _), (9, .int _), (11, .int _), (12, .int _), (13, .int _), (14, .int _), (15, .int _), (16, .int _), (17, .int _), (18, .int _), (19, .long _), (21, .int _), (22, .int _), (23, .int _), (25, .int _), (26, .int _), (27, .int _), (28, .int _), (29, .int _)]) (show decode cL_law 379 = .ok (.istore 29, 2) by decide +kernel) (by decide) rfl ?_
  refine X_iload (j := 5) (show decode cL_law 381 = .ok (.iload 5, 2) by decide +kernel) rfl ?_
  refine X_iload (j := 24) (show decode cL_law 383 = .ok (.iload 28, 2) by decide +kernel) rfl ?_
  refine X_if_eq (tgt := 392) (show decode cL_law 385 = .ok (.ifCond .eq 7, 3) by decide +kernel) (by decide) ⟨fun c66 => ?_, fun c66 => ?_⟩
  · have w := w.1 c66
    refine X_iconst (v := (nI 0)) (show decode cL_law 392 = .ok (.iconst 0, 1) by decide +kernel) (by decide) ?_
    refine X_pick (ls' := [(0, .ref _), (1, .ref _), (2, .ref _), (3, .int _), (4, .int _), (6, .int _), (7, .long _), (9, .int _), (11, .int _), (12, .int _), (13, .int _), (14, .int _), (15, .int _), (16, .int _), (17, .int _), (18, .int _), (19, .long _), (21, .int _), (22, .int _), (23, .int _), (25, .int _), (26, .int _), (27, .int _), (29, .int _)]) [0, 1, 2, 3, 4, 6, 7, 8, 9, 10, 11, 12, 13, 14, 15, 16, 17, 18, 19, 20, 21, 22, 23, 25] rfl ?_
    exact kL_law_J393 hc31 _ _ _ _ _ _ _ _ _ _ _ _ _ _ _ _ _ _ _ _ _ _ _ _ _ _ _ w
  · have w := w.2 c66
    refine X_iconst (v := (nI 1)) (show decode cL_law 388 = .ok (.iconst 1, 1) by decide +kernel) (by decide) ?_
    refine X_goto (tgt := 393) (show decode cL_law 389 = .ok (.goto 4, 3) by decide +kernel) (by decide) ?_
    refine X_pick (ls' := [(0, .ref _), (1, .ref _), (2, .ref _), (3, .int _), (4, .int _), (6, .int _), (7, .long _), (9, .int _), (11, .int _), (12, .int _), (13, .int _), (14, .int _), (15, .int _), (16, .int _), (17, .int _), (18, .int _), (19, .long _), (21, .int _), (22, .int _), (23, .int _), (25, .int _), (26, .int _), (27, .int _), (29, .int _)]) [0, 1, 2, 3, 4, 6, 7, 8, 9, 10, 11, 12, 13, 14, 15, 16, 17, 18, 19, 20, 21, 22, 23, 25] rfl ?_
    exact kL_law_J393 hc31 _ _ _ _ _ _ _ _ _ _ _ _ _ _ _ _ _ _ _ _ _ _ _ _ _ _ _ w
set_option maxRecDepth 100000 in
set_option maxHeartbeats 4000000 in
theorem kL_law_J374 {rc0 rs0 : Nat} {K : Int32 → AH → Prop} {c31 : Nat → Nat → Nat → Int32 → Int32 → Int32 → Int32 → AH → Prop} (hc31 : ∀ x0 x1 x2 x3 x4 x5 x6 h, c31 x0 x1 x2 x3 x4 x5 x6 h → X mZ_law 22 (KI K) T0 rc0 rs0 31 [(0, .ref x0), (1, .ref x1), (2, .ref x2), (3, .int x3), (4, .int x4), (5, .int x5), (6, .int x6)] [] h) (x0 : Nat) (x1 : Nat) (x2 : Nat) (x3 : Int32) (x4 : Int32) (x5 : Int32) (x6 : Int32) (x7 : Int64) (x9 : Int32) (x11 : Int32) (x12 : Int32) (x13 : Int32) (x14 : Int32) (x15 : Int32) (x16 : Int32) (x17 : Int32) (x18 : Int32) (x19 : Int64) (x21 : Int32) (x22 : Int32) (x23 : Int32) (x25 : Int32) (x26 : Int32) (x27 : Int32) (x28 : Int32) (h : AH) (w : wL_law_J374 K c31 x0 x1 x2 x3 x4 x5 x6 x7 x9 x11 x12 x13 x14 x15 x16 x17 x18 x19 x21 x22 x23 x25 x26 x27 x28 h) : X mZ_law 22 (KI K) T0 (rc0 + 1680) (rs0 + 80526) 374 [(0, .ref x0), (1, .ref x1), (2, .ref x2), (3, .int x3), (4, .int x4), (5, .int x5), (6, .int x6), (7, .long x7), (9, .int x9), (11, .int x11), (12, .int x12), (13, .int x13), (14, .int x14), (15, .int x15), (16, .int x16), (17, .int x17), (18, .int x18), (19, .long x19), (21, .int x21), (22, .int x22), (23, .int x23), (25, .int x25), (26, .int x26), (27, .int x27), (28, .int x28)] [] h := by
  unfold wL_law_J374 at w
  refine X_iconst (v := (nI 1)) (show decode cL_law 374 = .ok (.iconst 1, 1) by decide +kernel) (by decide) ?_
  refine X_goto (tgt := 379) (show decode cL_law 375 = .ok (.goto 4, 3) by decide +kernel) (by decide) ?_
  exact kL_law_J379 hc31 _ _ _ _ _ _ _ _ _ _ _ _ _ _ _ _ _ _ _ _ _ _ _ _ _ _ _ w
set_option maxRecDepth 100000 in
set_option maxHeartbeats 4000000 in
theorem kL_law_J378 {rc0 rs0 : Nat} {K : Int32 → AH → Prop} {c31 : Nat → Nat → Nat → Int32 → Int32 → Int32 → Int32 → AH → Prop} (hc31 : ∀ x0 x1 x2 x3 x4 x5 x6 h, c31 x0 x1 x2 x3 x4 x5 x6 h → X mZ_law 22 (KI K) T0 rc0 rs0 31 [(0, .ref x0), (1, .ref x1), (2, .ref x2), (3, .int x3), (4, .int x4), (5, .int x5), (6, .int x6)] [] h) (x0 : Nat) (x1 : Nat) (x2 : Nat) (x3 : Int32) (x4 : Int32) (x5 : Int32) (x6 : Int32) (x7 : Int64) (x9 : Int32) (x11 : Int32) (x12 : Int32) (x13 : Int32) (x14 : Int32) (x15 : Int32) (x16 : Int32) (x17 : Int32) (x18 : Int32) (x19 : Int64) (x21 : Int32) (x22 : Int32) (x23 : Int32) (x25 : Int32) (x26 : Int32) (x27 : Int32) (x28 : Int32) (h : AH) (w : wL_law_J378 K c31 x0 x1 x2 x3 x4 x5 x6 x7 x9 x11 x12 x13 x14 x15 x16 x17 x18 x19 x21 x22 x23 x25 x26 x27 x28 h) : X mZ_law 22 (KI K) T0 (rc0 + 1680) (rs0 + 80526) 378 [(0, .ref x0), (1, .ref x1), (2, .ref x2), (3, .int x3), (4, .int x4), (5, .int x5), (6, .int x6), (7, .long x7), (9, .int x9), (11, .int x11), (12, .int x12), (13, .int x13), (14, .int x14), (15, .int x15), (16, .int x16), (17, .int x17), (18, .int x18), (19, .long x19), (21, .int x21), (22, .int x22), (23, .int x23), (25, .int x25), (26, .int x26), (27, .int x27), (28, .int x28)] [] h := by
  unfold wL_law_J378 at w
  refine X_iconst (v := (nI 0)) (show decode cL_law 378 = .ok (.iconst 0, 1) by decide +kernel) (by decide) ?_
  exact kL_law_J379 hc31 _ _ _ _ _ _ _ _ _ _ _ _ _ _ _ _ _ _ _ _ _ _ _ _ _ _ _ w
set_option maxRecDepth 100000 in
set_option maxHeartbeats 4000000 in
theorem kL_law_J322 {rc0 rs0 : Nat} {K : Int32 → AH → Prop} {c31 : Nat → Nat → Nat → Int32 → Int32 → Int32 → Int32 → AH → Prop} (hc31 : ∀ x0 x1 x2 x3 x4 x5 x6 h, c31 x0 x1 x2 x3 x4 x5 x6 h → X mZ_law 22 (KI K) T0 rc0 rs0 31 [(0, .ref x0), (1, .ref x1), (2, .ref x2), (3, .int x3), (4, .int x4), (5, .int x5), (6, .int x6)] [] h) (x0 : Nat) (x1 : Nat) (x2 : Nat) (x3 : Int32) (x4 : Int32) (x5 : Int32) (x6 : Int32) (x7 : Int64) (x9 : Int32) (x11 : Int32) (x12 : Int32) (x13 : Int32) (x14 : Int32) (x15 : Int32) (x16 : Int32) (x17 : Int32) (x18 : Int32) (x19 : Int64) (x21 : Int32) (x22 : Int32) (x23 : Int32) (x25 : Int32) (x26 : Int32) (x27 : Int32) (y0 : Int32) (h : AH) (w : wL_law_J322 K c31 x0 x1 x2 x3 x4 x5 x6 x7 x9 x11 x12 x13 x14 x15 x16 x17 x18 x19 x21 x22 x23 x25 x26 x27 y0 h) : X mZ_law 22 (KI K) T0 (rc0 + 1683) (rs0 + 80544) 322 [(0, .ref x0), (1, .ref x1), (2, .ref x2), (3, .int x3), (4, .int x4), (5, .int x5), (6, .int x6), (7, .long x7), (9, .int x9), (11, .int x11), (12, .int x12), (13, .int x13), (14, .int x14), (15, .int x15), (16, .int x16), (17, .int x17), (18, .int x18), (19, .long x19), (21, .int x21), (22, .int x22), (23, .int x23), (25, .int x25), (26, .int x26), (27, .int x27)] [.int y0] h := by
  unfold wL_law_J322 at w
  refine X_istore (ls' := [(0, .ref _), (1, .ref _), (2, .ref _), (3, .int _), (4, .int _), (5, .int _), (6, .int _), (7, .long _), (9, .int _), (11, .int _), (12, .int _), (13, .int _), (14, .int _), (15, .int _), (16, .int _), (17, .int _), (18, .int _), (19, .long _), (21, .int _), (22, .int _), (23, .int _), (25, .int _), (26, .int _), (27, .int _), (28, .int _)]) (show decode cL_law 322 = .ok (.istore 28, 2) by decide +kernel) (by decide) rfl ?_
  refine X_iload (j := 24) (show decode cL_law 324 = .ok (.iload 28, 2) by decide +kernel) rfl ?_
  refine X_if_eq (tgt := 374) (show decode cL_law 326 = .ok (.ifCond .eq 48, 3) by decide +kernel) (by decide) ⟨fun c65 => ?_, fun c65 => ?_⟩
  · have w := w.1 c65
    refine X_room (rc' := (rc0 + 1680)) (rs' := (rs0 + 80526)) (by omega) (by omega) ?_
    exact kL_law_J374 hc31 _ _ _ _ _ _ _ _ _ _ _ _ _ _ _ _ _ _ _ _ _ _ _ _ _ _ w
  · have w := w.2 c65
    refine X_iload (j := 22) (show decode cL_law 329 = .ok (.iload 26, 2) by decide +kernel) rfl ?_
    refine X_iload (j := 5) (show decode cL_law 331 = .ok (.iload 5, 2) by decide +kernel) rfl ?_
    refine X_icmp_ne (tgt := 378) (show decode cL_law 333 = .ok (.if_icmp .ne 45, 3) by decide +kernel) (by decide) ⟨fun c184 => ?_, fun c184 => ?_⟩
    · have w := w.1 c184
      refine X_room (rc' := (rc0 + 1680)) (rs' := (rs0 + 80526)) (by omega) (by omega) ?_
      exact kL_law_J378 hc31 _ _ _ _ _ _ _ _ _ _ _ _ _ _ _ _ _ _ _ _ _ _ _ _ _ _ w
    · have w := w.2 c184
      refine X_aload_n (j := 1) (show decode cL_law 336 = .ok (.aload_n 1, 1) by decide +kernel) rfl rfl ?_
      refine X_iload (j := 22) (show decode cL_law 337 = .ok (.iload 26, 2) by decide +kernel) rfl ?_
      obtain ⟨s197, w⟩ := w
      refine X_vI (rc' := (rc0 + 1683)) (rs' := (rs0 + 80544)) (as := [.int _]) mv_L_238 (show decode cL_law 339 = .ok (.invokevirtual 238, 3) by decide +kernel) (by decide) (by omega) (by omega) rfl rfl (Nat.le_of_ble_eq_true rfl) (rcvD s197 (by decide) rfl) (kX9_isPresent w) (fun E h hk => hk.elim) (fun r186 h185 w => ?_)
      refine X_if_eq (tgt := 378) (show decode cL_law 342 = .ok (.ifCond .eq 36, 3) by decide +kernel) (by decide) ⟨fun c187 => ?_, fun c187 => ?_⟩
      · have w := w.1 c187
        refine X_room (rc' := (rc0 + 1680)) (rs' := (rs0 + 80526)) (by omega) (by omega) ?_
        exact kL_law_J378 hc31 _ _ _ _ _ _ _ _ _ _ _ _ _ _ _ _ _ _ _ _ _ _ _ _ _ _ w
      · have w := w.2 c187
        refine X_aload_n (j := 1) (show decode cL_law 345 = .ok (.aload_n 1, 1) by decide +kernel) rfl rfl ?_
        refine X_iload (j := 22) (show decode cL_law 346 = .ok (.iload 26, 2) by decide +kernel) rfl ?_
        refine X_sH (rc' := (rc0 + 1682)) (rs' := (rs0 + 80538)) (as := [.ref _, .int _]) msh_L_203 (show decode cL_law 348 = .ok (.invokestatic 203, 3) by decide +kernel) (by decide) (by omega) (by omega) rfl rfl (Nat.le_of_ble_eq_true rfl) (kL_hasRoute w) (fun r189 h188 w => ?_)
        refine X_if_ne (tgt := 378) (show decode cL_law 351 = .ok (.ifCond .ne 27, 3) by decide +kernel) (by decide) ⟨fun c190 => ?_, fun c190 => ?_⟩
        · have w := w.1 c190
          refine X_room (rc' := (rc0 + 1680)) (rs' := (rs0 + 80526)) (by omega) (by omega) ?_
          exact kL_law_J378 hc31 _ _ _ _ _ _ _ _ _ _ _ _ _ _ _ _ _ _ _ _ _ _ _ _ _ _ w
        · have w := w.2 c190
          refine X_aload_n (j := 1) (show decode cL_law 354 = .ok (.aload_n 1, 1) by decide +kernel) rfl rfl ?_
          refine X_iload (j := 18) (show decode cL_law 355 = .ok (.iload 21, 2) by decide +kernel) rfl ?_
          refine X_sH (rc' := (rc0 + 1681)) (rs' := (rs0 + 80532)) (as := [.ref _, .int _]) msh_L_241 (show decode cL_law 357 = .ok (.invokestatic 241, 3) by decide +kernel) (by decide) (by omega) (by omega) rfl rfl (Nat.le_of_ble_eq_true rfl) (kL_queued w) (fun r192 h191 w => ?_)
          refine X_iload (j := 22) (show decode cL_law 360 = .ok (.iload 26, 2) by decide +kernel) rfl ?_
          refine X_icmp_ne (tgt := 378) (show decode cL_law 362 = .ok (.if_icmp .ne 16, 3) by decide +kernel) (by decide) ⟨fun c193 => ?_, fun c193 => ?_⟩
          · have w := w.1 c193
            refine X_room (rc' := (rc0 + 1680)) (rs' := (rs0 + 80526)) (by omega) (by omega) ?_
            exact kL_law_J378 hc31 _ _ _ _ _ _ _ _ _ _ _ _ _ _ _ _ _ _ _ _ _ _ _ _ _ _ w
          · have w := w.2 c193
            refine X_aload_n (j := 1) (show decode cL_law 365 = .ok (.aload_n 1, 1) by decide +kernel) rfl rfl ?_
            refine X_iload (j := 22) (show decode cL_law 366 = .ok (.iload 26, 2) by decide +kernel) rfl ?_
            refine X_sH (rc' := (rc0 + 1680)) (rs' := (rs0 + 80526)) (as := [.ref _, .int _]) msh_L_243 (show decode cL_law 368 = .ok (.invokestatic 243, 3) by decide +kernel) (by decide) (by omega) (by omega) rfl rfl (Nat.le_of_ble_eq_true rfl) (kL_delay w) (fun r195 h194 w => ?_)
            refine X_if_ne (tgt := 378) (show decode cL_law 371 = .ok (.ifCond .ne 7, 3) by decide +kernel) (by decide) ⟨fun c196 => ?_, fun c196 => ?_⟩
            · have w := w.1 c196
              exact kL_law_J378 hc31 _ _ _ _ _ _ _ _ _ _ _ _ _ _ _ _ _ _ _ _ _ _ _ _ _ _ w
            · have w := w.2 c196
              exact kL_law_J374 hc31 _ _ _ _ _ _ _ _ _ _ _ _ _ _ _ _ _ _ _ _ _ _ _ _ _ _ w
set_option maxRecDepth 100000 in
set_option maxHeartbeats 4000000 in
theorem kL_law_J321 {rc0 rs0 : Nat} {K : Int32 → AH → Prop} {c31 : Nat → Nat → Nat → Int32 → Int32 → Int32 → Int32 → AH → Prop} (hc31 : ∀ x0 x1 x2 x3 x4 x5 x6 h, c31 x0 x1 x2 x3 x4 x5 x6 h → X mZ_law 22 (KI K) T0 rc0 rs0 31 [(0, .ref x0), (1, .ref x1), (2, .ref x2), (3, .int x3), (4, .int x4), (5, .int x5), (6, .int x6)] [] h) (x0 : Nat) (x1 : Nat) (x2 : Nat) (x3 : Int32) (x4 : Int32) (x5 : Int32) (x6 : Int32) (x7 : Int64) (x9 : Int32) (x11 : Int32) (x12 : Int32) (x13 : Int32) (x14 : Int32) (x15 : Int32) (x16 : Int32) (x17 : Int32) (x18 : Int32) (x19 : Int64) (x21 : Int32) (x22 : Int32) (x23 : Int32) (x25 : Int32) (x26 : Int32) (x27 : Int32) (h : AH) (w : wL_law_J321 K c31 x0 x1 x2 x3 x4 x5 x6 x7 x9 x11 x12 x13 x14 x15 x16 x17 x18 x19 x21 x22 x23 x25 x26 x27 h) : X mZ_law 22 (KI K) T0 (rc0 + 1683) (rs0 + 80544) 321 [(0, .ref x0), (1, .ref x1), (2, .ref x2), (3, .int x3), (4, .int x4), (5, .int x5), (6, .int x6), (7, .long x7), (9, .int x9), (11, .int x11), (12, .int x12), (13, .int x13), (14, .int x14), (15, .int x15), (16, .int x16), (17, .int x17), (18, .int x18), (19, .long x19), (21, .int x21), (22, .int x22), (23, .int x23), (25, .int x25), (26, .int x26), (27, .int x27)] [] h := by
  unfold wL_law_J321 at w
  refine X_iconst (v := (nI 0)) (show decode cL_law 321 = .ok (.iconst 0, 1) by decide +kernel) (by decide) ?_
  exact kL_law_J322 hc31 _ _ _ _ _ _ _ _ _ _ _ _ _ _ _ _ _ _ _ _ _ _ _ _ _ _ w
set_option maxRecDepth 100000 in
set_option maxHeartbeats 4000000 in
theorem kL_law_J296 {rc0 rs0 : Nat} {K : Int32 → AH → Prop} {c31 : Nat → Nat → Nat → Int32 → Int32 → Int32 → Int32 → AH → Prop} (hc31 : ∀ x0 x1 x2 x3 x4 x5 x6 h, c31 x0 x1 x2 x3 x4 x5 x6 h → X mZ_law 22 (KI K) T0 rc0 rs0 31 [(0, .ref x0), (1, .ref x1), (2, .ref x2), (3, .int x3), (4, .int x4), (5, .int x5), (6, .int x6)] [] h) (x0 : Nat) (x1 : Nat) (x2 : Nat) (x3 : Int32) (x4 : Int32) (x5 : Int32) (x6 : Int32) (x7 : Int64) (x9 : Int32) (x11 : Int32) (x12 : Int32) (x13 : Int32) (x14 : Int32) (x15 : Int32) (x16 : Int32) (x17 : Int32) (x18 : Int32) (x19 : Int64) (x21 : Int32) (x22 : Int32) (x23 : Int32) (x25 : Int32) (x26 : Int32) (y0 : Int32) (h : AH) (w : wL_law_J296 K c31 x0 x1 x2 x3 x4 x5 x6 x7 x9 x11 x12 x13 x14 x15 x16 x17 x18 x19 x21 x22 x23 x25 x26 y0 h) : X mZ_law 22 (KI K) T0 (rc0 + 1683) (rs0 + 80544) 296 [(0, .ref x0), (1, .ref x1), (2, .ref x2), (3, .int x3), (4, .int x4), (5, .int x5), (6, .int x6), (7, .long x7), (9, .int x9), (11, .int x11), (12, .int x12), (13, .int x13), (14, .int x14), (15, .int x15), (16, .int x16), (17, .int x17), (18, .int x18), (19, .long x19), (21, .int x21), (22, .int x22), (23, .int x23), (25, .int x25), (26, .int x26)] [.int y0] h := by
  unfold wL_law_J296 at w
  refine X_istore (ls' := [(0, .ref _), (1, .ref _), (2, .ref _), (3, .int _), (4, .int _), (5, .int _), (6, .int _), (7, .long _), (9, .int _), (11, .int _), (12, .int _), (13, .int _), (14, .int _), (15, .int _), (16, .int _), (17, .int _), (18, .int _), (19, .long _), (21, .int _), (22, .int _), (23, .int _), (25, .int _), (26, .int _), (27, .int _)]) (show decode cL_law 296 = .ok (.istore 27, 2) by decide +kernel) (by decide) rfl ?_
  refine X_iload (j := 23) (show decode cL_law 298 = .ok (.iload 27, 2) by decide +kernel) rfl ?_
  refine X_if_eq (tgt := 321) (show decode cL_law 300 = .ok (.ifCond .eq 21, 3) by decide +kernel) (by decide) ⟨fun c64 => ?_, fun c64 => ?_⟩
  · have w := w.1 c64
    exact kL_law_J321 hc31 _ _ _ _ _ _ _ _ _ _ _ _ _ _ _ _ _ _ _ _ _ _ _ _ _ w
  · have w := w.2 c64
    refine X_iload (j := 8) (show decode cL_law 303 = .ok (.iload 9, 2) by decide +kernel) rfl ?_
    refine X_bipush (v := (nI 13)) (show decode cL_law 305 = .ok (.bipush 13, 2) by decide +kernel) (by decide) ?_
    refine X_icmp_le (tgt := 321) (show decode cL_law 307 = .ok (.if_icmp .le 14, 3) by decide +kernel) (by decide) ⟨fun c198 => ?_, fun c198 => ?_⟩
    · have w := w.1 c198
      exact kL_law_J321 hc31 _ _ _ _ _ _ _ _ _ _ _ _ _ _ _ _ _ _ _ _ _ _ _ _ _ w
    · have w := w.2 c198
      refine X_iload (j := 8) (show decode cL_law 310 = .ok (.iload 9, 2) by decide +kernel) rfl ?_
      refine X_bipush (v := (nI 22)) (show decode cL_law 312 = .ok (.bipush 22, 2) by decide +kernel) (by decide) ?_
      refine X_icmp_ge (tgt := 321) (show decode cL_law 314 = .ok (.if_icmp .ge 7, 3) by decide +kernel) (by decide) ⟨fun c199 => ?_, fun c199 => ?_⟩
      · have w := w.1 c199
        exact kL_law_J321 hc31 _ _ _ _ _ _ _ _ _ _ _ _ _ _ _ _ _ _ _ _ _ _ _ _ _ w
      · have w := w.2 c199
        refine X_iconst (v := (nI 1)) (show decode cL_law 317 = .ok (.iconst 1, 1) by decide +kernel) (by decide) ?_
        refine X_goto (tgt := 322) (show decode cL_law 318 = .ok (.goto 4, 3) by decide +kernel) (by decide) ?_
        exact kL_law_J322 hc31 _ _ _ _ _ _ _ _ _ _ _ _ _ _ _ _ _ _ _ _ _ _ _ _ _ _ w
set_option maxRecDepth 100000 in
set_option maxHeartbeats 4000000 in
theorem kL_law_J267 {rc0 rs0 : Nat} {K : Int32 → AH → Prop} {c31 : Nat → Nat → Nat → Int32 → Int32 → Int32 → Int32 → AH → Prop} (hc31 : ∀ x0 x1 x2 x3 x4 x5 x6 h, c31 x0 x1 x2 x3 x4 x5 x6 h → X mZ_law 22 (KI K) T0 rc0 rs0 31 [(0, .ref x0), (1, .ref x1), (2, .ref x2), (3, .int x3), (4, .int x4), (5, .int x5), (6, .int x6)] [] h) (x0 : Nat) (x1 : Nat) (x2 : Nat) (x3 : Int32) (x4 : Int32) (x5 : Int32) (x6 : Int32) (x7 : Int64) (x9 : Int32) (x11 : Int32) (x12 : Int32) (x13 : Int32) (x14 : Int32) (x15 : Int32) (x16 : Int32) (x17 : Int32) (x18 : Int32) (x19 : Int64) (x21 : Int32) (x22 : Int32) (x23 : Int32) (y0 : Int32) (h : AH) (w : wL_law_J267 K c31 x0 x1 x2 x3 x4 x5 x6 x7 x9 x11 x12 x13 x14 x15 x16 x17 x18 x19 x21 x22 x23 y0 h) : X mZ_law 22 (KI K) T0 (rc0 + 1714) (rs0 + 82972) 267 [(0, .ref x0), (1, .ref x1), (2, .ref x2), (3, .int x3), (4, .int x4), (5, .int x5), (6, .int x6), (7, .long x7), (9, .int x9), (11, .int x11), (12, .int x12), (13, .int x13), (14, .int x14), (15, .int x15), (16, .int x16), (17, .int x17), (18, .int x18), (19, .long x19), (21, .int x21), (22, .int x22), (23, .int x23)] [.int y0] h := by
  unfold wL_law_J267 at w
  refine X_istore (ls' := [(0, .ref _), (1, .ref _), (2, .ref _), (3, .int _), (4, .int _), (5, .int _), (6, .int _), (7, .long _), (9, .int _), (11, .int _), (12, .int _), (13, .int _), (14, .int _), (15, .int _), (16, .int _), (17, .int _), (18, .int _), (19, .long _), (21, .int _), (22, .int _), (23, .int _), (25, .int _)]) (show decode cL_law 267 = .ok (.istore 25, 2) by decide +kernel) (by decide) rfl ?_
  refine X_aload_n (j := 0) (show decode cL_law 269 = .ok (.aload_n 0, 1) by decide +kernel) rfl rfl ?_
  refine X_iload (j := 4) (show decode cL_law 270 = .ok (.iload 4, 2) by decide +kernel) rfl ?_
  refine X_iload (j := 8) (show decode cL_law 272 = .ok (.iload 9, 2) by decide +kernel) rfl ?_
  refine X_aload_n (j := 1) (show decode cL_law 274 = .ok (.aload_n 1, 1) by decide +kernel) rfl rfl ?_
  refine X_iload (j := 9) (show decode cL_law 275 = .ok (.iload 11, 2) by decide +kernel) rfl ?_
  refine X_iload (j := 12) (show decode cL_law 277 = .ok (.iload 14, 2) by decide +kernel) rfl ?_
  refine X_sI (rc' := (rc0 + 1683)) (rs' := (rs0 + 80544)) (as := [.ref _, .int _, .int _, .ref _, .int _, .int _]) ms_L_234 (show decode cL_law 279 = .ok (.invokestatic 234, 3) by decide +kernel) (by decide) (by omega) (by omega) rfl rfl (Nat.le_of_ble_eq_true rfl) (kL_does w) (fun E h hk => hk.elim) (fun r62 h61 w => ?_)
  refine X_istore (ls' := [(0, .ref _), (1, .ref _), (2, .ref _), (3, .int _), (4, .int _), (5, .int _), (6, .int _), (7, .long _), (9, .int _), (11, .int _), (12, .int _), (13, .int _), (14, .int _), (15, .int _), (16, .int _), (17, .int _), (18, .int _), (19, .long _), (21, .int _), (22, .int _), (23, .int _), (25, .int _), (26, .int _)]) (show decode cL_law 282 = .ok (.istore 26, 2) by decide +kernel) (by decide) rfl ?_
  refine X_iload (j := 22) (show decode cL_law 284 = .ok (.iload 26, 2) by decide +kernel) rfl ?_
  refine X_bipush (v := (-70)) (show decode cL_law 286 = .ok (.bipush (-70), 2) by decide +kernel) (by decide) ?_
  refine X_icmp_le (tgt := 295) (show decode cL_law 288 = .ok (.if_icmp .le 7, 3) by decide +kernel) (by decide) ⟨fun c63 => ?_, fun c63 => ?_⟩
  · have w := w.1 c63
    refine X_iconst (v := (nI 0)) (show decode cL_law 295 = .ok (.iconst 0, 1) by decide +kernel) (by decide) ?_
    exact kL_law_J296 hc31 _ _ _ _ _ _ _ _ _ _ _ _ _ _ _ _ _ _ _ _ _ _ _ _ _ w
  · have w := w.2 c63
    refine X_iconst (v := (nI 1)) (show decode cL_law 291 = .ok (.iconst 1, 1) by decide +kernel) (by decide) ?_
    refine X_goto (tgt := 296) (show decode cL_law 292 = .ok (.goto 4, 3) by decide +kernel) (by decide) ?_
    exact kL_law_J296 hc31 _ _ _ _ _ _ _ _ _ _ _ _ _ _ _ _ _ _ _ _ _ _ _ _ _ w
set_option maxRecDepth 100000 in
set_option maxHeartbeats 4000000 in
theorem kL_law_J247 {rc0 rs0 : Nat} {K : Int32 → AH → Prop} {c31 : Nat → Nat → Nat → Int32 → Int32 → Int32 → Int32 → AH → Prop} (hc31 : ∀ x0 x1 x2 x3 x4 x5 x6 h, c31 x0 x1 x2 x3 x4 x5 x6 h → X mZ_law 22 (KI K) T0 rc0 rs0 31 [(0, .ref x0), (1, .ref x1), (2, .ref x2), (3, .int x3), (4, .int x4), (5, .int x5), (6, .int x6)] [] h) (x0 : Nat) (x1 : Nat) (x2 : Nat) (x3 : Int32) (x4 : Int32) (x5 : Int32) (x6 : Int32) (x7 : Int64) (x9 : Int32) (x11 : Int32) (x12 : Int32) (x13 : Int32) (x14 : Int32) (x15 : Int32) (x16 : Int32) (x17 : Int32) (x18 : Int32) (x19 : Int64) (x21 : Int32) (x22 : Int32) (x23 : Int32) (y0 : Int32) (h : AH) (w : wL_law_J247 K c31 x0 x1 x2 x3 x4 x5 x6 x7 x9 x11 x12 x13 x14 x15 x16 x17 x18 x19 x21 x22 x23 y0 h) : X mZ_law 22 (KI K) T0 (rc0 + 1717) (rs0 + 82990) 247 [(0, .ref x0), (1, .ref x1), (2, .ref x2), (3, .int x3), (4, .int x4), (5, .int x5), (6, .int x6), (7, .long x7), (9, .int x9), (11, .int x11), (12, .int x12), (13, .int x13), (14, .int x14), (15, .int x15), (16, .int x16), (17, .int x17), (18, .int x18), (19, .long x19), (21, .int x21), (22, .int x22), (23, .int x23)] [.int y0] h := by
  unfold wL_law_J247 at w
  refine X_istore (ls' := [(0, .ref _), (1, .ref _), (2, .ref _), (3, .int _), (4, .int _), (5, .int _), (6, .int _), (7, .long _), (9, .int _), (11, .int _), (12, .int _), (13, .int _), (14, .int _), (15, .int _), (16, .int _), (17, .int _), (18, .int _), (19, .long _), (21, .int _), (22, .int _), (23, .int _), (24, .int _)]) (show decode cL_law 247 = .ok (.istore 24, 2) by decide +kernel) (by decide) rfl ?_
  refine X_iload (j := 10) (show decode cL_law 249 = .ok (.iload 12, 2) by decide +kernel) rfl ?_
  refine X_if_ge (tgt := 259) (show decode cL_law 251 = .ok (.ifCond .ge 8, 3) by decide +kernel) (by decide) ⟨fun c58 => ?_, fun c58 => ?_⟩
  · have w := w.1 c58
    refine X_aload_n (j := 1) (show decode cL_law 259 = .ok (.aload_n 1, 1) by decide +kernel) rfl rfl ?_
    refine X_iload (j := 20) (show decode cL_law 260 = .ok (.iload 23, 2) by decide +kernel) rfl ?_
    refine X_iload (j := 21) (show decode cL_law 262 = .ok (.iload 24, 2) by decide +kernel) rfl ?_
    refine X_sH (rc' := (rc0 + 1714)) (rs' := (rs0 + 82972)) (as := [.ref _, .int _, .int _]) msh_L_231 (show decode cL_law 264 = .ok (.invokestatic 231, 3) by decide +kernel) (by decide) (by omega) (by omega) rfl rfl (Nat.le_of_ble_eq_true rfl) (kL_routeLength w) (fun r60 h59 w => ?_)
    refine X_pick (ls' := [(0, .ref _), (1, .ref _), (2, .ref _), (3, .int _), (4, .int _), (5, .int _), (6, .int _), (7, .long _), (9, .int _), (11, .int _), (12, .int _), (13, .int _), (14, .int _), (15, .int _), (16, .int _), (17, .int _), (18, .int _), (19, .long _), (21, .int _), (22, .int _), (23, .int _)]) [0, 1, 2, 3, 4, 5, 6, 7, 8, 9, 10, 11, 12, 13, 14, 15, 16, 17, 18, 19, 20] rfl ?_
    exact kL_law_J267 hc31 _ _ _ _ _ _ _ _ _ _ _ _ _ _ _ _ _ _ _ _ _ _ _ w
  · have w := w.2 c58
    refine X_bipush (v := (-75)) (show decode cL_law 254 = .ok (.bipush (-75), 2) by decide +kernel) (by decide) ?_
    refine X_goto (tgt := 267) (show decode cL_law 256 = .ok (.goto 11, 3) by decide +kernel) (by decide) ?_
    refine X_room (rc' := (rc0 + 1714)) (rs' := (rs0 + 82972)) (by omega) (by omega) ?_
    refine X_pick (ls' := [(0, .ref _), (1, .ref _), (2, .ref _), (3, .int _), (4, .int _), (5, .int _), (6, .int _), (7, .long _), (9, .int _), (11, .int _), (12, .int _), (13, .int _), (14, .int _), (15, .int _), (16, .int _), (17, .int _), (18, .int _), (19, .long _), (21, .int _), (22, .int _), (23, .int _)]) [0, 1, 2, 3, 4, 5, 6, 7, 8, 9, 10, 11, 12, 13, 14, 15, 16, 17, 18, 19, 20] rfl ?_
    exact kL_law_J267 hc31 _ _ _ _ _ _ _ _ _ _ _ _ _ _ _ _ _ _ _ _ _ _ _ w
set_option maxRecDepth 100000 in
set_option maxHeartbeats 4000000 in
theorem kL_law_J230 {rc0 rs0 : Nat} {K : Int32 → AH → Prop} {c31 : Nat → Nat → Nat → Int32 → Int32 → Int32 → Int32 → AH → Prop} (hc31 : ∀ x0 x1 x2 x3 x4 x5 x6 h, c31 x0 x1 x2 x3 x4 x5 x6 h → X mZ_law 22 (KI K) T0 rc0 rs0 31 [(0, .ref x0), (1, .ref x1), (2, .ref x2), (3, .int x3), (4, .int x4), (5, .int x5), (6, .int x6)] [] h) (x0 : Nat) (x1 : Nat) (x2 : Nat) (x3 : Int32) (x4 : Int32) (x5 : Int32) (x6 : Int32) (x7 : Int64) (x9 : Int32) (x11 : Int32) (x12 : Int32) (x13 : Int32) (x14 : Int32) (x15 : Int32) (x16 : Int32) (x17 : Int32) (x18 : Int32) (x19 : Int64) (x21 : Int32) (x22 : Int32) (y0 : Int32) (h : AH) (w : wL_law_J230 K c31 x0 x1 x2 x3 x4 x5 x6 x7 x9 x11 x12 x13 x14 x15 x16 x17 x18 x19 x21 x22 y0 h) : X mZ_law 22 (KI K) T0 (rc0 + 1718) (rs0 + 82996) 230 [(0, .ref x0), (1, .ref x1), (2, .ref x2), (3, .int x3), (4, .int x4), (5, .int x5), (6, .int x6), (7, .long x7), (9, .int x9), (11, .int x11), (12, .int x12), (13, .int x13), (14, .int x14), (15, .int x15), (16, .int x16), (17, .int x17), (18, .int x18), (19, .long x19), (21, .int x21), (22, .int x22)] [.int y0] h := by
  unfold wL_law_J230 at w
  refine X_istore (ls' := [(0, .ref _), (1, .ref _), (2, .ref _), (3, .int _), (4, .int _), (5, .int _), (6, .int _), (7, .long _), (9, .int _), (11, .int _), (12, .int _), (13, .int _), (14, .int _), (15, .int _), (16, .int _), (17, .int _), (18, .int _), (19, .long _), (21, .int _), (22, .int _), (23, .int _)]) (show decode cL_law 230 = .ok (.istore 23, 2) by decide +kernel) (by decide) rfl ?_
  refine X_iload (j := 10) (show decode cL_law 232 = .ok (.iload 12, 2) by decide +kernel) rfl ?_
  refine X_if_ge (tgt := 241) (show decode cL_law 234 = .ok (.ifCond .ge 7, 3) by decide +kernel) (by decide) ⟨fun c55 => ?_, fun c55 => ?_⟩
  · have w := w.1 c55
    refine X_aload_n (j := 1) (show decode cL_law 241 = .ok (.aload_n 1, 1) by decide +kernel) rfl rfl ?_
    refine X_iload (j := 9) (show decode cL_law 242 = .ok (.iload 11, 2) by decide +kernel) rfl ?_
    refine X_sH (rc' := (rc0 + 1717)) (rs' := (rs0 + 82990)) (as := [.ref _, .int _]) msh_L_229 (show decode cL_law 244 = .ok (.invokestatic 229, 3) by decide +kernel) (by decide) (by omega) (by omega) rfl rfl (Nat.le_of_ble_eq_true rfl) (kL_destination w) (fun r57 h56 w => ?_)
    exact kL_law_J247 hc31 _ _ _ _ _ _ _ _ _ _ _ _ _ _ _ _ _ _ _ _ _ _ _ w
  · have w := w.2 c55
    refine X_iconst (v := (-1)) (show decode cL_law 237 = .ok (.iconst (-1), 1) by decide +kernel) (by decide) ?_
    refine X_goto (tgt := 247) (show decode cL_law 238 = .ok (.goto 9, 3) by decide +kernel) (by decide) ?_
    refine X_room (rc' := (rc0 + 1717)) (rs' := (rs0 + 82990)) (by omega) (by omega) ?_
    exact kL_law_J247 hc31 _ _ _ _ _ _ _ _ _ _ _ _ _ _ _ _ _ _ _ _ _ _ _ w
set_option maxRecDepth 100000 in
set_option maxHeartbeats 4000000 in
theorem kL_law_J134 {rc0 rs0 : Nat} {K : Int32 → AH → Prop} {c31 : Nat → Nat → Nat → Int32 → Int32 → Int32 → Int32 → AH → Prop} (hc31 : ∀ x0 x1 x2 x3 x4 x5 x6 h, c31 x0 x1 x2 x3 x4 x5 x6 h → X mZ_law 22 (KI K) T0 rc0 rs0 31 [(0, .ref x0), (1, .ref x1), (2, .ref x2), (3, .int x3), (4, .int x4), (5, .int x5), (6, .int x6)] [] h) (x0 : Nat) (x1 : Nat) (x2 : Nat) (x3 : Int32) (x4 : Int32) (x5 : Int32) (x6 : Int32) (x7 : Int64) (x9 : Int32) (y0 : Nat) (y1 : Int32) (y2 : Int32) (y3 : Int32) (h : AH) (w : wL_law_J134 K c31 x0 x1 x2 x3 x4 x5 x6 x7 x9 y0 y1 y2 y3 h) : X mZ_law 22 (KI K) T0 (rc0 + 1735) (rs0 + 83098) 134 [(0, .ref x0), (1, .ref x1), (2, .ref x2), (3, .int x3), (4, .int x4), (5, .int x5), (6, .int x6), (7, .long x7), (9, .int x9)] [.int y3, .int y2, .int y1, .ref y0] h := by
  unfold wL_law_J134 at w
  refine X_sI (rc' := (rc0 + 1735)) (rs' := (rs0 + 83098)) (as := [.ref _, .int _, .int _, .int _]) ms_L_199 (show decode cL_law 134 = .ok (.invokestatic 199, 3) by decide +kernel) (by decide) (by omega) (by omega) rfl rfl (Nat.le_of_ble_eq_true rfl) (kL_trainOf w) (fun E h hk => hk.elim) (fun r31 h30 w => ?_)
  refine X_istore (ls' := [(0, .ref _), (1, .ref _), (2, .ref _), (3, .int _), (4, .int _), (5, .int _), (6, .int _), (7, .long _), (9, .int _), (11, .int _)]) (show decode cL_law 137 = .ok (.istore 11, 2) by decide +kernel) (by decide) rfl ?_
  refine X_aload_n (j := 1) (show decode cL_law 139 = .ok (.aload_n 1, 1) by decide +kernel) rfl rfl ?_
  refine X_iload (j := 9) (show decode cL_law 140 = .ok (.iload 11, 2) by decide +kernel) rfl ?_
  refine X_sH (rc' := (rc0 + 1734)) (rs' := (rs0 + 83092)) (as := [.ref _, .int _]) msh_L_203 (show decode cL_law 142 = .ok (.invokestatic 203, 3) by decide +kernel) (by decide) (by omega) (by omega) rfl rfl (Nat.le_of_ble_eq_true rfl) (kL_hasRoute w) (fun r33 h32 w => ?_)
  refine X_istore (ls' := [(0, .ref _), (1, .ref _), (2, .ref _), (3, .int _), (4, .int _), (5, .int _), (6, .int _), (7, .long _), (9, .int _), (11, .int _), (12, .int _)]) (show decode cL_law 145 = .ok (.istore 12, 2) by decide +kernel) (by decide) rfl ?_
  refine X_aload_n (j := 1) (show decode cL_law 147 = .ok (.aload_n 1, 1) by decide +kernel) rfl rfl ?_
  refine X_iload (j := 9) (show decode cL_law 148 = .ok (.iload 11, 2) by decide +kernel) rfl ?_
  refine X_sH (rc' := (rc0 + 1733)) (rs' := (rs0 + 83086)) (as := [.ref _, .int _]) msh_L_205 (show decode cL_law 150 = .ok (.invokestatic 205, 3) by decide +kernel) (by decide) (by omega) (by omega) rfl rfl (Nat.le_of_ble_eq_true rfl) (kL_isClear w) (fun r35 h34 w => ?_)
  refine X_istore (ls' := [(0, .ref _), (1, .ref _), (2, .ref _), (3, .int _), (4, .int _), (5, .int _), (6, .int _), (7, .long _), (9, .int _), (11, .int _), (12, .int _), (13, .int _)]) (show decode cL_law 153 = .ok (.istore 13, 2) by decide +kernel) (by decide) rfl ?_
  refine X_iconst (v := (nI 1)) (show decode cL_law 155 = .ok (.iconst 1, 1) by decide +kernel) (by decide) ?_
  refine X_aload_n (j := 0) (show decode cL_law 156 = .ok (.aload_n 0, 1) by decide +kernel) rfl rfl ?_
  refine X_iload (j := 4) (show decode cL_law 157 = .ok (.iload 4, 2) by decide +kernel) rfl ?_
  refine X_iconst (v := (nI 2)) (show decode cL_law 159 = .ok (.iconst 2, 1) by decide +kernel) (by decide) ?_
  refine X_iadd (show decode cL_law 160 = .ok (.iadd, 1) by decide +kernel) ?_
  refine X_bipush (v := (nI 6)) (show decode cL_law 161 = .ok (.bipush 6, 2) by decide +kernel) (by decide) ?_
  refine X_sI (rc' := (rc0 + 1733)) (rs' := (rs0 + 83086)) (as := [.ref _, .int _, .int _]) ms_L_192 (show decode cL_law 163 = .ok (.invokestatic 192, 3) by decide +kernel) (by decide) (by omega) (by omega) rfl rfl (Nat.le_of_ble_eq_true rfl) (kL_pick w) (fun E h hk => hk.elim) (fun r37 h36 w => ?_)
  refine X_iadd (show decode cL_law 166 = .ok (.iadd, 1) by decide +kernel) ?_
  refine X_istore (ls' := [(0, .ref _), (1, .ref _), (2, .ref _), (3, .int _), (4, .int _), (5, .int _), (6, .int _), (7, .long _), (9, .int _), (11, .int _), (12, .int _), (13, .int _), (14, .int _)]) (show decode cL_law 167 = .ok (.istore 14, 2) by decide +kernel) (by decide) rfl ?_
  refine X_aload_n (j := 1) (show decode cL_law 169 = .ok (.aload_n 1, 1) by decide +kernel) rfl rfl ?_
  refine X_iload (j := 9) (show decode cL_law 170 = .ok (.iload 11, 2) by decide +kernel) rfl ?_
  refine X_sH (rc' := (rc0 + 1731)) (rs' := (rs0 + 83074)) (as := [.ref _, .int _]) msh_L_207 (show decode cL_law 172 = .ok (.invokestatic 207, 3) by decide +kernel) (by decide) (by omega) (by omega) rfl rfl (Nat.le_of_ble_eq_true rfl) (kL_minutesUntilArrival w) (fun r39 h38 w => ?_)
  refine X_istore (ls' := [(0, .ref _), (1, .ref _), (2, .ref _), (3, .int _), (4, .int _), (5, .int _), (6, .int _), (7, .long _), (9, .int _), (11, .int _), (12, .int _), (13, .int _), (14, .int _), (15, .int _)]) (show decode cL_law 175 = .ok (.istore 15, 2) by decide +kernel) (by decide) rfl ?_
  refine X_aload_n (j := 1) (show decode cL_law 177 = .ok (.aload_n 1, 1) by decide +kernel) rfl rfl ?_
  refine X_iload (j := 9) (show decode cL_law 178 = .ok (.iload 11, 2) by decide +kernel) rfl ?_
  refine X_sH (rc' := (rc0 + 1729)) (rs' := (rs0 + 83062)) (as := [.ref _, .int _]) msh_L_209 (show decode cL_law 180 = .ok (.invokestatic 209, 3) by decide +kernel) (by decide) (by omega) (by omega) rfl rfl (Nat.le_of_ble_eq_true rfl) (kL_minutesUntilNext w) (fun r41 h40 w => ?_)
  refine X_istore (ls' := [(0, .ref _), (1, .ref _), (2, .ref _), (3, .int _), (4, .int _), (5, .int _), (6, .int _), (7, .long _), (9, .int _), (11, .int _), (12, .int _), (13, .int _), (14, .int _), (15, .int _), (16, .int _)]) (show decode cL_law 183 = .ok (.istore 16, 2) by decide +kernel) (by decide) rfl ?_
  refine X_aload_n (j := 1) (show decode cL_law 185 = .ok (.aload_n 1, 1) by decide +kernel) rfl rfl ?_
  obtain ⟨s203, w⟩ := w
  refine X_vI (rc' := (rc0 + 1729)) (rs' := (rs0 + 83062)) (as := []) mv_L_211 (show decode cL_law 186 = .ok (.invokevirtual 211, 3) by decide +kernel) (by decide) (by omega) (by omega) rfl rfl (Nat.le_of_ble_eq_true rfl) (rcvD s203 (by decide) rfl) (kX9_arrived w) (fun E h hk => hk.elim) (fun r43 h42 w => ?_)
  refine X_istore (ls' := [(0, .ref _), (1, .ref _), (2, .ref _), (3, .int _), (4, .int _), (5, .int _), (6, .int _), (7, .long _), (9, .int _), (11, .int _), (12, .int _), (13, .int _), (14, .int _), (15, .int _), (16, .int _), (17, .int _)]) (show decode cL_law 189 = .ok (.istore 17, 2) by decide +kernel) (by decide) rfl ?_
  refine X_aload_n (j := 1) (show decode cL_law 191 = .ok (.aload_n 1, 1) by decide +kernel) rfl rfl ?_
  obtain ⟨s202, w⟩ := w
  refine X_vI (rc' := (rc0 + 1729)) (rs' := (rs0 + 83062)) (as := []) mv_L_214 (show decode cL_law 192 = .ok (.invokevirtual 214, 3) by decide +kernel) (by decide) (by omega) (by omega) rfl rfl (Nat.le_of_ble_eq_true rfl) (rcvD s202 (by decide) rfl) (kX9_time w) (fun E h hk => hk.elim) (fun r45 h44 w => ?_)
  refine X_istore (ls' := [(0, .ref _), (1, .ref _), (2, .ref _), (3, .int _), (4, .int _), (5, .int _), (6, .int _), (7, .long _), (9, .int _), (11, .int _), (12, .int _), (13, .int _), (14, .int _), (15, .int _), (16, .int _), (17, .int _), (18, .int _)]) (show decode cL_law 195 = .ok (.istore 18, 2) by decide +kernel) (by decide) rfl ?_
  refine X_aload_n (j := 1) (show decode cL_law 197 = .ok (.aload_n 1, 1) by decide +kernel) rfl rfl ?_
  obtain ⟨s201, w⟩ := w
  refine X_vL (rc' := (rc0 + 1729)) (rs' := (rs0 + 83062)) (as := []) mv_L_217 (show decode cL_law 198 = .ok (.invokevirtual 217, 3) by decide +kernel) (by decide) (by omega) (by omega) rfl rfl (Nat.le_of_ble_eq_true rfl) (rcvD s201 (by decide) rfl) (kX9_totalDelay w) (fun E h hk => hk.elim) (fun r47 h46 w => ?_)
  refine X_lstore (ls' := [(0, .ref _), (1, .ref _), (2, .ref _), (3, .int _), (4, .int _), (5, .int _), (6, .int _), (7, .long _), (9, .int _), (11, .int _), (12, .int _), (13, .int _), (14, .int _), (15, .int _), (16, .int _), (17, .int _), (18, .int _), (19, .long _)]) (show decode cL_law 201 = .ok (.lstore 19, 2) by decide +kernel) (by decide) rfl ?_
  refine X_aload_n (j := 1) (show decode cL_law 203 = .ok (.aload_n 1, 1) by decide +kernel) rfl rfl ?_
  refine X_sI (rc' := (rc0 + 1719)) (rs' := (rs0 + 83002)) (as := [.ref _]) ms_L_221 (show decode cL_law 204 = .ok (.invokestatic 221, 3) by decide +kernel) (by decide) (by omega) (by omega) rfl rfl (Nat.le_of_ble_eq_true rfl) (kL_waiting w) (fun E h hk => hk.elim) (fun r49 h48 w => ?_)
  refine X_istore (ls' := [(0, .ref _), (1, .ref _), (2, .ref _), (3, .int _), (4, .int _), (5, .int _), (6, .int _), (7, .long _), (9, .int _), (11, .int _), (12, .int _), (13, .int _), (14, .int _), (15, .int _), (16, .int _), (17, .int _), (18, .int _), (19, .long _), (21, .int _)]) (show decode cL_law 207 = .ok (.istore 21, 2) by decide +kernel) (by decide) rfl ?_
  refine X_aload_n (j := 1) (show decode cL_law 209 = .ok (.aload_n 1, 1) by decide +kernel) rfl rfl ?_
  obtain ⟨s200, w⟩ := w
  refine X_vI (rc' := (rc0 + 1719)) (rs' := (rs0 + 83002)) (as := []) mv_L_224 (show decode cL_law 210 = .ok (.invokevirtual 224, 3) by decide +kernel) (by decide) (by omega) (by omega) rfl rfl (Nat.le_of_ble_eq_true rfl) (rcvD s200 (by decide) rfl) (kX9_trains w) (fun E h hk => hk.elim) (fun r51 h50 w => ?_)
  refine X_istore (ls' := [(0, .ref _), (1, .ref _), (2, .ref _), (3, .int _), (4, .int _), (5, .int _), (6, .int _), (7, .long _), (9, .int _), (11, .int _), (12, .int _), (13, .int _), (14, .int _), (15, .int _), (16, .int _), (17, .int _), (18, .int _), (19, .long _), (21, .int _), (22, .int _)]) (show decode cL_law 213 = .ok (.istore 22, 2) by decide +kernel) (by decide) rfl ?_
  refine X_iload (j := 10) (show decode cL_law 215 = .ok (.iload 12, 2) by decide +kernel) rfl ?_
  refine X_if_ge (tgt := 224) (show decode cL_law 217 = .ok (.ifCond .ge 7, 3) by decide +kernel) (by decide) ⟨fun c52 => ?_, fun c52 => ?_⟩
  · have w := w.1 c52
    refine X_aload_n (j := 1) (show decode cL_law 224 = .ok (.aload_n 1, 1) by decide +kernel) rfl rfl ?_
    refine X_iload (j := 9) (show decode cL_law 225 = .ok (.iload 11, 2) by decide +kernel) rfl ?_
    refine X_sH (rc' := (rc0 + 1718)) (rs' := (rs0 + 82996)) (as := [.ref _, .int _]) msh_L_227 (show decode cL_law 227 = .ok (.invokestatic 227, 3) by decide +kernel) (by decide) (by omega) (by omega) rfl rfl (Nat.le_of_ble_eq_true rfl) (kL_blockOf w) (fun r54 h53 w => ?_)
    exact kL_law_J230 hc31 _ _ _ _ _ _ _ _ _ _ _ _ _ _ _ _ _ _ _ _ _ _ w
  · have w := w.2 c52
    refine X_iconst (v := (-1)) (show decode cL_law 220 = .ok (.iconst (-1), 1) by decide +kernel) (by decide) ?_
    refine X_goto (tgt := 230) (show decode cL_law 221 = .ok (.goto 9, 3) by decide +kernel) (by decide) ?_
    refine X_room (rc' := (rc0 + 1718)) (rs' := (rs0 + 82996)) (by omega) (by omega) ?_
    exact kL_law_J230 hc31 _ _ _ _ _ _ _ _ _ _ _ _ _ _ _ _ _ _ _ _ _ _ w
