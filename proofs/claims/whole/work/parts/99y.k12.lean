set_option maxRecDepth 100000 in
set_option maxHeartbeats 4000000 in
theorem kX10_does {a0 : Nat} {a1 : Int32} {h : AH} {K : Int32 → AH → Prop} (w : wX10_does a0 a1 h K) : Cn mX10_does (cwd mX10_does) 9 0 0 [.ref a0, .int a1] h (KI K) T0 := by
  refine Cn_of (by decide +kernel) rfl (Nat.le_of_ble_eq_true rfl) ?_
  show X mX10_does 9 (KI K) T0 0 0 0 [(0, .ref a0), (1, .int a1)] [] h
  unfold wX10_does at w
  refine X_aload_n (j := 0) (show decode cX10_does 0 = .ok (.aload_n 0, 1) by decide +kernel) rfl rfl ?_
  obtain ⟨s1, w⟩ := w
  refine X_getR fl_X10_25 (show decode cX10_does 1 = .ok (.getfield 25, 3) by decide +kernel) s1 ?_
  refine X_iconst (v := (nI 4)) (show decode cX10_does 4 = .ok (.iconst 4, 1) by decide +kernel) (by decide) ?_
  refine X_iload_n (j := 1) (show decode cX10_does 5 = .ok (.iload_n 1, 1) by decide +kernel) rfl rfl ?_
  refine X_imul (show decode cX10_does 6 = .ok (.imul, 1) by decide +kernel) ?_
  refine X_iconst (v := (nI 1)) (show decode cX10_does 7 = .ok (.iconst 1, 1) by decide +kernel) (by decide) ?_
  refine X_iadd (show decode cX10_does 8 = .ok (.iadd, 1) by decide +kernel) ?_
  obtain ⟨s2, w⟩ := w
  obtain ⟨s3, w⟩ := w
  refine X_iald (show decode cX10_does 9 = .ok (.iaload, 1) by decide +kernel) (isA_eq s2) s3 ?_
  refine X_topi (fun v4 e5 => ?_)
  have w := w v4 e5
  refine X_istore_n (ls' := [(0, .ref _), (1, .int _), (2, .int _)]) (show decode cX10_does 10 = .ok (.istore_n 2, 1) by decide +kernel) rfl (by decide) rfl ?_
  refine X_aload_n (j := 0) (show decode cX10_does 11 = .ok (.aload_n 0, 1) by decide +kernel) rfl rfl ?_
  refine X_getR fl_X10_25 (show decode cX10_does 12 = .ok (.getfield 25, 3) by decide +kernel) s1 ?_
  refine X_iconst (v := (nI 4)) (show decode cX10_does 15 = .ok (.iconst 4, 1) by decide +kernel) (by decide) ?_
  refine X_iload_n (j := 1) (show decode cX10_does 16 = .ok (.iload_n 1, 1) by decide +kernel) rfl rfl ?_
  refine X_imul (show decode cX10_does 17 = .ok (.imul, 1) by decide +kernel) ?_
  refine X_iconst (v := (nI 2)) (show decode cX10_does 18 = .ok (.iconst 2, 1) by decide +kernel) (by decide) ?_
  refine X_iadd (show decode cX10_does 19 = .ok (.iadd, 1) by decide +kernel) ?_
  obtain ⟨s6, w⟩ := w
  refine X_iald (show decode cX10_does 20 = .ok (.iaload, 1) by decide +kernel) (isA_eq s2) s6 ?_
  refine X_topi (fun v7 e8 => ?_)
  have w := w v7 e8
  refine X_istore_n (ls' := [(0, .ref _), (1, .int _), (2, .int _), (3, .int _)]) (show decode cX10_does 21 = .ok (.istore_n 3, 1) by decide +kernel) rfl (by decide) rfl ?_
  refine X_aload_n (j := 0) (show decode cX10_does 22 = .ok (.aload_n 0, 1) by decide +kernel) rfl rfl ?_
  refine X_getR fl_X10_25 (show decode cX10_does 23 = .ok (.getfield 25, 3) by decide +kernel) s1 ?_
  refine X_iconst (v := (nI 4)) (show decode cX10_does 26 = .ok (.iconst 4, 1) by decide +kernel) (by decide) ?_
  refine X_iload_n (j := 1) (show decode cX10_does 27 = .ok (.iload_n 1, 1) by decide +kernel) rfl rfl ?_
  refine X_imul (show decode cX10_does 28 = .ok (.imul, 1) by decide +kernel) ?_
  obtain ⟨s9, w⟩ := w
  refine X_iald (show decode cX10_does 29 = .ok (.iaload, 1) by decide +kernel) (isA_eq s2) s9 ?_
  by_cases z98 : mI h (mR h a0 8) ((nI 4) * a1).toNatClampNeg = (nI 98)
  · have w := w.1 z98
    refine X_lookup (tgt := 112) (show decode cX10_does 30 = .ok (.lookupswitch 149 #[(98, 82), (102, 137), (108, 105), (111, 143), (112, 88), (115, 125), (116, 112), (215, 131), (216, 119)], 82) by decide +kernel) (by decide) (by rw [z98] <;> rfl) (by decide) ?_
    refine X_aload_n (j := 0) (show decode cX10_does 112 = .ok (.aload_n 0, 1) by decide +kernel) rfl rfl ?_
    refine X_iload_n (j := 2) (show decode cX10_does 113 = .ok (.iload_n 2, 1) by decide +kernel) rfl rfl ?_
    refine X_vI (rc' := 0) (rs' := 0) (as := [.int _]) mv_X10_166 (show decode cX10_does 114 = .ok (.invokevirtual 166, 3) by decide +kernel) (by decide) (Nat.le_of_ble_eq_true rfl) (Nat.le_of_ble_eq_true rfl) rfl rfl (Nat.le_of_ble_eq_true rfl) (rcvD s1 (by decide) rfl) (kX10_lays w) (fun E h hk => hk.elim) (fun r11 h10 w => ?_)
    exact X_iret ⟨(show decode cX10_does 117 = .ok (.ireturn, 1) by decide +kernel), .int, rfl, rfl⟩ ⟨_, rfl, w⟩
  by_cases z102 : mI h (mR h a0 8) ((nI 4) * a1).toNatClampNeg = (nI 102)
  · have w := w.2.1 z102
    refine X_lookup (tgt := 167) (show decode cX10_does 30 = .ok (.lookupswitch 149 #[(98, 82), (102, 137), (108, 105), (111, 143), (112, 88), (115, 125), (116, 112), (215, 131), (216, 119)], 82) by decide +kernel) (by decide) (by rw [z102] <;> rfl) (by decide) ?_
    refine X_aload_n (j := 0) (show decode cX10_does 167 = .ok (.aload_n 0, 1) by decide +kernel) rfl rfl ?_
    refine X_iload_n (j := 2) (show decode cX10_does 168 = .ok (.iload_n 2, 1) by decide +kernel) rfl rfl ?_
    refine X_vI (rc' := 0) (rs' := 0) (as := [.int _]) mv_X10_193 (show decode cX10_does 169 = .ok (.invokevirtual 193, 3) by decide +kernel) (by decide) (Nat.le_of_ble_eq_true rfl) (Nat.le_of_ble_eq_true rfl) rfl rfl (Nat.le_of_ble_eq_true rfl) (rcvD s1 (by decide) rfl) (kX10_frees w) (fun E h hk => hk.elim) (fun r13 h12 w => ?_)
    exact X_iret ⟨(show decode cX10_does 172 = .ok (.ireturn, 1) by decide +kernel), .int, rfl, rfl⟩ ⟨_, rfl, w⟩
  by_cases z108 : mI h (mR h a0 8) ((nI 4) * a1).toNatClampNeg = (nI 108)
  · have w := w.2.2.1 z108
    refine X_lookup (tgt := 135) (show decode cX10_does 30 = .ok (.lookupswitch 149 #[(98, 82), (102, 137), (108, 105), (111, 143), (112, 88), (115, 125), (116, 112), (215, 131), (216, 119)], 82) by decide +kernel) (by decide) (by rw [z108] <;> rfl) (by decide) ?_
    refine X_aload_n (j := 0) (show decode cX10_does 135 = .ok (.aload_n 0, 1) by decide +kernel) rfl rfl ?_
    refine X_iload_n (j := 2) (show decode cX10_does 136 = .ok (.iload_n 2, 1) by decide +kernel) rfl rfl ?_
    refine X_iload_n (j := 3) (show decode cX10_does 137 = .ok (.iload_n 3, 1) by decide +kernel) rfl rfl ?_
    refine X_vI (rc' := 0) (rs' := 0) (as := [.int _, .int _]) mv_X10_175 (show decode cX10_does 138 = .ok (.invokevirtual 175, 3) by decide +kernel) (by decide) (Nat.le_of_ble_eq_true rfl) (Nat.le_of_ble_eq_true rfl) rfl rfl (Nat.le_of_ble_eq_true rfl) (rcvD s1 (by decide) rfl) (kX10_links w) (fun E h hk => hk.elim) (fun r15 h14 w => ?_)
    exact X_iret ⟨(show decode cX10_does 141 = .ok (.ireturn, 1) by decide +kernel), .int, rfl, rfl⟩ ⟨_, rfl, w⟩
  by_cases z111 : mI h (mR h a0 8) ((nI 4) * a1).toNatClampNeg = (nI 111)
  · have w := w.2.2.2.1 z111
    refine X_lookup (tgt := 173) (show decode cX10_does 30 = .ok (.lookupswitch 149 #[(98, 82), (102, 137), (108, 105), (111, 143), (112, 88), (115, 125), (116, 112), (215, 131), (216, 119)], 82) by decide +kernel) (by decide) (by rw [z111] <;> rfl) (by decide) ?_
    refine X_aload_n (j := 0) (show decode cX10_does 173 = .ok (.aload_n 0, 1) by decide +kernel) rfl rfl ?_
    refine X_iload_n (j := 2) (show decode cX10_does 174 = .ok (.iload_n 2, 1) by decide +kernel) rfl rfl ?_
    refine X_vI (rc' := 0) (rs' := 0) (as := [.int _]) mv_X10_181 (show decode cX10_does 175 = .ok (.invokevirtual 181, 3) by decide +kernel) (by decide) (Nat.le_of_ble_eq_true rfl) (Nat.le_of_ble_eq_true rfl) rfl rfl (Nat.le_of_ble_eq_true rfl) (rcvD s1 (by decide) rfl) (kX10_opens w) (fun E h hk => hk.elim) (fun r17 h16 w => ?_)
    exact X_iret ⟨(show decode cX10_does 178 = .ok (.ireturn, 1) by decide +kernel), .int, rfl, rfl⟩ ⟨_, rfl, w⟩
  by_cases z112 : mI h (mR h a0 8) ((nI 4) * a1).toNatClampNeg = (nI 112)
  · have w := w.2.2.2.2.1 z112
    refine X_lookup (tgt := 118) (show decode cX10_does 30 = .ok (.lookupswitch 149 #[(98, 82), (102, 137), (108, 105), (111, 143), (112, 88), (115, 125), (116, 112), (215, 131), (216, 119)], 82) by decide +kernel) (by decide) (by rw [z112] <;> rfl) (by decide) ?_
    refine X_aload_n (j := 0) (show decode cX10_does 118 = .ok (.aload_n 0, 1) by decide +kernel) rfl rfl ?_
    refine X_iload_n (j := 2) (show decode cX10_does 119 = .ok (.iload_n 2, 1) by decide +kernel) rfl rfl ?_
    refine X_iload_n (j := 3) (show decode cX10_does 120 = .ok (.iload_n 3, 1) by decide +kernel) rfl rfl ?_
    refine X_aload_n (j := 0) (show decode cX10_does 121 = .ok (.aload_n 0, 1) by decide +kernel) rfl rfl ?_
    refine X_getR fl_X10_25 (show decode cX10_does 122 = .ok (.getfield 25, 3) by decide +kernel) s1 ?_
    refine X_iconst (v := (nI 4)) (show decode cX10_does 125 = .ok (.iconst 4, 1) by decide +kernel) (by decide) ?_
    refine X_iload_n (j := 1) (show decode cX10_does 126 = .ok (.iload_n 1, 1) by decide +kernel) rfl rfl ?_
    refine X_imul (show decode cX10_does 127 = .ok (.imul, 1) by decide +kernel) ?_
    refine X_iconst (v := (nI 3)) (show decode cX10_does 128 = .ok (.iconst 3, 1) by decide +kernel) (by decide) ?_
    refine X_iadd (show decode cX10_does 129 = .ok (.iadd, 1) by decide +kernel) ?_
    obtain ⟨s18, w⟩ := w
    refine X_iald (show decode cX10_does 130 = .ok (.iaload, 1) by decide +kernel) (isA_eq s2) s18 ?_
    refine X_vI (rc' := 0) (rs' := 0) (as := [.int _, .int _, .int _]) mv_X10_172 (show decode cX10_does 131 = .ok (.invokevirtual 172, 3) by decide +kernel) (by decide) (Nat.le_of_ble_eq_true rfl) (Nat.le_of_ble_eq_true rfl) rfl rfl (Nat.le_of_ble_eq_true rfl) (rcvD s1 (by decide) rfl) (kX10_forks w) (fun E h hk => hk.elim) (fun r20 h19 w => ?_)
    exact X_iret ⟨(show decode cX10_does 134 = .ok (.ireturn, 1) by decide +kernel), .int, rfl, rfl⟩ ⟨_, rfl, w⟩
  by_cases z115 : mI h (mR h a0 8) ((nI 4) * a1).toNatClampNeg = (nI 115)
  · have w := w.2.2.2.2.2.1 z115
    refine X_lookup (tgt := 155) (show decode cX10_does 30 = .ok (.lookupswitch 149 #[(98, 82), (102, 137), (108, 105), (111, 143), (112, 88), (115, 125), (116, 112), (215, 131), (216, 119)], 82) by decide +kernel) (by decide) (by rw [z115] <;> rfl) (by decide) ?_
    refine X_aload_n (j := 0) (show decode cX10_does 155 = .ok (.aload_n 0, 1) by decide +kernel) rfl rfl ?_
    refine X_iload_n (j := 2) (show decode cX10_does 156 = .ok (.iload_n 2, 1) by decide +kernel) rfl rfl ?_
    refine X_vI (rc' := 0) (rs' := 0) (as := [.int _]) mv_X10_190 (show decode cX10_does 157 = .ok (.invokevirtual 190, 3) by decide +kernel) (by decide) (Nat.le_of_ble_eq_true rfl) (Nat.le_of_ble_eq_true rfl) rfl rfl (Nat.le_of_ble_eq_true rfl) (rcvD s1 (by decide) rfl) (kX10_clears w) (fun E h hk => hk.elim) (fun r22 h21 w => ?_)
    exact X_iret ⟨(show decode cX10_does 160 = .ok (.ireturn, 1) by decide +kernel), .int, rfl, rfl⟩ ⟨_, rfl, w⟩
  by_cases z116 : mI h (mR h a0 8) ((nI 4) * a1).toNatClampNeg = (nI 116)
  · have w := w.2.2.2.2.2.2.1 z116
    refine X_lookup (tgt := 142) (show decode cX10_does 30 = .ok (.lookupswitch 149 #[(98, 82), (102, 137), (108, 105), (111, 143), (112, 88), (115, 125), (116, 112), (215, 131), (216, 119)], 82) by decide +kernel) (by decide) (by rw [z116] <;> rfl) (by decide) ?_
    refine X_aload_n (j := 0) (show decode cX10_does 142 = .ok (.aload_n 0, 1) by decide +kernel) rfl rfl ?_
    refine X_iload_n (j := 2) (show decode cX10_does 143 = .ok (.iload_n 2, 1) by decide +kernel) rfl rfl ?_
    refine X_iload_n (j := 3) (show decode cX10_does 144 = .ok (.iload_n 3, 1) by decide +kernel) rfl rfl ?_
    refine X_vI (rc' := 0) (rs' := 0) (as := [.int _, .int _]) mv_X10_187 (show decode cX10_does 145 = .ok (.invokevirtual 187, 3) by decide +kernel) (by decide) (Nat.le_of_ble_eq_true rfl) (Nat.le_of_ble_eq_true rfl) rfl rfl (Nat.le_of_ble_eq_true rfl) (rcvD s1 (by decide) rfl) (kX10_comes w) (fun E h hk => hk.elim) (fun r24 h23 w => ?_)
    exact X_iret ⟨(show decode cX10_does 148 = .ok (.ireturn, 1) by decide +kernel), .int, rfl, rfl⟩ ⟨_, rfl, w⟩
  by_cases z215 : mI h (mR h a0 8) ((nI 4) * a1).toNatClampNeg = (nI 215)
  · have w := w.2.2.2.2.2.2.2.1 z215
    refine X_lookup (tgt := 161) (show decode cX10_does 30 = .ok (.lookupswitch 149 #[(98, 82), (102, 137), (108, 105), (111, 143), (112, 88), (115, 125), (116, 112), (215, 131), (216, 119)], 82) by decide +kernel) (by decide) (by rw [z215] <;> rfl) (by decide) ?_
    refine X_aload_n (j := 0) (show decode cX10_does 161 = .ok (.aload_n 0, 1) by decide +kernel) rfl rfl ?_
    refine X_iload_n (j := 2) (show decode cX10_does 162 = .ok (.iload_n 2, 1) by decide +kernel) rfl rfl ?_
    refine X_vI (rc' := 0) (rs' := 0) (as := [.int _]) mv_X10_178 (show decode cX10_does 163 = .ok (.invokevirtual 178, 3) by decide +kernel) (by decide) (Nat.le_of_ble_eq_true rfl) (Nat.le_of_ble_eq_true rfl) rfl rfl (Nat.le_of_ble_eq_true rfl) (rcvD s1 (by decide) rfl) (kX10_shuts w) (fun E h hk => hk.elim) (fun r26 h25 w => ?_)
    exact X_iret ⟨(show decode cX10_does 166 = .ok (.ireturn, 1) by decide +kernel), .int, rfl, rfl⟩ ⟨_, rfl, w⟩
  by_cases z216 : mI h (mR h a0 8) ((nI 4) * a1).toNatClampNeg = (nI 216)
  · have w := w.2.2.2.2.2.2.2.2.1 z216
    refine X_lookup (tgt := 149) (show decode cX10_does 30 = .ok (.lookupswitch 149 #[(98, 82), (102, 137), (108, 105), (111, 143), (112, 88), (115, 125), (116, 112), (215, 131), (216, 119)], 82) by decide +kernel) (by decide) (by rw [z216] <;> rfl) (by decide) ?_
    refine X_aload_n (j := 0) (show decode cX10_does 149 = .ok (.aload_n 0, 1) by decide +kernel) rfl rfl ?_
    refine X_iload_n (j := 2) (show decode cX10_does 150 = .ok (.iload_n 2, 1) by decide +kernel) rfl rfl ?_
    refine X_vI (rc' := 0) (rs' := 0) (as := [.int _]) mv_X10_184 (show decode cX10_does 151 = .ok (.invokevirtual 184, 3) by decide +kernel) (by decide) (Nat.le_of_ble_eq_true rfl) (Nat.le_of_ble_eq_true rfl) rfl rfl (Nat.le_of_ble_eq_true rfl) (rcvD s1 (by decide) rfl) (kX10_throwsOver w) (fun E h hk => hk.elim) (fun r28 h27 w => ?_)
    exact X_iret ⟨(show decode cX10_does 154 = .ok (.ireturn, 1) by decide +kernel), .int, rfl, rfl⟩ ⟨_, rfl, w⟩
  have w := w.2.2.2.2.2.2.2.2.2 ⟨z98, z102, z108, z111, z112, z115, z116, z215, z216⟩
  refine X_lookup (off := 149) (tgt := 179) (show decode cX10_does 30 = .ok (.lookupswitch 149 #[(98, 82), (102, 137), (108, 105), (111, 143), (112, 88), (115, 125), (116, 112), (215, 131), (216, 119)], 82) by decide +kernel) (by decide) (by show Op.lookupswitch.offset [(98, 82), (102, 137), (108, 105), (111, 143), (112, 88), (115, 125), (116, 112), (215, 131), (216, 119)] 149 _ = _; rw [lv_osw z98 (by decide), lv_osw z102 (by decide), lv_osw z108 (by decide), lv_osw z111 (by decide), lv_osw z112 (by decide), lv_osw z115 (by decide), lv_osw z116 (by decide), lv_osw z215 (by decide), lv_osw z216 (by decide)]; rfl) (by decide) ?_
  refine X_aload_n (j := 0) (show decode cX10_does 179 = .ok (.aload_n 0, 1) by decide +kernel) rfl rfl ?_
  refine X_iload_n (j := 2) (show decode cX10_does 180 = .ok (.iload_n 2, 1) by decide +kernel) rfl rfl ?_
  refine X_vI (rc' := 0) (rs' := 0) (as := [.int _]) mv_X10_196 (show decode cX10_does 181 = .ok (.invokevirtual 196, 3) by decide +kernel) (by decide) (Nat.le_of_ble_eq_true rfl) (Nat.le_of_ble_eq_true rfl) rfl rfl (Nat.le_of_ble_eq_true rfl) (rcvD s1 (by decide) rfl) (kX10_passes w) (fun E h hk => hk.elim) (fun r30 h29 w => ?_)
  exact X_iret ⟨(show decode cX10_does 184 = .ok (.ireturn, 1) by decide +kernel), .int, rfl, rfl⟩ ⟨_, rfl, w⟩
set_option maxRecDepth 100000 in
set_option maxHeartbeats 4000000 in
theorem kX10_run_L36 {K : Int32 → AH → Prop} {c70 : Nat → AH → Prop} (hc70 : ∀ x0 h, c70 x0 h → X mX10_run 10 (KI K) T0 0 0 70 [(0, .ref x0)] [] h)  : ∀ (n : Nat) (x0 : Nat) (h : AH), wX10_run_L36 K c70  n x0 h → X mX10_run 10 (KI K) T0 0 0 36 [(0, .ref x0)] [] h := by
  intro n
  induction n with
  | zero => intro _ _ w; exact w.elim
  | succ n ih =>
    intro x0 h w
    rw [wX10_run_L36] at w
    refine X_aload_n (j := 0) (show decode cX10_run 36 = .ok (.aload_n 0, 1) by decide +kernel) rfl rfl ?_
    obtain ⟨s11, w⟩ := w
    refine X_getI fl_X10_253 (show decode cX10_run 37 = .ok (.getfield 253, 3) by decide +kernel) s11 ?_
    refine X_if_ne (tgt := 70) (show decode cX10_run 40 = .ok (.ifCond .ne 30, 3) by decide +kernel) (by decide) ⟨fun c12 => ?_, fun c12 => ?_⟩
    · have w := w.1 c12
      exact hc70 _ _ w
    · have w := w.2 c12
      refine X_aload_n (j := 0) (show decode cX10_run 43 = .ok (.aload_n 0, 1) by decide +kernel) rfl rfl ?_
      refine X_iconst (v := (nI 0)) (show decode cX10_run 44 = .ok (.iconst 0, 1) by decide +kernel) (by decide) ?_
      refine X_vI (rc' := 0) (rs' := 0) (as := [.int _]) mv_X10_257 (show decode cX10_run 45 = .ok (.invokevirtual 257, 3) by decide +kernel) (by decide) (Nat.le_of_ble_eq_true rfl) (Nat.le_of_ble_eq_true rfl) rfl rfl (Nat.le_of_ble_eq_true rfl) (rcvD s11 (by decide) rfl) (kX10_here w) (fun E h hk => hk.elim) (fun r14 h13 w => ?_)
      refine X_bipush (v := (nI 59)) (show decode cX10_run 48 = .ok (.bipush 59, 2) by decide +kernel) (by decide) ?_
      refine X_icmp_ne (tgt := 70) (show decode cX10_run 50 = .ok (.if_icmp .ne 20, 3) by decide +kernel) (by decide) ⟨fun c15 => ?_, fun c15 => ?_⟩
      · have w := w.1 c15
        exact hc70 _ _ w
      · have w := w.2 c15
        refine X_aload_n (j := 0) (show decode cX10_run 53 = .ok (.aload_n 0, 1) by decide +kernel) rfl rfl ?_
        refine X_dup (show decode cX10_run 54 = .ok (.dup, 1) by decide +kernel) rfl ?_
        obtain ⟨s16, w⟩ := w
        refine X_getI fl_X10_242 (show decode cX10_run 55 = .ok (.getfield 242, 3) by decide +kernel) s16 ?_
        refine X_iconst (v := (nI 1)) (show decode cX10_run 58 = .ok (.iconst 1, 1) by decide +kernel) (by decide) ?_
        refine X_iadd (show decode cX10_run 59 = .ok (.iadd, 1) by decide +kernel) ?_
        refine X_putI fp_X10_242 (show decode cX10_run 60 = .ok (.putfield 242, 3) by decide +kernel) (fun z => nomatch z) s16 rfl rfl ?_
        have w := w _ rfl
        refine X_aload_n (j := 0) (show decode cX10_run 63 = .ok (.aload_n 0, 1) by decide +kernel) rfl rfl ?_
        refine X_vV (rc' := 0) (rs' := 0) (as := []) mv_X10_304 (show decode cX10_run 64 = .ok (.invokevirtual 304, 3) by decide +kernel) (by decide) (Nat.le_of_ble_eq_true rfl) (Nat.le_of_ble_eq_true rfl) rfl rfl (Nat.le_of_ble_eq_true rfl) (rcvD s16 (by decide) rfl) (kX10_readsOne w) (fun E h hk => hk.elim) (fun h18 w => ?_)
        refine X_goto (tgt := 36) (show decode cX10_run 67 = .ok (.goto (-31), 3) by decide +kernel) (by decide) ?_
        exact ih _ _ w
set_option maxRecDepth 100000 in
set_option maxHeartbeats 4000000 in
theorem kX10_run_J88 {K : Int32 → AH → Prop}   (x0 : Nat) (h : AH) (w : wX10_run_J88 K  x0 h) : X mX10_run 10 (KI K) T0 0 0 88 [(0, .ref x0)] [] h := by
  unfold wX10_run_J88 at w
  refine X_aload_n (j := 0) (show decode cX10_run 88 = .ok (.aload_n 0, 1) by decide +kernel) rfl rfl ?_
  refine X_aload_n (j := 0) (show decode cX10_run 89 = .ok (.aload_n 0, 1) by decide +kernel) rfl rfl ?_
  obtain ⟨s24, w⟩ := w
  refine X_getI fl_X10_242 (show decode cX10_run 90 = .ok (.getfield 242, 3) by decide +kernel) s24 ?_
  refine X_putI fp_X10_46 (show decode cX10_run 93 = .ok (.putfield 46, 3) by decide +kernel) (fun z => nomatch z) s24 rfl rfl ?_
  have w := w _ rfl
  refine X_aload_n (j := 0) (show decode cX10_run 96 = .ok (.aload_n 0, 1) by decide +kernel) rfl rfl ?_
  refine X_iconst (v := (nI 1)) (show decode cX10_run 97 = .ok (.iconst 1, 1) by decide +kernel) (by decide) ?_
  refine X_vI (rc' := 0) (rs' := 0) (as := [.int _]) mv_X10_69 (show decode cX10_run 98 = .ok (.invokevirtual 69, 3) by decide +kernel) (by decide) (Nat.le_of_ble_eq_true rfl) (Nat.le_of_ble_eq_true rfl) rfl rfl (Nat.le_of_ble_eq_true rfl) (rcvD s24 (by decide) rfl) (kX10_fails w) (fun E h hk => hk.elim) (fun r27 h26 w => ?_)
  exact X_iret ⟨(show decode cX10_run 101 = .ok (.ireturn, 1) by decide +kernel), .int, rfl, rfl⟩ ⟨_, rfl, w⟩
set_option maxRecDepth 100000 in
set_option maxHeartbeats 4000000 in
theorem kX10_run_L104 {K : Int32 → AH → Prop} {c123 : Nat → Int32 → AH → Prop} (hc123 : ∀ x0 x1 h, c123 x0 x1 h → X mX10_run 10 (KI K) T0 0 0 123 [(0, .ref x0), (1, .int x1)] [] h)  : ∀ (n : Nat) (x0 : Nat) (x1 : Int32) (h : AH), wX10_run_L104 K c123  n x0 x1 h → X mX10_run 10 (KI K) T0 0 0 104 [(0, .ref x0), (1, .int x1)] [] h := by
  intro n
  induction n with
  | zero => intro _ _ _ w; exact w.elim
  | succ n ih =>
    intro x0 x1 h w
    rw [wX10_run_L104] at w
    refine X_iload_n (j := 1) (show decode cX10_run 104 = .ok (.iload_n 1, 1) by decide +kernel) rfl rfl ?_
    refine X_aload_n (j := 0) (show decode cX10_run 105 = .ok (.aload_n 0, 1) by decide +kernel) rfl rfl ?_
    obtain ⟨s29, w⟩ := w
    refine X_getI fl_X10_268 (show decode cX10_run 106 = .ok (.getfield 268, 3) by decide +kernel) s29 ?_
    refine X_icmp_ge (tgt := 167) (show decode cX10_run 109 = .ok (.if_icmp .ge 58, 3) by decide +kernel) (by decide) ⟨fun c30 => ?_, fun c30 => ?_⟩
    · have w := w.1 c30
      refine X_aload_n (j := 0) (show decode cX10_run 167 = .ok (.aload_n 0, 1) by decide +kernel) rfl rfl ?_
      refine X_aload_n (j := 0) (show decode cX10_run 168 = .ok (.aload_n 0, 1) by decide +kernel) rfl rfl ?_
      refine X_getI fl_X10_268 (show decode cX10_run 169 = .ok (.getfield 268, 3) by decide +kernel) s29 ?_
      refine X_vI (rc' := 0) (rs' := 0) (as := [.int _]) mv_X10_65 (show decode cX10_run 172 = .ok (.invokevirtual 65, 3) by decide +kernel) (by decide) (Nat.le_of_ble_eq_true rfl) (Nat.le_of_ble_eq_true rfl) rfl rfl (Nat.le_of_ble_eq_true rfl) (rcvD s29 (by decide) rfl) (kX10_changed w) (fun E h hk => hk.elim) (fun r32 h31 w => ?_)
      exact X_iret ⟨(show decode cX10_run 175 = .ok (.ireturn, 1) by decide +kernel), .int, rfl, rfl⟩ ⟨_, rfl, w⟩
    · have w := w.2 c30
      refine X_aload_n (j := 0) (show decode cX10_run 112 = .ok (.aload_n 0, 1) by decide +kernel) rfl rfl ?_
      refine X_iload_n (j := 1) (show decode cX10_run 113 = .ok (.iload_n 1, 1) by decide +kernel) rfl rfl ?_
      refine X_vI (rc' := 0) (rs' := 0) (as := [.int _]) mv_X10_307 (show decode cX10_run 114 = .ok (.invokevirtual 307, 3) by decide +kernel) (by decide) (Nat.le_of_ble_eq_true rfl) (Nat.le_of_ble_eq_true rfl) rfl rfl (Nat.le_of_ble_eq_true rfl) (rcvD s29 (by decide) rfl) (kX10_does w) (fun E h hk => hk.elim) (fun r34 h33 w => ?_)
      refine X_if_ne (tgt := 123) (show decode cX10_run 117 = .ok (.ifCond .ne 6, 3) by decide +kernel) (by decide) ⟨fun c35 => ?_, fun c35 => ?_⟩
      · have w := w.1 c35
        exact hc123 _ _ _ w
      · have w := w.2 c35
        refine X_goto (tgt := 161) (show decode cX10_run 120 = .ok (.goto 41, 3) by decide +kernel) (by decide) ?_
        refine X_iinc (j := 1) (v := _ + (nI 1)) (ls' := [(0, .ref _), (1, .int _)]) (show decode cX10_run 161 = .ok (.iinc 1 1, 3) by decide +kernel) rfl rfl (Nat.le_of_ble_eq_true rfl) rfl ?_
        refine X_goto (tgt := 104) (show decode cX10_run 164 = .ok (.goto (-60), 3) by decide +kernel) (by decide) ?_
        exact ih _ _ _ w
set_option maxRecDepth 100000 in
set_option maxHeartbeats 4000000 in
theorem kX10_run_L125 {K : Int32 → AH → Prop}    : ∀ (n : Nat) (x0 : Nat) (x1 : Int32) (x2 : Int32) (h : AH), wX10_run_L125 K   n x0 x1 x2 h → X mX10_run 10 (KI K) T0 0 0 125 [(0, .ref x0), (1, .int x1), (2, .int x2)] [] h := by
  intro n
  induction n with
  | zero => intro _ _ _ _ w; exact w.elim
  | succ n ih =>
    intro x0 x1 x2 h w
    rw [wX10_run_L125] at w
    refine X_iload_n (j := 2) (show decode cX10_run 125 = .ok (.iload_n 2, 1) by decide +kernel) rfl rfl ?_
    refine X_sipush (v := (nI 281)) (show decode cX10_run 126 = .ok (.sipush 281, 3) by decide +kernel) (by decide) ?_
    refine X_icmp_ge (tgt := 150) (show decode cX10_run 129 = .ok (.if_icmp .ge 21, 3) by decide +kernel) (by decide) ⟨fun c39 => ?_, fun c39 => ?_⟩
    · have w := w.1 c39
      refine X_aload_n (j := 0) (show decode cX10_run 150 = .ok (.aload_n 0, 1) by decide +kernel) rfl rfl ?_
      refine X_iload_n (j := 1) (show decode cX10_run 151 = .ok (.iload_n 1, 1) by decide +kernel) rfl rfl ?_
      obtain ⟨s40, w⟩ := w
      refine X_putI fp_X10_50 (show decode cX10_run 152 = .ok (.putfield 50, 3) by decide +kernel) (fun z => nomatch z) s40 rfl rfl ?_
      have w := w _ rfl
      refine X_aload_n (j := 0) (show decode cX10_run 155 = .ok (.aload_n 0, 1) by decide +kernel) rfl rfl ?_
      refine X_iconst (v := (nI 2)) (show decode cX10_run 156 = .ok (.iconst 2, 1) by decide +kernel) (by decide) ?_
      refine X_vI (rc' := 0) (rs' := 0) (as := [.int _]) mv_X10_69 (show decode cX10_run 157 = .ok (.invokevirtual 69, 3) by decide +kernel) (by decide) (Nat.le_of_ble_eq_true rfl) (Nat.le_of_ble_eq_true rfl) rfl rfl (Nat.le_of_ble_eq_true rfl) (rcvD s40 (by decide) rfl) (kX10_fails w) (fun E h hk => hk.elim) (fun r43 h42 w => ?_)
      exact X_iret ⟨(show decode cX10_run 160 = .ok (.ireturn, 1) by decide +kernel), .int, rfl, rfl⟩ ⟨_, rfl, w⟩
    · have w := w.2 c39
      refine X_aload_n (j := 0) (show decode cX10_run 132 = .ok (.aload_n 0, 1) by decide +kernel) rfl rfl ?_
      obtain ⟨s44, w⟩ := w
      refine X_getR fl_X10_7 (show decode cX10_run 133 = .ok (.getfield 7, 3) by decide +kernel) s44 ?_
      refine X_iload_n (j := 2) (show decode cX10_run 136 = .ok (.iload_n 2, 1) by decide +kernel) rfl rfl ?_
      refine X_aload_n (j := 0) (show decode cX10_run 137 = .ok (.aload_n 0, 1) by decide +kernel) rfl rfl ?_
      refine X_getR fl_X10_13 (show decode cX10_run 138 = .ok (.getfield 13, 3) by decide +kernel) s44 ?_
      refine X_iload_n (j := 2) (show decode cX10_run 141 = .ok (.iload_n 2, 1) by decide +kernel) rfl rfl ?_
      obtain ⟨s45, w⟩ := w
      obtain ⟨s46, w⟩ := w
      refine X_iald (show decode cX10_run 142 = .ok (.iaload, 1) by decide +kernel) (isA_eq s45) s46 ?_
      obtain ⟨s47, w⟩ := w
      obtain ⟨s48, w⟩ := w
      obtain ⟨s49, w⟩ := w
      refine X_iast (show decode cX10_run 143 = .ok (.iastore, 1) by decide +kernel) (isA_eq s47) s48 s49 ?_
      have w := w _ rfl
      refine X_iinc (j := 2) (v := _ + (nI 1)) (ls' := [(0, .ref _), (1, .int _), (2, .int _)]) (show decode cX10_run 144 = .ok (.iinc 2 1, 3) by decide +kernel) rfl rfl (Nat.le_of_ble_eq_true rfl) rfl ?_
      refine X_goto (tgt := 125) (show decode cX10_run 147 = .ok (.goto (-22), 3) by decide +kernel) (by decide) ?_
      exact ih _ _ _ _ w
set_option maxRecDepth 100000 in
set_option maxHeartbeats 4000000 in
theorem kX10_run {a0 : Nat} {h : AH} {K : Int32 → AH → Prop} (w : wX10_run a0 h K) : Cn mX10_run (cwd mX10_run) 10 0 0 [.ref a0] h (KI K) T0 := by
  refine Cn_of (by decide +kernel) rfl (Nat.le_of_ble_eq_true rfl) ?_
  show X mX10_run 10 (KI K) T0 0 0 0 [(0, .ref a0)] [] h
  unfold wX10_run at w
  refine X_aload_n (j := 0) (show decode cX10_run 0 = .ok (.aload_n 0, 1) by decide +kernel) rfl rfl ?_
  obtain ⟨s54, w⟩ := w
  refine X_vV (rc' := 0) (rs' := 0) (as := []) mv_X10_163 (show decode cX10_run 1 = .ok (.invokevirtual 163, 3) by decide +kernel) (by decide) (Nat.le_of_ble_eq_true rfl) (Nat.le_of_ble_eq_true rfl) rfl rfl (Nat.le_of_ble_eq_true rfl) (rcvD s54 (by decide) rfl) (kX10_remembers w) (fun E h hk => hk.elim) (fun h1 w => ?_)
  refine X_aload_n (j := 0) (show decode cX10_run 4 = .ok (.aload_n 0, 1) by decide +kernel) rfl rfl ?_
  refine X_iconst (v := (nI 0)) (show decode cX10_run 5 = .ok (.iconst 0, 1) by decide +kernel) (by decide) ?_
  obtain ⟨s3, w⟩ := w
  refine X_putI fp_X10_242 (show decode cX10_run 6 = .ok (.putfield 242, 3) by decide +kernel) (fun z => nomatch z) s3 rfl rfl ?_
  have w := w _ rfl
  refine X_aload_n (j := 0) (show decode cX10_run 9 = .ok (.aload_n 0, 1) by decide +kernel) rfl rfl ?_
  refine X_aload_n (j := 0) (show decode cX10_run 10 = .ok (.aload_n 0, 1) by decide +kernel) rfl rfl ?_
  refine X_getI fl_X10_239 (show decode cX10_run 11 = .ok (.getfield 239, 3) by decide +kernel) s3 ?_
  refine X_putI fp_X10_245 (show decode cX10_run 14 = .ok (.putfield 245, 3) by decide +kernel) (fun z => nomatch z) s3 rfl rfl ?_
  have w := w _ rfl
  refine X_aload_n (j := 0) (show decode cX10_run 17 = .ok (.aload_n 0, 1) by decide +kernel) rfl rfl ?_
  refine X_iconst (v := (nI 0)) (show decode cX10_run 18 = .ok (.iconst 0, 1) by decide +kernel) (by decide) ?_
  refine X_putI fp_X10_239 (show decode cX10_run 19 = .ok (.putfield 239, 3) by decide +kernel) (fun z => nomatch z) s3 rfl rfl ?_
  have w := w _ rfl
  refine X_aload_n (j := 0) (show decode cX10_run 22 = .ok (.aload_n 0, 1) by decide +kernel) rfl rfl ?_
  refine X_iconst (v := (nI 0)) (show decode cX10_run 23 = .ok (.iconst 0, 1) by decide +kernel) (by decide) ?_
  refine X_putI fp_X10_268 (show decode cX10_run 24 = .ok (.putfield 268, 3) by decide +kernel) (fun z => nomatch z) s3 rfl rfl ?_
  have w := w _ rfl
  refine X_aload_n (j := 0) (show decode cX10_run 27 = .ok (.aload_n 0, 1) by decide +kernel) rfl rfl ?_
  refine X_iconst (v := (nI 0)) (show decode cX10_run 28 = .ok (.iconst 0, 1) by decide +kernel) (by decide) ?_
  refine X_putI fp_X10_253 (show decode cX10_run 29 = .ok (.putfield 253, 3) by decide +kernel) (fun z => nomatch z) s3 (by decide) (by decide) ?_
  have w := w _ rfl
  refine X_aload_n (j := 0) (show decode cX10_run 32 = .ok (.aload_n 0, 1) by decide +kernel) rfl rfl ?_
  refine X_vV (rc' := 0) (rs' := 0) (as := []) mv_X10_304 (show decode cX10_run 33 = .ok (.invokevirtual 304, 3) by decide +kernel) (by decide) (Nat.le_of_ble_eq_true rfl) (Nat.le_of_ble_eq_true rfl) rfl rfl (Nat.le_of_ble_eq_true rfl) (rcvD s3 (by decide) rfl) (kX10_readsOne w) (fun E h hk => hk.elim) (fun h9 w => ?_)
  obtain ⟨n53, w⟩ := w
  refine kX10_run_L36 ?_ n53 _ _ w
  · intro x0_20 h21 w
    refine X_aload_n (j := 0) (show decode cX10_run 70 = .ok (.aload_n 0, 1) by decide +kernel) rfl rfl ?_
    obtain ⟨s22, w⟩ := w
    refine X_getI fl_X10_253 (show decode cX10_run 71 = .ok (.getfield 253, 3) by decide +kernel) s22 ?_
    refine X_if_ne (tgt := 88) (show decode cX10_run 74 = .ok (.ifCond .ne 14, 3) by decide +kernel) (by decide) ⟨fun c23 => ?_, fun c23 => ?_⟩
    · have w := w.1 c23
      exact kX10_run_J88  _ _ w
    · have w := w.2 c23
      refine X_aload_n (j := 0) (show decode cX10_run 77 = .ok (.aload_n 0, 1) by decide +kernel) rfl rfl ?_
      refine X_getI fl_X10_242 (show decode cX10_run 78 = .ok (.getfield 242, 3) by decide +kernel) s22 ?_
      refine X_aload_n (j := 0) (show decode cX10_run 81 = .ok (.aload_n 0, 1) by decide +kernel) rfl rfl ?_
      refine X_getI fl_X10_245 (show decode cX10_run 82 = .ok (.getfield 245, 3) by decide +kernel) s22 ?_
      refine X_icmp_ge (tgt := 102) (show decode cX10_run 85 = .ok (.if_icmp .ge 17, 3) by decide +kernel) (by decide) ⟨fun c28 => ?_, fun c28 => ?_⟩
      · have w := w.1 c28
        refine X_iconst (v := (nI 0)) (show decode cX10_run 102 = .ok (.iconst 0, 1) by decide +kernel) (by decide) ?_
        refine X_istore_n (ls' := [(0, .ref _), (1, .int _)]) (show decode cX10_run 103 = .ok (.istore_n 1, 1) by decide +kernel) rfl (by decide) rfl ?_
        obtain ⟨n52, w⟩ := w
        refine kX10_run_L104 ?_ n52 _ _ _ w
        · intro x0_36 x1_37 h38 w
          refine X_iconst (v := (nI 0)) (show decode cX10_run 123 = .ok (.iconst 0, 1) by decide +kernel) (by decide) ?_
          refine X_istore_n (ls' := [(0, .ref _), (1, .int _), (2, .int _)]) (show decode cX10_run 124 = .ok (.istore_n 2, 1) by decide +kernel) rfl (by decide) rfl ?_
          obtain ⟨n51, w⟩ := w
          exact kX10_run_L125  n51 _ _ _ _ w
      · have w := w.2 c28
        exact kX10_run_J88  _ _ w
set_option maxRecDepth 100000 in
set_option maxHeartbeats 4000000 in
theorem kX10_errorPosition {a0 : Nat} {h : AH} {K : Int32 → AH → Prop} (w : wX10_errorPosition a0 h K) : Cn mX10_errorPosition (cwd mX10_errorPosition) 2 0 0 [.ref a0] h (KI K) T0 := by
  refine Cn_of (by decide +kernel) rfl (Nat.le_of_ble_eq_true rfl) ?_
  show X mX10_errorPosition 2 (KI K) T0 0 0 0 [(0, .ref a0)] [] h
  unfold wX10_errorPosition at w
  refine X_aload_n (j := 0) (show decode cX10_errorPosition 0 = .ok (.aload_n 0, 1) by decide +kernel) rfl rfl ?_
  refine X_iconst (v := (nI 0)) (show decode cX10_errorPosition 1 = .ok (.iconst 0, 1) by decide +kernel) (by decide) ?_
  obtain ⟨s1, w⟩ := w
  refine X_putI fp_X10_56 (show decode cX10_errorPosition 2 = .ok (.putfield 56, 3) by decide +kernel) (fun z => nomatch z) s1 rfl rfl ?_
  have w := w _ rfl
  refine X_aload_n (j := 0) (show decode cX10_errorPosition 5 = .ok (.aload_n 0, 1) by decide +kernel) rfl rfl ?_
  refine X_getI fl_X10_46 (show decode cX10_errorPosition 6 = .ok (.getfield 46, 3) by decide +kernel) s1 ?_
  refine X_iconst (v := (-1)) (show decode cX10_errorPosition 9 = .ok (.iconst (-1), 1) by decide +kernel) (by decide) ?_
  refine X_icmp_ne (tgt := 21) (show decode cX10_errorPosition 10 = .ok (.if_icmp .ne 11, 3) by decide +kernel) (by decide) ⟨fun c3 => ?_, fun c3 => ?_⟩
  · have w := w.1 c3
    refine X_aload_n (j := 0) (show decode cX10_errorPosition 21 = .ok (.aload_n 0, 1) by decide +kernel) rfl rfl ?_
    refine X_getI fl_X10_46 (show decode cX10_errorPosition 22 = .ok (.getfield 46, 3) by decide +kernel) s1 ?_
    exact X_iret ⟨(show decode cX10_errorPosition 25 = .ok (.ireturn, 1) by decide +kernel), .int, rfl, rfl⟩ ⟨_, rfl, w⟩
  · have w := w.2 c3
    refine X_aload_n (j := 0) (show decode cX10_errorPosition 13 = .ok (.aload_n 0, 1) by decide +kernel) rfl rfl ?_
    refine X_iconst (v := (nI 1)) (show decode cX10_errorPosition 14 = .ok (.iconst 1, 1) by decide +kernel) (by decide) ?_
    refine X_vI (rc' := 0) (rs' := 0) (as := [.int _]) mv_X10_69 (show decode cX10_errorPosition 15 = .ok (.invokevirtual 69, 3) by decide +kernel) (by decide) (Nat.le_of_ble_eq_true rfl) (Nat.le_of_ble_eq_true rfl) rfl rfl (Nat.le_of_ble_eq_true rfl) (rcvD s1 (by decide) rfl) (kX10_fails w) (fun E h hk => hk.elim) (fun r5 h4 w => ?_)
    refine X_goto (tgt := 25) (show decode cX10_errorPosition 18 = .ok (.goto 7, 3) by decide +kernel) (by decide) ?_
    exact X_iret ⟨(show decode cX10_errorPosition 25 = .ok (.ireturn, 1) by decide +kernel), .int, rfl, rfl⟩ ⟨_, rfl, w⟩
set_option maxRecDepth 100000 in
set_option maxHeartbeats 4000000 in
theorem kX10_failedCommand {a0 : Nat} {h : AH} {K : Int32 → AH → Prop} (w : wX10_failedCommand a0 h K) : Cn mX10_failedCommand (cwd mX10_failedCommand) 2 0 0 [.ref a0] h (KI K) T0 := by
  refine Cn_of (by decide +kernel) rfl (Nat.le_of_ble_eq_true rfl) ?_
  show X mX10_failedCommand 2 (KI K) T0 0 0 0 [(0, .ref a0)] [] h
  unfold wX10_failedCommand at w
  refine X_aload_n (j := 0) (show decode cX10_failedCommand 0 = .ok (.aload_n 0, 1) by decide +kernel) rfl rfl ?_
  refine X_iconst (v := (nI 0)) (show decode cX10_failedCommand 1 = .ok (.iconst 0, 1) by decide +kernel) (by decide) ?_
  obtain ⟨s1, w⟩ := w
  refine X_putI fp_X10_56 (show decode cX10_failedCommand 2 = .ok (.putfield 56, 3) by decide +kernel) (fun z => nomatch z) s1 rfl rfl ?_
  have w := w _ rfl
  refine X_aload_n (j := 0) (show decode cX10_failedCommand 5 = .ok (.aload_n 0, 1) by decide +kernel) rfl rfl ?_
  refine X_getI fl_X10_50 (show decode cX10_failedCommand 6 = .ok (.getfield 50, 3) by decide +kernel) s1 ?_
  refine X_iconst (v := (-1)) (show decode cX10_failedCommand 9 = .ok (.iconst (-1), 1) by decide +kernel) (by decide) ?_
  refine X_icmp_ne (tgt := 21) (show decode cX10_failedCommand 10 = .ok (.if_icmp .ne 11, 3) by decide +kernel) (by decide) ⟨fun c3 => ?_, fun c3 => ?_⟩
  · have w := w.1 c3
    refine X_aload_n (j := 0) (show decode cX10_failedCommand 21 = .ok (.aload_n 0, 1) by decide +kernel) rfl rfl ?_
    refine X_getI fl_X10_50 (show decode cX10_failedCommand 22 = .ok (.getfield 50, 3) by decide +kernel) s1 ?_
    exact X_iret ⟨(show decode cX10_failedCommand 25 = .ok (.ireturn, 1) by decide +kernel), .int, rfl, rfl⟩ ⟨_, rfl, w⟩
  · have w := w.2 c3
    refine X_aload_n (j := 0) (show decode cX10_failedCommand 13 = .ok (.aload_n 0, 1) by decide +kernel) rfl rfl ?_
    refine X_iconst (v := (nI 1)) (show decode cX10_failedCommand 14 = .ok (.iconst 1, 1) by decide +kernel) (by decide) ?_
    refine X_vI (rc' := 0) (rs' := 0) (as := [.int _]) mv_X10_69 (show decode cX10_failedCommand 15 = .ok (.invokevirtual 69, 3) by decide +kernel) (by decide) (Nat.le_of_ble_eq_true rfl) (Nat.le_of_ble_eq_true rfl) rfl rfl (Nat.le_of_ble_eq_true rfl) (rcvD s1 (by decide) rfl) (kX10_fails w) (fun E h hk => hk.elim) (fun r5 h4 w => ?_)
    refine X_goto (tgt := 25) (show decode cX10_failedCommand 18 = .ok (.goto 7, 3) by decide +kernel) (by decide) ?_
    exact X_iret ⟨(show decode cX10_failedCommand 25 = .ok (.ireturn, 1) by decide +kernel), .int, rfl, rfl⟩ ⟨_, rfl, w⟩
set_option maxRecDepth 100000 in
set_option maxHeartbeats 4000000 in
theorem kX10_undo_L30 {K : Int32 → AH → Prop}    : ∀ (n : Nat) (x0 : Nat) (x1 : Int32) (h : AH), wX10_undo_L30 K   n x0 x1 h → X mX10_undo 2 (KI K) T0 0 0 30 [(0, .ref x0), (1, .int x1)] [] h := by
  intro n
  induction n with
  | zero => intro _ _ _ w; exact w.elim
  | succ n ih =>
    intro x0 x1 h w
    rw [wX10_undo_L30] at w
    refine X_iload_n (j := 1) (show decode cX10_undo 30 = .ok (.iload_n 1, 1) by decide +kernel) rfl rfl ?_
    refine X_sipush (v := (nI 281)) (show decode cX10_undo 31 = .ok (.sipush 281, 3) by decide +kernel) (by decide) ?_
    refine X_icmp_ge (tgt := 64) (show decode cX10_undo 34 = .ok (.if_icmp .ge 30, 3) by decide +kernel) (by decide) ⟨fun c5 => ?_, fun c5 => ?_⟩
    · have w := w.1 c5
      refine X_aload_n (j := 0) (show decode cX10_undo 64 = .ok (.aload_n 0, 1) by decide +kernel) rfl rfl ?_
      obtain ⟨s6, w⟩ := w
      refine X_getI fl_X10_59 (show decode cX10_undo 65 = .ok (.getfield 59, 3) by decide +kernel) s6 ?_
      exact X_iret ⟨(show decode cX10_undo 68 = .ok (.ireturn, 1) by decide +kernel), .int, rfl, rfl⟩ ⟨_, rfl, w⟩
    · have w := w.2 c5
      refine X_aload_n (j := 0) (show decode cX10_undo 37 = .ok (.aload_n 0, 1) by decide +kernel) rfl rfl ?_
      obtain ⟨s7, w⟩ := w
      refine X_getR fl_X10_7 (show decode cX10_undo 38 = .ok (.getfield 7, 3) by decide +kernel) s7 ?_
      refine X_iload_n (j := 1) (show decode cX10_undo 41 = .ok (.iload_n 1, 1) by decide +kernel) rfl rfl ?_
      refine X_aload_n (j := 0) (show decode cX10_undo 42 = .ok (.aload_n 0, 1) by decide +kernel) rfl rfl ?_
      refine X_getR fl_X10_19 (show decode cX10_undo 43 = .ok (.getfield 19, 3) by decide +kernel) s7 ?_
      refine X_sipush (v := (nI 281)) (show decode cX10_undo 46 = .ok (.sipush 281, 3) by decide +kernel) (by decide) ?_
      refine X_aload_n (j := 0) (show decode cX10_undo 49 = .ok (.aload_n 0, 1) by decide +kernel) rfl rfl ?_
      refine X_getI fl_X10_59 (show decode cX10_undo 50 = .ok (.getfield 59, 3) by decide +kernel) s7 ?_
      refine X_imul (show decode cX10_undo 53 = .ok (.imul, 1) by decide +kernel) ?_
      refine X_iload_n (j := 1) (show decode cX10_undo 54 = .ok (.iload_n 1, 1) by decide +kernel) rfl rfl ?_
      refine X_iadd (show decode cX10_undo 55 = .ok (.iadd, 1) by decide +kernel) ?_
      obtain ⟨s8, w⟩ := w
      obtain ⟨s9, w⟩ := w
      refine X_iald (show decode cX10_undo 56 = .ok (.iaload, 1) by decide +kernel) (isA_eq s8) s9 ?_
      obtain ⟨s10, w⟩ := w
      obtain ⟨s11, w⟩ := w
      obtain ⟨s12, w⟩ := w
      refine X_iast (show decode cX10_undo 57 = .ok (.iastore, 1) by decide +kernel) (isA_eq s10) s11 s12 ?_
      have w := w _ rfl
      refine X_iinc (j := 1) (v := _ + (nI 1)) (ls' := [(0, .ref _), (1, .int _)]) (show decode cX10_undo 58 = .ok (.iinc 1 1, 3) by decide +kernel) rfl rfl (Nat.le_of_ble_eq_true rfl) rfl ?_
      refine X_goto (tgt := 30) (show decode cX10_undo 61 = .ok (.goto (-31), 3) by decide +kernel) (by decide) ?_
      exact ih _ _ _ w
set_option maxRecDepth 100000 in
set_option maxHeartbeats 4000000 in
theorem kX10_undo {a0 : Nat} {h : AH} {K : Int32 → AH → Prop} (w : wX10_undo a0 h K) : Cn mX10_undo (cwd mX10_undo) 2 0 0 [.ref a0] h (KI K) T0 := by
  refine Cn_of (by decide +kernel) rfl (Nat.le_of_ble_eq_true rfl) ?_
  show X mX10_undo 2 (KI K) T0 0 0 0 [(0, .ref a0)] [] h
  unfold wX10_undo at w
  refine X_aload_n (j := 0) (show decode cX10_undo 0 = .ok (.aload_n 0, 1) by decide +kernel) rfl rfl ?_
  refine X_iconst (v := (nI 0)) (show decode cX10_undo 1 = .ok (.iconst 0, 1) by decide +kernel) (by decide) ?_
  obtain ⟨s1, w⟩ := w
  refine X_putI fp_X10_56 (show decode cX10_undo 2 = .ok (.putfield 56, 3) by decide +kernel) (fun z => nomatch z) s1 rfl rfl ?_
  have w := w _ rfl
  refine X_aload_n (j := 0) (show decode cX10_undo 5 = .ok (.aload_n 0, 1) by decide +kernel) rfl rfl ?_
  refine X_getI fl_X10_59 (show decode cX10_undo 6 = .ok (.getfield 59, 3) by decide +kernel) s1 ?_
  refine X_if_ne (tgt := 18) (show decode cX10_undo 9 = .ok (.ifCond .ne 9, 3) by decide +kernel) (by decide) ⟨fun c3 => ?_, fun c3 => ?_⟩
  · have w := w.1 c3
    refine X_aload_n (j := 0) (show decode cX10_undo 18 = .ok (.aload_n 0, 1) by decide +kernel) rfl rfl ?_
    refine X_dup (show decode cX10_undo 19 = .ok (.dup, 1) by decide +kernel) rfl ?_
    refine X_getI fl_X10_59 (show decode cX10_undo 20 = .ok (.getfield 59, 3) by decide +kernel) s1 ?_
    refine X_iconst (v := (nI 1)) (show decode cX10_undo 23 = .ok (.iconst 1, 1) by decide +kernel) (by decide) ?_
    refine X_isub (show decode cX10_undo 24 = .ok (.isub, 1) by decide +kernel) ?_
    refine X_putI fp_X10_59 (show decode cX10_undo 25 = .ok (.putfield 59, 3) by decide +kernel) (fun z => nomatch z) s1 rfl rfl ?_
    have w := w _ rfl
    refine X_iconst (v := (nI 0)) (show decode cX10_undo 28 = .ok (.iconst 0, 1) by decide +kernel) (by decide) ?_
    refine X_istore_n (ls' := [(0, .ref _), (1, .int _)]) (show decode cX10_undo 29 = .ok (.istore_n 1, 1) by decide +kernel) rfl (by decide) rfl ?_
    obtain ⟨n14, w⟩ := w
    exact kX10_undo_L30  n14 _ _ _ w
  · have w := w.2 c3
    refine X_aload_n (j := 0) (show decode cX10_undo 12 = .ok (.aload_n 0, 1) by decide +kernel) rfl rfl ?_
    refine X_iconst (v := (nI 1)) (show decode cX10_undo 13 = .ok (.iconst 1, 1) by decide +kernel) (by decide) ?_
    refine X_vI (rc' := 0) (rs' := 0) (as := [.int _]) mv_X10_69 (show decode cX10_undo 14 = .ok (.invokevirtual 69, 3) by decide +kernel) (by decide) (Nat.le_of_ble_eq_true rfl) (Nat.le_of_ble_eq_true rfl) rfl rfl (Nat.le_of_ble_eq_true rfl) (rcvD s1 (by decide) rfl) (kX10_fails w) (fun E h hk => hk.elim) (fun r16 h15 w => ?_)
    exact X_iret ⟨(show decode cX10_undo 17 = .ok (.ireturn, 1) by decide +kernel), .int, rfl, rfl⟩ ⟨_, rfl, w⟩
set_option maxRecDepth 100000 in
set_option maxHeartbeats 4000000 in
theorem kX10_save_L7 {K : Int32 → AH → Prop}    : ∀ (n : Nat) (x0 : Nat) (x1 : Int32) (h : AH), wX10_save_L7 K   n x0 x1 h → X mX10_save 1 (KI K) T0 0 0 7 [(0, .ref x0), (1, .int x1)] [] h := by
  intro n
  induction n with
  | zero => intro _ _ _ w; exact w.elim
  | succ n ih =>
    intro x0 x1 h w
    rw [wX10_save_L7] at w
    refine X_iload_n (j := 1) (show decode cX10_save 7 = .ok (.iload_n 1, 1) by decide +kernel) rfl rfl ?_
    refine X_sipush (v := (nI 281)) (show decode cX10_save 8 = .ok (.sipush 281, 3) by decide +kernel) (by decide) ?_
    refine X_icmp_ge (tgt := 32) (show decode cX10_save 11 = .ok (.if_icmp .ge 21, 3) by decide +kernel) (by decide) ⟨fun c3 => ?_, fun c3 => ?_⟩
    · have w := w.1 c3
      refine X_aload_n (j := 0) (show decode cX10_save 32 = .ok (.aload_n 0, 1) by decide +kernel) rfl rfl ?_
      refine X_iconst (v := (nI 1)) (show decode cX10_save 33 = .ok (.iconst 1, 1) by decide +kernel) (by decide) ?_
      obtain ⟨s4, w⟩ := w
      refine X_putI fp_X10_310 (show decode cX10_save 34 = .ok (.putfield 310, 3) by decide +kernel) (fun z => nomatch z) s4 (by decide) (by decide) ?_
      have w := w _ rfl
      refine X_aload_n (j := 0) (show decode cX10_save 37 = .ok (.aload_n 0, 1) by decide +kernel) rfl rfl ?_
      refine X_getR fl_X10_7 (show decode cX10_save 38 = .ok (.getfield 7, 3) by decide +kernel) s4 ?_
      refine X_iconst (v := (nI 4)) (show decode cX10_save 41 = .ok (.iconst 4, 1) by decide +kernel) (by decide) ?_
      obtain ⟨s6, w⟩ := w
      obtain ⟨s7, w⟩ := w
      refine X_iald (show decode cX10_save 42 = .ok (.iaload, 1) by decide +kernel) (isA_eq s6) s7 ?_
      exact X_iret ⟨(show decode cX10_save 43 = .ok (.ireturn, 1) by decide +kernel), .int, rfl, rfl⟩ ⟨_, rfl, w⟩
    · have w := w.2 c3
      refine X_aload_n (j := 0) (show decode cX10_save 14 = .ok (.aload_n 0, 1) by decide +kernel) rfl rfl ?_
      obtain ⟨s8, w⟩ := w
      refine X_getR fl_X10_16 (show decode cX10_save 15 = .ok (.getfield 16, 3) by decide +kernel) s8 ?_
      refine X_iload_n (j := 1) (show decode cX10_save 18 = .ok (.iload_n 1, 1) by decide +kernel) rfl rfl ?_
      refine X_aload_n (j := 0) (show decode cX10_save 19 = .ok (.aload_n 0, 1) by decide +kernel) rfl rfl ?_
      refine X_getR fl_X10_7 (show decode cX10_save 20 = .ok (.getfield 7, 3) by decide +kernel) s8 ?_
      refine X_iload_n (j := 1) (show decode cX10_save 23 = .ok (.iload_n 1, 1) by decide +kernel) rfl rfl ?_
      obtain ⟨s9, w⟩ := w
      obtain ⟨s10, w⟩ := w
      refine X_iald (show decode cX10_save 24 = .ok (.iaload, 1) by decide +kernel) (isA_eq s9) s10 ?_
      obtain ⟨s11, w⟩ := w
      obtain ⟨s12, w⟩ := w
      obtain ⟨s13, w⟩ := w
      refine X_iast (show decode cX10_save 25 = .ok (.iastore, 1) by decide +kernel) (isA_eq s11) s12 s13 ?_
      have w := w _ rfl
      refine X_iinc (j := 1) (v := _ + (nI 1)) (ls' := [(0, .ref _), (1, .int _)]) (show decode cX10_save 26 = .ok (.iinc 1 1, 3) by decide +kernel) rfl rfl (Nat.le_of_ble_eq_true rfl) rfl ?_
      refine X_goto (tgt := 7) (show decode cX10_save 29 = .ok (.goto (-22), 3) by decide +kernel) (by decide) ?_
      exact ih _ _ _ w
set_option maxRecDepth 100000 in
set_option maxHeartbeats 4000000 in
theorem kX10_save {a0 : Nat} {h : AH} {K : Int32 → AH → Prop} (w : wX10_save a0 h K) : Cn mX10_save (cwd mX10_save) 1 0 0 [.ref a0] h (KI K) T0 := by
  refine Cn_of (by decide +kernel) rfl (Nat.le_of_ble_eq_true rfl) ?_
  show X mX10_save 1 (KI K) T0 0 0 0 [(0, .ref a0)] [] h
  unfold wX10_save at w
  refine X_aload_n (j := 0) (show decode cX10_save 0 = .ok (.aload_n 0, 1) by decide +kernel) rfl rfl ?_
  refine X_iconst (v := (nI 0)) (show decode cX10_save 1 = .ok (.iconst 0, 1) by decide +kernel) (by decide) ?_
  obtain ⟨s1, w⟩ := w
  refine X_putI fp_X10_56 (show decode cX10_save 2 = .ok (.putfield 56, 3) by decide +kernel) (fun z => nomatch z) s1 rfl rfl ?_
  have w := w _ rfl
  refine X_iconst (v := (nI 0)) (show decode cX10_save 5 = .ok (.iconst 0, 1) by decide +kernel) (by decide) ?_
  refine X_istore_n (ls' := [(0, .ref _), (1, .int _)]) (show decode cX10_save 6 = .ok (.istore_n 1, 1) by decide +kernel) rfl (by decide) rfl ?_
  obtain ⟨n15, w⟩ := w
  exact kX10_save_L7  n15 _ _ _ w
set_option maxRecDepth 100000 in
set_option maxHeartbeats 4000000 in
theorem kX10_restore_L20 {K : Int32 → AH → Prop}    : ∀ (n : Nat) (x0 : Nat) (x1 : Int32) (h : AH), wX10_restore_L20 K   n x0 x1 h → X mX10_restore 2 (KI K) T0 0 0 20 [(0, .ref x0), (1, .int x1)] [] h := by
  intro n
  induction n with
  | zero => intro _ _ _ w; exact w.elim
  | succ n ih =>
    intro x0 x1 h w
    rw [wX10_restore_L20] at w
    refine X_iload_n (j := 1) (show decode cX10_restore 20 = .ok (.iload_n 1, 1) by decide +kernel) rfl rfl ?_
    refine X_sipush (v := (nI 281)) (show decode cX10_restore 21 = .ok (.sipush 281, 3) by decide +kernel) (by decide) ?_
    refine X_icmp_ge (tgt := 45) (show decode cX10_restore 24 = .ok (.if_icmp .ge 21, 3) by decide +kernel) (by decide) ⟨fun c4 => ?_, fun c4 => ?_⟩
    · have w := w.1 c4
      refine X_aload_n (j := 0) (show decode cX10_restore 45 = .ok (.aload_n 0, 1) by decide +kernel) rfl rfl ?_
      refine X_iconst (v := (nI 0)) (show decode cX10_restore 46 = .ok (.iconst 0, 1) by decide +kernel) (by decide) ?_
      obtain ⟨s5, w⟩ := w
      refine X_putI fp_X10_59 (show decode cX10_restore 47 = .ok (.putfield 59, 3) by decide +kernel) (fun z => nomatch z) s5 rfl rfl ?_
      have w := w _ rfl
      refine X_aload_n (j := 0) (show decode cX10_restore 50 = .ok (.aload_n 0, 1) by decide +kernel) rfl rfl ?_
      refine X_getR fl_X10_7 (show decode cX10_restore 51 = .ok (.getfield 7, 3) by decide +kernel) s5 ?_
      refine X_iconst (v := (nI 4)) (show decode cX10_restore 54 = .ok (.iconst 4, 1) by decide +kernel) (by decide) ?_
      obtain ⟨s7, w⟩ := w
      obtain ⟨s8, w⟩ := w
      refine X_iald (show decode cX10_restore 55 = .ok (.iaload, 1) by decide +kernel) (isA_eq s7) s8 ?_
      exact X_iret ⟨(show decode cX10_restore 56 = .ok (.ireturn, 1) by decide +kernel), .int, rfl, rfl⟩ ⟨_, rfl, w⟩
    · have w := w.2 c4
      refine X_aload_n (j := 0) (show decode cX10_restore 27 = .ok (.aload_n 0, 1) by decide +kernel) rfl rfl ?_
      obtain ⟨s9, w⟩ := w
      refine X_getR fl_X10_7 (show decode cX10_restore 28 = .ok (.getfield 7, 3) by decide +kernel) s9 ?_
      refine X_iload_n (j := 1) (show decode cX10_restore 31 = .ok (.iload_n 1, 1) by decide +kernel) rfl rfl ?_
      refine X_aload_n (j := 0) (show decode cX10_restore 32 = .ok (.aload_n 0, 1) by decide +kernel) rfl rfl ?_
      refine X_getR fl_X10_16 (show decode cX10_restore 33 = .ok (.getfield 16, 3) by decide +kernel) s9 ?_
      refine X_iload_n (j := 1) (show decode cX10_restore 36 = .ok (.iload_n 1, 1) by decide +kernel) rfl rfl ?_
      obtain ⟨s10, w⟩ := w
      obtain ⟨s11, w⟩ := w
      refine X_iald (show decode cX10_restore 37 = .ok (.iaload, 1) by decide +kernel) (isA_eq s10) s11 ?_
      obtain ⟨s12, w⟩ := w
      obtain ⟨s13, w⟩ := w
      obtain ⟨s14, w⟩ := w
      refine X_iast (show decode cX10_restore 38 = .ok (.iastore, 1) by decide +kernel) (isA_eq s12) s13 s14 ?_
      have w := w _ rfl
      refine X_iinc (j := 1) (v := _ + (nI 1)) (ls' := [(0, .ref _), (1, .int _)]) (show decode cX10_restore 39 = .ok (.iinc 1 1, 3) by decide +kernel) rfl rfl (Nat.le_of_ble_eq_true rfl) rfl ?_
      refine X_goto (tgt := 20) (show decode cX10_restore 42 = .ok (.goto (-22), 3) by decide +kernel) (by decide) ?_
      exact ih _ _ _ w
set_option maxRecDepth 100000 in
set_option maxHeartbeats 4000000 in
theorem kX10_restore {a0 : Nat} {h : AH} {K : Int32 → AH → Prop} (w : wX10_restore a0 h K) : Cn mX10_restore (cwd mX10_restore) 2 0 0 [.ref a0] h (KI K) T0 := by
  refine Cn_of (by decide +kernel) rfl (Nat.le_of_ble_eq_true rfl) ?_
  show X mX10_restore 2 (KI K) T0 0 0 0 [(0, .ref a0)] [] h
  unfold wX10_restore at w
  refine X_aload_n (j := 0) (show decode cX10_restore 0 = .ok (.aload_n 0, 1) by decide +kernel) rfl rfl ?_
  refine X_iconst (v := (nI 0)) (show decode cX10_restore 1 = .ok (.iconst 0, 1) by decide +kernel) (by decide) ?_
  obtain ⟨s1, w⟩ := w
  refine X_putI fp_X10_56 (show decode cX10_restore 2 = .ok (.putfield 56, 3) by decide +kernel) (fun z => nomatch z) s1 rfl rfl ?_
  have w := w _ rfl
  refine X_aload_n (j := 0) (show decode cX10_restore 5 = .ok (.aload_n 0, 1) by decide +kernel) rfl rfl ?_
  refine X_getI fl_X10_310 (show decode cX10_restore 6 = .ok (.getfield 310, 3) by decide +kernel) s1 ?_
  refine X_if_ne (tgt := 18) (show decode cX10_restore 9 = .ok (.ifCond .ne 9, 3) by decide +kernel) (by decide) ⟨fun c3 => ?_, fun c3 => ?_⟩
  · have w := w.1 c3
    refine X_iconst (v := (nI 0)) (show decode cX10_restore 18 = .ok (.iconst 0, 1) by decide +kernel) (by decide) ?_
    refine X_istore_n (ls' := [(0, .ref _), (1, .int _)]) (show decode cX10_restore 19 = .ok (.istore_n 1, 1) by decide +kernel) rfl (by decide) rfl ?_
    obtain ⟨n16, w⟩ := w
    exact kX10_restore_L20  n16 _ _ _ w
  · have w := w.2 c3
    refine X_aload_n (j := 0) (show decode cX10_restore 12 = .ok (.aload_n 0, 1) by decide +kernel) rfl rfl ?_
    refine X_iconst (v := (nI 1)) (show decode cX10_restore 13 = .ok (.iconst 1, 1) by decide +kernel) (by decide) ?_
    refine X_vI (rc' := 0) (rs' := 0) (as := [.int _]) mv_X10_69 (show decode cX10_restore 14 = .ok (.invokevirtual 69, 3) by decide +kernel) (by decide) (Nat.le_of_ble_eq_true rfl) (Nat.le_of_ble_eq_true rfl) rfl rfl (Nat.le_of_ble_eq_true rfl) (rcvD s1 (by decide) rfl) (kX10_fails w) (fun E h hk => hk.elim) (fun r18 h17 w => ?_)
    exact X_iret ⟨(show decode cX10_restore 17 = .ok (.ireturn, 1) by decide +kernel), .int, rfl, rfl⟩ ⟨_, rfl, w⟩
set_option maxRecDepth 100000 in
set_option maxHeartbeats 4000000 in
theorem kL_addBlock {a0 : Nat} {a1 : Int32} {a2 : Nat} {h : AH} {K : Int32 → AH → Prop} (w : wL_addBlock a0 a1 a2 h K) : Cn mL_addBlock (cwh mL_addBlock) 11 1 6 [.ref a0, .int a1, .ref a2] h (KI K) T0 := by
  refine CnH_of (by decide +kernel) (Nat.le_of_ble_eq_true rfl) ?_
  show X mL_addBlock 11 (KI K) T0 1 6 0 [(0, .ref a0), (1, .int a1), (2, .ref a2)] [] h
  unfold wL_addBlock at w
  refine X_aload_n (j := 2) (show decode cL_addBlock 0 = .ok (.aload_n 2, 1) by decide +kernel) rfl rfl ?_
  refine X_iconst (v := (nI 0)) (show decode cL_addBlock 1 = .ok (.iconst 0, 1) by decide +kernel) (by decide) ?_
  refine X_aload_n (j := 0) (show decode cL_addBlock 2 = .ok (.aload_n 0, 1) by decide +kernel) rfl rfl ?_
  refine X_iload_n (j := 1) (show decode cL_addBlock 3 = .ok (.iload_n 1, 1) by decide +kernel) rfl rfl ?_
  obtain ⟨s8, w⟩ := w
  refine X_vI (rc' := 0) (rs' := 0) (as := [.int _]) mv_L_7 (show decode cL_addBlock 4 = .ok (.invokevirtual 7, 3) by decide +kernel) (by decide) (Nat.le_of_ble_eq_true rfl) (Nat.le_of_ble_eq_true rfl) rfl rfl (Nat.le_of_ble_eq_true rfl) (rcvD s8 (by decide) rfl) (kX9_addBlock w) (fun E9 h7 hk => ?_) (fun r2 h1 w => ?_)
  · rcases hk with ⟨rfl, w⟩ | ⟨rfl, w⟩
    · skip
      refine XT_catch (name := "java/lang/IllegalArgumentException") (i := 3) (j := 1) (ls' := []) [] (0, 9, 12, 13) [(0, 9, 15, 15)] rfl (fun z hz => absurd hz List.not_mem_nil) (by decide) (by decide) (gw_of (List.mem_of_getElem? (i := 1034) (by decide +kernel)) (by decide +kernel)) (List.mem_of_getElem? (i := 3) rfl) (Or.inl ⟨3, rfl, (show decode cL_addBlock 12 = .ok (.astore_n 3, 1) by decide +kernel), rfl⟩) (Nat.le_of_ble_eq_true rfl) (fun q hq => absurd hq List.not_mem_nil) ?_
      refine X_iconst (v := (nI 1)) (show decode cL_addBlock 13 = .ok (.iconst 1, 1) by decide +kernel) (by decide) ?_
      exact X_iret ⟨(show decode cL_addBlock 14 = .ok (.ireturn, 1) by decide +kernel), .int, rfl, rfl⟩ ⟨_, rfl, w⟩
    · skip
      refine XT_catch (name := "java/lang/IllegalStateException") (i := 3) (j := 1) (ls' := []) [(0, 9, 12, 13)] (0, 9, 15, 15) [] rfl (by
            intro z hz
            simp only [List.mem_cons, List.not_mem_nil, or_false] at hz
            rcases hz with rfl
            · exact ⟨by decide, _, gw_of (List.mem_of_getElem? (i := 1034) (by decide +kernel)) (by decide +kernel), List.mem_of_getElem? (i := 11) rfl⟩
            ) (by decide) (by decide) (gw_of (List.mem_of_getElem? (i := 1035) (by decide +kernel)) (by decide +kernel)) (List.mem_of_getElem? (i := 4) rfl) (Or.inl ⟨3, rfl, (show decode cL_addBlock 15 = .ok (.astore_n 3, 1) by decide +kernel), rfl⟩) (Nat.le_of_ble_eq_true rfl) (fun q hq => absurd hq List.not_mem_nil) ?_
      refine X_iconst (v := (nI 2)) (show decode cL_addBlock 16 = .ok (.iconst 2, 1) by decide +kernel) (by decide) ?_
      exact X_iret ⟨(show decode cL_addBlock 17 = .ok (.ireturn, 1) by decide +kernel), .int, rfl, rfl⟩ ⟨_, rfl, w⟩
  · skip
    refine X_i2l (show decode cL_addBlock 7 = .ok (.i2l, 1) by decide +kernel) ?_
    obtain ⟨s3, w⟩ := w
    obtain ⟨s4, w⟩ := w
    obtain ⟨s5, w⟩ := w
    refine X_last (show decode cL_addBlock 8 = .ok (.lastore, 1) by decide +kernel) (isA_eq s3) s4 s5 ?_
    have w := w _ rfl
    refine X_goto (tgt := 18) (show decode cL_addBlock 9 = .ok (.goto 9, 3) by decide +kernel) (by decide) ?_
    refine X_iconst (v := (nI 0)) (show decode cL_addBlock 18 = .ok (.iconst 0, 1) by decide +kernel) (by decide) ?_
    exact X_iret ⟨(show decode cL_addBlock 19 = .ok (.ireturn, 1) by decide +kernel), .int, rfl, rfl⟩ ⟨_, rfl, w⟩
set_option maxRecDepth 100000 in
set_option maxHeartbeats 4000000 in
theorem kL_addPoint {a0 : Nat} {a1 : Int32} {a2 : Int32} {a3 : Int32} {a4 : Nat} {h : AH} {K : Int32 → AH → Prop} (w : wL_addPoint a0 a1 a2 a3 a4 h K) : Cn mL_addPoint (cwh mL_addPoint) 11 1 6 [.ref a0, .int a1, .int a2, .int a3, .ref a4] h (KI K) T0 := by
  refine CnH_of (by decide +kernel) (Nat.le_of_ble_eq_true rfl) ?_
  show X mL_addPoint 11 (KI K) T0 1 6 0 [(0, .ref a0), (1, .int a1), (2, .int a2), (3, .int a3), (4, .ref a4)] [] h
  unfold wL_addPoint at w
  refine X_aload (j := 4) (show decode cL_addPoint 0 = .ok (.aload 4, 2) by decide +kernel) rfl ?_
  refine X_iconst (v := (nI 0)) (show decode cL_addPoint 2 = .ok (.iconst 0, 1) by decide +kernel) (by decide) ?_
  refine X_aload_n (j := 0) (show decode cL_addPoint 3 = .ok (.aload_n 0, 1) by decide +kernel) rfl rfl ?_
  refine X_iload_n (j := 1) (show decode cL_addPoint 4 = .ok (.iload_n 1, 1) by decide +kernel) rfl rfl ?_
  refine X_iload_n (j := 2) (show decode cL_addPoint 5 = .ok (.iload_n 2, 1) by decide +kernel) rfl rfl ?_
  refine X_iload_n (j := 3) (show decode cL_addPoint 6 = .ok (.iload_n 3, 1) by decide +kernel) rfl rfl ?_
  obtain ⟨s8, w⟩ := w
  refine X_vI (rc' := 0) (rs' := 0) (as := [.int _, .int _, .int _]) mv_L_17 (show decode cL_addPoint 7 = .ok (.invokevirtual 17, 3) by decide +kernel) (by decide) (Nat.le_of_ble_eq_true rfl) (Nat.le_of_ble_eq_true rfl) rfl rfl (Nat.le_of_ble_eq_true rfl) (rcvD s8 (by decide) rfl) (kX9_addPoint w) (fun E9 h7 hk => ?_) (fun r2 h1 w => ?_)
  · rcases hk with ⟨rfl, w⟩ | ⟨rfl, w⟩ | ⟨rfl, w⟩
    · skip
      refine XT_catch (name := "java/lang/IndexOutOfBoundsException") (i := 5) (j := 2) (ls' := []) [] (0, 12, 15, 21) [(0, 12, 19, 13), (0, 12, 23, 15)] rfl (fun z hz => absurd hz List.not_mem_nil) (by decide) (by decide) (gw_of (List.mem_of_getElem? (i := 1143) (by decide +kernel)) (by decide +kernel)) (List.mem_of_getElem? (i := 5) rfl) (Or.inr ⟨(show decode cL_addPoint 15 = .ok (.astore 5, 2) by decide +kernel), rfl⟩) (Nat.le_of_ble_eq_true rfl) (fun q hq => absurd hq List.not_mem_nil) ?_
      refine X_iconst (v := (nI 1)) (show decode cL_addPoint 17 = .ok (.iconst 1, 1) by decide +kernel) (by decide) ?_
      exact X_iret ⟨(show decode cL_addPoint 18 = .ok (.ireturn, 1) by decide +kernel), .int, rfl, rfl⟩ ⟨_, rfl, w⟩
    · skip
      refine XT_catch (name := "java/lang/IllegalArgumentException") (i := 5) (j := 2) (ls' := []) [(0, 12, 15, 21)] (0, 12, 19, 13) [(0, 12, 23, 15)] rfl (by
            intro z hz
            simp only [List.mem_cons, List.not_mem_nil, or_false] at hz
            rcases hz with rfl
            · exact ⟨by decide, _, gw_of (List.mem_of_getElem? (i := 1143) (by decide +kernel)) (by decide +kernel), List.mem_of_getElem? (i := 7) rfl⟩
            ) (by decide) (by decide) (gw_of (List.mem_of_getElem? (i := 1034) (by decide +kernel)) (by decide +kernel)) (List.mem_of_getElem? (i := 3) rfl) (Or.inr ⟨(show decode cL_addPoint 19 = .ok (.astore 5, 2) by decide +kernel), rfl⟩) (Nat.le_of_ble_eq_true rfl) (fun q hq => absurd hq List.not_mem_nil) ?_
      refine X_iconst (v := (nI 2)) (show decode cL_addPoint 21 = .ok (.iconst 2, 1) by decide +kernel) (by decide) ?_
      exact X_iret ⟨(show decode cL_addPoint 22 = .ok (.ireturn, 1) by decide +kernel), .int, rfl, rfl⟩ ⟨_, rfl, w⟩
    · skip
      refine XT_catch (name := "java/lang/IllegalStateException") (i := 5) (j := 2) (ls' := []) [(0, 12, 15, 21), (0, 12, 19, 13)] (0, 12, 23, 15) [] rfl (by
            intro z hz
            simp only [List.mem_cons, List.not_mem_nil, or_false] at hz
            rcases hz with rfl | rfl
            · exact ⟨by decide, _, gw_of (List.mem_of_getElem? (i := 1143) (by decide +kernel)) (by decide +kernel), List.mem_of_getElem? (i := 12) rfl⟩
            · exact ⟨by decide, _, gw_of (List.mem_of_getElem? (i := 1034) (by decide +kernel)) (by decide +kernel), List.mem_of_getElem? (i := 11) rfl⟩
            ) (by decide) (by decide) (gw_of (List.mem_of_getElem? (i := 1035) (by decide +kernel)) (by decide +kernel)) (List.mem_of_getElem? (i := 4) rfl) (Or.inr ⟨(show decode cL_addPoint 23 = .ok (.astore 5, 2) by decide +kernel), rfl⟩) (Nat.le_of_ble_eq_true rfl) (fun q hq => absurd hq List.not_mem_nil) ?_
      refine X_iconst (v := (nI 3)) (show decode cL_addPoint 25 = .ok (.iconst 3, 1) by decide +kernel) (by decide) ?_
      exact X_iret ⟨(show decode cL_addPoint 26 = .ok (.ireturn, 1) by decide +kernel), .int, rfl, rfl⟩ ⟨_, rfl, w⟩
  · skip
    refine X_i2l (show decode cL_addPoint 10 = .ok (.i2l, 1) by decide +kernel) ?_
    obtain ⟨s3, w⟩ := w
    obtain ⟨s4, w⟩ := w
    obtain ⟨s5, w⟩ := w
    refine X_last (show decode cL_addPoint 11 = .ok (.lastore, 1) by decide +kernel) (isA_eq s3) s4 s5 ?_
    have w := w _ rfl
    refine X_goto (tgt := 27) (show decode cL_addPoint 12 = .ok (.goto 15, 3) by decide +kernel) (by decide) ?_
    refine X_iconst (v := (nI 0)) (show decode cL_addPoint 27 = .ok (.iconst 0, 1) by decide +kernel) (by decide) ?_
    exact X_iret ⟨(show decode cL_addPoint 28 = .ok (.ireturn, 1) by decide +kernel), .int, rfl, rfl⟩ ⟨_, rfl, w⟩
set_option maxRecDepth 100000 in
set_option maxHeartbeats 4000000 in
theorem kL_addLink {a0 : Nat} {a1 : Int32} {a2 : Int32} {a3 : Nat} {h : AH} {K : Int32 → AH → Prop} (w : wL_addLink a0 a1 a2 a3 h K) : Cn mL_addLink (cwh mL_addLink) 11 1 6 [.ref a0, .int a1, .int a2, .ref a3] h (KI K) T0 := by
  refine CnH_of (by decide +kernel) (Nat.le_of_ble_eq_true rfl) ?_
  show X mL_addLink 11 (KI K) T0 1 6 0 [(0, .ref a0), (1, .int a1), (2, .int a2), (3, .ref a3)] [] h
  unfold wL_addLink at w
  refine X_aload_n (j := 3) (show decode cL_addLink 0 = .ok (.aload_n 3, 1) by decide +kernel) rfl rfl ?_
  refine X_iconst (v := (nI 0)) (show decode cL_addLink 1 = .ok (.iconst 0, 1) by decide +kernel) (by decide) ?_
  refine X_aload_n (j := 0) (show decode cL_addLink 2 = .ok (.aload_n 0, 1) by decide +kernel) rfl rfl ?_
  refine X_iload_n (j := 1) (show decode cL_addLink 3 = .ok (.iload_n 1, 1) by decide +kernel) rfl rfl ?_
  refine X_iload_n (j := 2) (show decode cL_addLink 4 = .ok (.iload_n 2, 1) by decide +kernel) rfl rfl ?_
  obtain ⟨s8, w⟩ := w
  refine X_vI (rc' := 0) (rs' := 0) (as := [.int _, .int _]) mv_L_23 (show decode cL_addLink 5 = .ok (.invokevirtual 23, 3) by decide +kernel) (by decide) (Nat.le_of_ble_eq_true rfl) (Nat.le_of_ble_eq_true rfl) rfl rfl (Nat.le_of_ble_eq_true rfl) (rcvD s8 (by decide) rfl) (kX9_addLink w) (fun E9 h7 hk => ?_) (fun r2 h1 w => ?_)
  · rcases hk with ⟨rfl, w⟩ | ⟨rfl, w⟩ | ⟨rfl, w⟩
    · skip
      refine XT_catch (name := "java/lang/IndexOutOfBoundsException") (i := 4) (j := 2) (ls' := []) [] (0, 10, 13, 21) [(0, 10, 17, 13), (0, 10, 21, 15)] rfl (fun z hz => absurd hz List.not_mem_nil) (by decide) (by decide) (gw_of (List.mem_of_getElem? (i := 1143) (by decide +kernel)) (by decide +kernel)) (List.mem_of_getElem? (i := 5) rfl) (Or.inr ⟨(show decode cL_addLink 13 = .ok (.astore 4, 2) by decide +kernel), rfl⟩) (Nat.le_of_ble_eq_true rfl) (fun q hq => absurd hq List.not_mem_nil) ?_
      refine X_iconst (v := (nI 1)) (show decode cL_addLink 15 = .ok (.iconst 1, 1) by decide +kernel) (by decide) ?_
      exact X_iret ⟨(show decode cL_addLink 16 = .ok (.ireturn, 1) by decide +kernel), .int, rfl, rfl⟩ ⟨_, rfl, w⟩
    · skip
      refine XT_catch (name := "java/lang/IllegalArgumentException") (i := 4) (j := 2) (ls' := []) [(0, 10, 13, 21)] (0, 10, 17, 13) [(0, 10, 21, 15)] rfl (by
            intro z hz
            simp only [List.mem_cons, List.not_mem_nil, or_false] at hz
            rcases hz with rfl
            · exact ⟨by decide, _, gw_of (List.mem_of_getElem? (i := 1143) (by decide +kernel)) (by decide +kernel), List.mem_of_getElem? (i := 7) rfl⟩
            ) (by decide) (by decide) (gw_of (List.mem_of_getElem? (i := 1034) (by decide +kernel)) (by decide +kernel)) (List.mem_of_getElem? (i := 3) rfl) (Or.inr ⟨(show decode cL_addLink 17 = .ok (.astore 4, 2) by decide +kernel), rfl⟩) (Nat.le_of_ble_eq_true rfl) (fun q hq => absurd hq List.not_mem_nil) ?_
      refine X_iconst (v := (nI 2)) (show decode cL_addLink 19 = .ok (.iconst 2, 1) by decide +kernel) (by decide) ?_
      exact X_iret ⟨(show decode cL_addLink 20 = .ok (.ireturn, 1) by decide +kernel), .int, rfl, rfl⟩ ⟨_, rfl, w⟩
    · skip
      refine XT_catch (name := "java/lang/IllegalStateException") (i := 4) (j := 2) (ls' := []) [(0, 10, 13, 21), (0, 10, 17, 13)] (0, 10, 21, 15) [] rfl (by
            intro z hz
            simp only [List.mem_cons, List.not_mem_nil, or_false] at hz
            rcases hz with rfl | rfl
            · exact ⟨by decide, _, gw_of (List.mem_of_getElem? (i := 1143) (by decide +kernel)) (by decide +kernel), List.mem_of_getElem? (i := 12) rfl⟩
            · exact ⟨by decide, _, gw_of (List.mem_of_getElem? (i := 1034) (by decide +kernel)) (by decide +kernel), List.mem_of_getElem? (i := 11) rfl⟩
            ) (by decide) (by decide) (gw_of (List.mem_of_getElem? (i := 1035) (by decide +kernel)) (by decide +kernel)) (List.mem_of_getElem? (i := 4) rfl) (Or.inr ⟨(show decode cL_addLink 21 = .ok (.astore 4, 2) by decide +kernel), rfl⟩) (Nat.le_of_ble_eq_true rfl) (fun q hq => absurd hq List.not_mem_nil) ?_
      refine X_iconst (v := (nI 3)) (show decode cL_addLink 23 = .ok (.iconst 3, 1) by decide +kernel) (by decide) ?_
      exact X_iret ⟨(show decode cL_addLink 24 = .ok (.ireturn, 1) by decide +kernel), .int, rfl, rfl⟩ ⟨_, rfl, w⟩
  · skip
    refine X_i2l (show decode cL_addLink 8 = .ok (.i2l, 1) by decide +kernel) ?_
    obtain ⟨s3, w⟩ := w
    obtain ⟨s4, w⟩ := w
    obtain ⟨s5, w⟩ := w
    refine X_last (show decode cL_addLink 9 = .ok (.lastore, 1) by decide +kernel) (isA_eq s3) s4 s5 ?_
    have w := w _ rfl
    refine X_goto (tgt := 25) (show decode cL_addLink 10 = .ok (.goto 15, 3) by decide +kernel) (by decide) ?_
    refine X_iconst (v := (nI 0)) (show decode cL_addLink 25 = .ok (.iconst 0, 1) by decide +kernel) (by decide) ?_
    exact X_iret ⟨(show decode cL_addLink 26 = .ok (.ireturn, 1) by decide +kernel), .int, rfl, rfl⟩ ⟨_, rfl, w⟩
set_option maxRecDepth 100000 in
set_option maxHeartbeats 4000000 in
theorem kL_shut {a0 : Nat} {a1 : Int32} {a2 : Nat} {h : AH} {K : Int32 → AH → Prop} (w : wL_shut a0 a1 a2 h K) : Cn mL_shut (cwh mL_shut) 11 1 6 [.ref a0, .int a1, .ref a2] h (KI K) T0 := by
  refine CnH_of (by decide +kernel) (Nat.le_of_ble_eq_true rfl) ?_
  show X mL_shut 11 (KI K) T0 1 6 0 [(0, .ref a0), (1, .int a1), (2, .ref a2)] [] h
  unfold wL_shut at w
  refine X_aload_n (j := 2) (show decode cL_shut 0 = .ok (.aload_n 2, 1) by decide +kernel) rfl rfl ?_
  refine X_iconst (v := (nI 0)) (show decode cL_shut 1 = .ok (.iconst 0, 1) by decide +kernel) (by decide) ?_
  refine X_aload_n (j := 0) (show decode cL_shut 2 = .ok (.aload_n 0, 1) by decide +kernel) rfl rfl ?_
  refine X_iload_n (j := 1) (show decode cL_shut 3 = .ok (.iload_n 1, 1) by decide +kernel) rfl rfl ?_
  obtain ⟨s8, w⟩ := w
  refine X_vI (rc' := 0) (rs' := 0) (as := [.int _]) mv_L_27 (show decode cL_shut 4 = .ok (.invokevirtual 27, 3) by decide +kernel) (by decide) (Nat.le_of_ble_eq_true rfl) (Nat.le_of_ble_eq_true rfl) rfl rfl (Nat.le_of_ble_eq_true rfl) (rcvD s8 (by decide) rfl) (kX9_shut w) (fun E9 h7 hk => ?_) (fun r2 h1 w => ?_)
  · rcases hk with ⟨rfl, w⟩ | ⟨rfl, w⟩
    · skip
      refine XT_catch (name := "java/lang/IndexOutOfBoundsException") (i := 3) (j := 1) (ls' := []) [] (0, 9, 12, 21) [(0, 9, 15, 15)] rfl (fun z hz => absurd hz List.not_mem_nil) (by decide) (by decide) (gw_of (List.mem_of_getElem? (i := 1143) (by decide +kernel)) (by decide +kernel)) (List.mem_of_getElem? (i := 5) rfl) (Or.inl ⟨3, rfl, (show decode cL_shut 12 = .ok (.astore_n 3, 1) by decide +kernel), rfl⟩) (Nat.le_of_ble_eq_true rfl) (fun q hq => absurd hq List.not_mem_nil) ?_
      refine X_iconst (v := (nI 1)) (show decode cL_shut 13 = .ok (.iconst 1, 1) by decide +kernel) (by decide) ?_
      exact X_iret ⟨(show decode cL_shut 14 = .ok (.ireturn, 1) by decide +kernel), .int, rfl, rfl⟩ ⟨_, rfl, w⟩
    · skip
      refine XT_catch (name := "java/lang/IllegalStateException") (i := 3) (j := 1) (ls' := []) [(0, 9, 12, 21)] (0, 9, 15, 15) [] rfl (by
            intro z hz
            simp only [List.mem_cons, List.not_mem_nil, or_false] at hz
            rcases hz with rfl
            · exact ⟨by decide, _, gw_of (List.mem_of_getElem? (i := 1143) (by decide +kernel)) (by decide +kernel), List.mem_of_getElem? (i := 12) rfl⟩
            ) (by decide) (by decide) (gw_of (List.mem_of_getElem? (i := 1035) (by decide +kernel)) (by decide +kernel)) (List.mem_of_getElem? (i := 4) rfl) (Or.inl ⟨3, rfl, (show decode cL_shut 15 = .ok (.astore_n 3, 1) by decide +kernel), rfl⟩) (Nat.le_of_ble_eq_true rfl) (fun q hq => absurd hq List.not_mem_nil) ?_
      refine X_iconst (v := (nI 2)) (show decode cL_shut 16 = .ok (.iconst 2, 1) by decide +kernel) (by decide) ?_
      exact X_iret ⟨(show decode cL_shut 17 = .ok (.ireturn, 1) by decide +kernel), .int, rfl, rfl⟩ ⟨_, rfl, w⟩
  · skip
    refine X_i2l (show decode cL_shut 7 = .ok (.i2l, 1) by decide +kernel) ?_
    obtain ⟨s3, w⟩ := w
    obtain ⟨s4, w⟩ := w
    obtain ⟨s5, w⟩ := w
    refine X_last (show decode cL_shut 8 = .ok (.lastore, 1) by decide +kernel) (isA_eq s3) s4 s5 ?_
    have w := w _ rfl
    refine X_goto (tgt := 18) (show decode cL_shut 9 = .ok (.goto 9, 3) by decide +kernel) (by decide) ?_
    refine X_iconst (v := (nI 0)) (show decode cL_shut 18 = .ok (.iconst 0, 1) by decide +kernel) (by decide) ?_
    exact X_iret ⟨(show decode cL_shut 19 = .ok (.ireturn, 1) by decide +kernel), .int, rfl, rfl⟩ ⟨_, rfl, w⟩
set_option maxRecDepth 100000 in
set_option maxHeartbeats 4000000 in
theorem kL_open {a0 : Nat} {a1 : Int32} {a2 : Nat} {h : AH} {K : Int32 → AH → Prop} (w : wL_open a0 a1 a2 h K) : Cn mL_open (cwh mL_open) 11 1 6 [.ref a0, .int a1, .ref a2] h (KI K) T0 := by
  refine CnH_of (by decide +kernel) (Nat.le_of_ble_eq_true rfl) ?_
  show X mL_open 11 (KI K) T0 1 6 0 [(0, .ref a0), (1, .int a1), (2, .ref a2)] [] h
  unfold wL_open at w
  refine X_aload_n (j := 2) (show decode cL_open 0 = .ok (.aload_n 2, 1) by decide +kernel) rfl rfl ?_
  refine X_iconst (v := (nI 0)) (show decode cL_open 1 = .ok (.iconst 0, 1) by decide +kernel) (by decide) ?_
  refine X_aload_n (j := 0) (show decode cL_open 2 = .ok (.aload_n 0, 1) by decide +kernel) rfl rfl ?_
  refine X_iload_n (j := 1) (show decode cL_open 3 = .ok (.iload_n 1, 1) by decide +kernel) rfl rfl ?_
  obtain ⟨s8, w⟩ := w
  refine X_vI (rc' := 0) (rs' := 0) (as := [.int _]) mv_L_30 (show decode cL_open 4 = .ok (.invokevirtual 30, 3) by decide +kernel) (by decide) (Nat.le_of_ble_eq_true rfl) (Nat.le_of_ble_eq_true rfl) rfl rfl (Nat.le_of_ble_eq_true rfl) (rcvD s8 (by decide) rfl) (kX9_open w) (fun E9 h7 hk => ?_) (fun r2 h1 w => ?_)
  · rcases hk with ⟨rfl, w⟩ | ⟨rfl, w⟩
    · skip
      refine XT_catch (name := "java/lang/IndexOutOfBoundsException") (i := 3) (j := 1) (ls' := []) [] (0, 9, 12, 21) [(0, 9, 15, 15)] rfl (fun z hz => absurd hz List.not_mem_nil) (by decide) (by decide) (gw_of (List.mem_of_getElem? (i := 1143) (by decide +kernel)) (by decide +kernel)) (List.mem_of_getElem? (i := 5) rfl) (Or.inl ⟨3, rfl, (show decode cL_open 12 = .ok (.astore_n 3, 1) by decide +kernel), rfl⟩) (Nat.le_of_ble_eq_true rfl) (fun q hq => absurd hq List.not_mem_nil) ?_
      refine X_iconst (v := (nI 1)) (show decode cL_open 13 = .ok (.iconst 1, 1) by decide +kernel) (by decide) ?_
      exact X_iret ⟨(show decode cL_open 14 = .ok (.ireturn, 1) by decide +kernel), .int, rfl, rfl⟩ ⟨_, rfl, w⟩
    · skip
      refine XT_catch (name := "java/lang/IllegalStateException") (i := 3) (j := 1) (ls' := []) [(0, 9, 12, 21)] (0, 9, 15, 15) [] rfl (by
            intro z hz
            simp only [List.mem_cons, List.not_mem_nil, or_false] at hz
            rcases hz with rfl
            · exact ⟨by decide, _, gw_of (List.mem_of_getElem? (i := 1143) (by decide +kernel)) (by decide +kernel), List.mem_of_getElem? (i := 12) rfl⟩
            ) (by decide) (by decide) (gw_of (List.mem_of_getElem? (i := 1035) (by decide +kernel)) (by decide +kernel)) (List.mem_of_getElem? (i := 4) rfl) (Or.inl ⟨3, rfl, (show decode cL_open 15 = .ok (.astore_n 3, 1) by decide +kernel), rfl⟩) (Nat.le_of_ble_eq_true rfl) (fun q hq => absurd hq List.not_mem_nil) ?_
      refine X_iconst (v := (nI 2)) (show decode cL_open 16 = .ok (.iconst 2, 1) by decide +kernel) (by decide) ?_
      exact X_iret ⟨(show decode cL_open 17 = .ok (.ireturn, 1) by decide +kernel), .int, rfl, rfl⟩ ⟨_, rfl, w⟩
  · skip
    refine X_i2l (show decode cL_open 7 = .ok (.i2l, 1) by decide +kernel) ?_
    obtain ⟨s3, w⟩ := w
    obtain ⟨s4, w⟩ := w
    obtain ⟨s5, w⟩ := w
    refine X_last (show decode cL_open 8 = .ok (.lastore, 1) by decide +kernel) (isA_eq s3) s4 s5 ?_
    have w := w _ rfl
    refine X_goto (tgt := 18) (show decode cL_open 9 = .ok (.goto 9, 3) by decide +kernel) (by decide) ?_
    refine X_iconst (v := (nI 0)) (show decode cL_open 18 = .ok (.iconst 0, 1) by decide +kernel) (by decide) ?_
    exact X_iret ⟨(show decode cL_open 19 = .ok (.ireturn, 1) by decide +kernel), .int, rfl, rfl⟩ ⟨_, rfl, w⟩
set_option maxRecDepth 100000 in
set_option maxHeartbeats 4000000 in
theorem kL_throwPoint_J15 {K : Int32 → AH → Prop}   (y0 : Nat) (y1 : Int32) (y2 : Int64) (h : AH) (w : wL_throwPoint_J15 K  y0 y1 y2 h) : X mL_throwPoint 11 (KI K) T0 0 0 15 [] [.long y2, .int y1, .ref y0] h := by
  unfold wL_throwPoint_J15 at w
  obtain ⟨s4, w⟩ := w
  obtain ⟨s5, w⟩ := w
  obtain ⟨s6, w⟩ := w
  refine X_last (show decode cL_throwPoint 15 = .ok (.lastore, 1) by decide +kernel) (isA_eq s4) s5 s6 ?_
  have w := w _ rfl
  refine X_goto (tgt := 25) (show decode cL_throwPoint 16 = .ok (.goto 9, 3) by decide +kernel) (by decide) ?_
  refine X_iconst (v := (nI 0)) (show decode cL_throwPoint 25 = .ok (.iconst 0, 1) by decide +kernel) (by decide) ?_
  exact X_iret ⟨(show decode cL_throwPoint 26 = .ok (.ireturn, 1) by decide +kernel), .int, rfl, rfl⟩ ⟨_, rfl, w⟩
set_option maxRecDepth 100000 in
set_option maxHeartbeats 4000000 in
theorem kL_throwPoint {a0 : Nat} {a1 : Int32} {a2 : Nat} {h : AH} {K : Int32 → AH → Prop} (w : wL_throwPoint a0 a1 a2 h K) : Cn mL_throwPoint (cwh mL_throwPoint) 11 1 6 [.ref a0, .int a1, .ref a2] h (KI K) T0 := by
  refine CnH_of (by decide +kernel) (Nat.le_of_ble_eq_true rfl) ?_
  show X mL_throwPoint 11 (KI K) T0 1 6 0 [(0, .ref a0), (1, .int a1), (2, .ref a2)] [] h
  unfold wL_throwPoint at w
  refine X_aload_n (j := 2) (show decode cL_throwPoint 0 = .ok (.aload_n 2, 1) by decide +kernel) rfl rfl ?_
  refine X_iconst (v := (nI 0)) (show decode cL_throwPoint 1 = .ok (.iconst 0, 1) by decide +kernel) (by decide) ?_
  refine X_aload_n (j := 0) (show decode cL_throwPoint 2 = .ok (.aload_n 0, 1) by decide +kernel) rfl rfl ?_
  refine X_iload_n (j := 1) (show decode cL_throwPoint 3 = .ok (.iload_n 1, 1) by decide +kernel) rfl rfl ?_
  obtain ⟨s9, w⟩ := w
  refine X_vI (rc' := 0) (rs' := 0) (as := [.int _]) mv_L_33 (show decode cL_throwPoint 4 = .ok (.invokevirtual 33, 3) by decide +kernel) (by decide) (Nat.le_of_ble_eq_true rfl) (Nat.le_of_ble_eq_true rfl) rfl rfl (Nat.le_of_ble_eq_true rfl) (rcvD s9 (by decide) rfl) (kX9_throwPoint w) (fun E9 h8 hk => ?_) (fun r2 h1 w => ?_)
  · rcases hk with ⟨rfl, w⟩ | ⟨rfl, w⟩
    · skip
      refine XT_catch (name := "java/lang/IndexOutOfBoundsException") (i := 3) (j := 1) (ls' := []) [] (0, 16, 19, 21) [(0, 16, 22, 15)] rfl (fun z hz => absurd hz List.not_mem_nil) (by decide) (by decide) (gw_of (List.mem_of_getElem? (i := 1143) (by decide +kernel)) (by decide +kernel)) (List.mem_of_getElem? (i := 5) rfl) (Or.inl ⟨3, rfl, (show decode cL_throwPoint 19 = .ok (.astore_n 3, 1) by decide +kernel), rfl⟩) (Nat.le_of_ble_eq_true rfl) (fun q hq => absurd hq List.not_mem_nil) ?_
      refine X_iconst (v := (nI 1)) (show decode cL_throwPoint 20 = .ok (.iconst 1, 1) by decide +kernel) (by decide) ?_
      exact X_iret ⟨(show decode cL_throwPoint 21 = .ok (.ireturn, 1) by decide +kernel), .int, rfl, rfl⟩ ⟨_, rfl, w⟩
    · skip
      refine XT_catch (name := "java/lang/IllegalStateException") (i := 3) (j := 1) (ls' := []) [(0, 16, 19, 21)] (0, 16, 22, 15) [] rfl (by
            intro z hz
            simp only [List.mem_cons, List.not_mem_nil, or_false] at hz
            rcases hz with rfl
            · exact ⟨by decide, _, gw_of (List.mem_of_getElem? (i := 1143) (by decide +kernel)) (by decide +kernel), List.mem_of_getElem? (i := 12) rfl⟩
            ) (by decide) (by decide) (gw_of (List.mem_of_getElem? (i := 1035) (by decide +kernel)) (by decide +kernel)) (List.mem_of_getElem? (i := 4) rfl) (Or.inl ⟨3, rfl, (show decode cL_throwPoint 22 = .ok (.astore_n 3, 1) by decide +kernel), rfl⟩) (Nat.le_of_ble_eq_true rfl) (fun q hq => absurd hq List.not_mem_nil) ?_
      refine X_iconst (v := (nI 2)) (show decode cL_throwPoint 23 = .ok (.iconst 2, 1) by decide +kernel) (by decide) ?_
      exact X_iret ⟨(show decode cL_throwPoint 24 = .ok (.ireturn, 1) by decide +kernel), .int, rfl, rfl⟩ ⟨_, rfl, w⟩
  · skip
    refine X_if_eq (tgt := 14) (show decode cL_throwPoint 7 = .ok (.ifCond .eq 7, 3) by decide +kernel) (by decide) ⟨fun c3 => ?_, fun c3 => ?_⟩
    · have w := w.1 c3
      refine X_lconst (v := 0) (show decode cL_throwPoint 14 = .ok (.lconst 0, 1) by decide +kernel) (by decide) ?_
      refine X_pick (ls' := []) [] rfl ?_
      exact kL_throwPoint_J15  _ _ _ _ w
    · have w := w.2 c3
      refine X_lconst (v := 1) (show decode cL_throwPoint 10 = .ok (.lconst 1, 1) by decide +kernel) (by decide) ?_
      refine X_goto (tgt := 15) (show decode cL_throwPoint 11 = .ok (.goto 4, 3) by decide +kernel) (by decide) ?_
      refine X_pick (ls' := []) [] rfl ?_
      exact kL_throwPoint_J15  _ _ _ _ w
set_option maxRecDepth 100000 in
set_option maxHeartbeats 4000000 in
theorem kL_addTrain {a0 : Nat} {a1 : Int32} {a2 : Int32} {a3 : Nat} {h : AH} {K : Int32 → AH → Prop} (w : wL_addTrain a0 a1 a2 a3 h K) : Cn mL_addTrain (cwh mL_addTrain) 11 1 6 [.ref a0, .int a1, .int a2, .ref a3] h (KI K) T0 := by
  refine CnH_of (by decide +kernel) (Nat.le_of_ble_eq_true rfl) ?_
  show X mL_addTrain 11 (KI K) T0 1 6 0 [(0, .ref a0), (1, .int a1), (2, .int a2), (3, .ref a3)] [] h
  unfold wL_addTrain at w
  refine X_aload_n (j := 3) (show decode cL_addTrain 0 = .ok (.aload_n 3, 1) by decide +kernel) rfl rfl ?_
  refine X_iconst (v := (nI 0)) (show decode cL_addTrain 1 = .ok (.iconst 0, 1) by decide +kernel) (by decide) ?_
  refine X_aload_n (j := 0) (show decode cL_addTrain 2 = .ok (.aload_n 0, 1) by decide +kernel) rfl rfl ?_
  refine X_iload_n (j := 1) (show decode cL_addTrain 3 = .ok (.iload_n 1, 1) by decide +kernel) rfl rfl ?_
  refine X_iload_n (j := 2) (show decode cL_addTrain 4 = .ok (.iload_n 2, 1) by decide +kernel) rfl rfl ?_
  obtain ⟨s8, w⟩ := w
  refine X_vI (rc' := 0) (rs' := 0) (as := [.int _, .int _]) mv_L_37 (show decode cL_addTrain 5 = .ok (.invokevirtual 37, 3) by decide +kernel) (by decide) (Nat.le_of_ble_eq_true rfl) (Nat.le_of_ble_eq_true rfl) rfl rfl (Nat.le_of_ble_eq_true rfl) (rcvD s8 (by decide) rfl) (kX9_addTrain w) (fun E9 h7 hk => ?_) (fun r2 h1 w => ?_)
  · rcases hk with ⟨rfl, w⟩ | ⟨rfl, w⟩ | ⟨rfl, w⟩
    · skip
      refine XT_catch (name := "java/lang/IndexOutOfBoundsException") (i := 4) (j := 2) (ls' := []) [] (0, 10, 13, 21) [(0, 10, 17, 13), (0, 10, 21, 15)] rfl (fun z hz => absurd hz List.not_mem_nil) (by decide) (by decide) (gw_of (List.mem_of_getElem? (i := 1143) (by decide +kernel)) (by decide +kernel)) (List.mem_of_getElem? (i := 5) rfl) (Or.inr ⟨(show decode cL_addTrain 13 = .ok (.astore 4, 2) by decide +kernel), rfl⟩) (Nat.le_of_ble_eq_true rfl) (fun q hq => absurd hq List.not_mem_nil) ?_
      refine X_iconst (v := (nI 1)) (show decode cL_addTrain 15 = .ok (.iconst 1, 1) by decide +kernel) (by decide) ?_
      exact X_iret ⟨(show decode cL_addTrain 16 = .ok (.ireturn, 1) by decide +kernel), .int, rfl, rfl⟩ ⟨_, rfl, w⟩
    · skip
      refine XT_catch (name := "java/lang/IllegalArgumentException") (i := 4) (j := 2) (ls' := []) [(0, 10, 13, 21)] (0, 10, 17, 13) [(0, 10, 21, 15)] rfl (by
            intro z hz
            simp only [List.mem_cons, List.not_mem_nil, or_false] at hz
            rcases hz with rfl
            · exact ⟨by decide, _, gw_of (List.mem_of_getElem? (i := 1143) (by decide +kernel)) (by decide +kernel), List.mem_of_getElem? (i := 7) rfl⟩
            ) (by decide) (by decide) (gw_of (List.mem_of_getElem? (i := 1034) (by decide +kernel)) (by decide +kernel)) (List.mem_of_getElem? (i := 3) rfl) (Or.inr ⟨(show decode cL_addTrain 17 = .ok (.astore 4, 2) by decide +kernel), rfl⟩) (Nat.le_of_ble_eq_true rfl) (fun q hq => absurd hq List.not_mem_nil) ?_
      refine X_iconst (v := (nI 2)) (show decode cL_addTrain 19 = .ok (.iconst 2, 1) by decide +kernel) (by decide) ?_
      exact X_iret ⟨(show decode cL_addTrain 20 = .ok (.ireturn, 1) by decide +kernel), .int, rfl, rfl⟩ ⟨_, rfl, w⟩
    · skip
      refine XT_catch (name := "java/lang/IllegalStateException") (i := 4) (j := 2) (ls' := []) [(0, 10, 13, 21), (0, 10, 17, 13)] (0, 10, 21, 15) [] rfl (by
            intro z hz
            simp only [List.mem_cons, List.not_mem_nil, or_false] at hz
            rcases hz with rfl | rfl
            · exact ⟨by decide, _, gw_of (List.mem_of_getElem? (i := 1143) (by decide +kernel)) (by decide +kernel), List.mem_of_getElem? (i := 12) rfl⟩
            · exact ⟨by decide, _, gw_of (List.mem_of_getElem? (i := 1034) (by decide +kernel)) (by decide +kernel), List.mem_of_getElem? (i := 11) rfl⟩
            ) (by decide) (by decide) (gw_of (List.mem_of_getElem? (i := 1035) (by decide +kernel)) (by decide +kernel)) (List.mem_of_getElem? (i := 4) rfl) (Or.inr ⟨(show decode cL_addTrain 21 = .ok (.astore 4, 2) by decide +kernel), rfl⟩) (Nat.le_of_ble_eq_true rfl) (fun q hq => absurd hq List.not_mem_nil) ?_
      refine X_iconst (v := (nI 3)) (show decode cL_addTrain 23 = .ok (.iconst 3, 1) by decide +kernel) (by decide) ?_
      exact X_iret ⟨(show decode cL_addTrain 24 = .ok (.ireturn, 1) by decide +kernel), .int, rfl, rfl⟩ ⟨_, rfl, w⟩
  · skip
    refine X_i2l (show decode cL_addTrain 8 = .ok (.i2l, 1) by decide +kernel) ?_
    obtain ⟨s3, w⟩ := w
    obtain ⟨s4, w⟩ := w
    obtain ⟨s5, w⟩ := w
    refine X_last (show decode cL_addTrain 9 = .ok (.lastore, 1) by decide +kernel) (isA_eq s3) s4 s5 ?_
    have w := w _ rfl
    refine X_goto (tgt := 25) (show decode cL_addTrain 10 = .ok (.goto 15, 3) by decide +kernel) (by decide) ?_
    refine X_iconst (v := (nI 0)) (show decode cL_addTrain 25 = .ok (.iconst 0, 1) by decide +kernel) (by decide) ?_
    exact X_iret ⟨(show decode cL_addTrain 26 = .ok (.ireturn, 1) by decide +kernel), .int, rfl, rfl⟩ ⟨_, rfl, w⟩
set_option maxRecDepth 100000 in
set_option maxHeartbeats 4000000 in
theorem kL_setRoute {a0 : Nat} {a1 : Int32} {a2 : Nat} {h : AH} {K : Int32 → AH → Prop} (w : wL_setRoute a0 a1 a2 h K) : Cn mL_setRoute (cwh mL_setRoute) 11 1 6 [.ref a0, .int a1, .ref a2] h (KI K) T0 := by
  refine CnH_of (by decide +kernel) (Nat.le_of_ble_eq_true rfl) ?_
  show X mL_setRoute 11 (KI K) T0 1 6 0 [(0, .ref a0), (1, .int a1), (2, .ref a2)] [] h
  unfold wL_setRoute at w
  refine X_aload_n (j := 2) (show decode cL_setRoute 0 = .ok (.aload_n 2, 1) by decide +kernel) rfl rfl ?_
  refine X_iconst (v := (nI 0)) (show decode cL_setRoute 1 = .ok (.iconst 0, 1) by decide +kernel) (by decide) ?_
  refine X_aload_n (j := 0) (show decode cL_setRoute 2 = .ok (.aload_n 0, 1) by decide +kernel) rfl rfl ?_
  refine X_iload_n (j := 1) (show decode cL_setRoute 3 = .ok (.iload_n 1, 1) by decide +kernel) rfl rfl ?_
  obtain ⟨s8, w⟩ := w
  refine X_vI (rc' := 0) (rs' := 0) (as := [.int _]) mv_L_40 (show decode cL_setRoute 4 = .ok (.invokevirtual 40, 3) by decide +kernel) (by decide) (Nat.le_of_ble_eq_true rfl) (Nat.le_of_ble_eq_true rfl) rfl rfl (Nat.le_of_ble_eq_true rfl) (rcvD s8 (by decide) rfl) (kX9_setRoute w) (fun E9 h7 hk => ?_) (fun r2 h1 w => ?_)
  · rcases hk with ⟨rfl, w⟩ | ⟨rfl, w⟩ | ⟨rfl, w⟩
    · skip
      refine XT_catch (name := "java/util/NoSuchElementException") (i := 3) (j := 1) (ls' := []) [] (0, 9, 12, 43) [(0, 9, 15, 15), (0, 9, 18, 45)] rfl (fun z hz => absurd hz List.not_mem_nil) (by decide) (by decide) (gw_of (List.mem_of_getElem? (i := 1245) (by decide +kernel)) (by decide +kernel)) (List.mem_of_getElem? (i := 8) rfl) (Or.inl ⟨3, rfl, (show decode cL_setRoute 12 = .ok (.astore_n 3, 1) by decide +kernel), rfl⟩) (Nat.le_of_ble_eq_true rfl) (fun q hq => absurd hq List.not_mem_nil) ?_
      refine X_iconst (v := (nI 1)) (show decode cL_setRoute 13 = .ok (.iconst 1, 1) by decide +kernel) (by decide) ?_
      exact X_iret ⟨(show decode cL_setRoute 14 = .ok (.ireturn, 1) by decide +kernel), .int, rfl, rfl⟩ ⟨_, rfl, w⟩
    · skip
      refine XT_catch (name := "java/lang/IllegalStateException") (i := 3) (j := 1) (ls' := []) [(0, 9, 12, 43)] (0, 9, 15, 15) [(0, 9, 18, 45)] rfl (by
            intro z hz
            simp only [List.mem_cons, List.not_mem_nil, or_false] at hz
            rcases hz with rfl
            · exact ⟨by decide, _, gw_of (List.mem_of_getElem? (i := 1245) (by decide +kernel)) (by decide +kernel), List.mem_of_getElem? (i := 14) rfl⟩
            ) (by decide) (by decide) (gw_of (List.mem_of_getElem? (i := 1035) (by decide +kernel)) (by decide +kernel)) (List.mem_of_getElem? (i := 4) rfl) (Or.inl ⟨3, rfl, (show decode cL_setRoute 15 = .ok (.astore_n 3, 1) by decide +kernel), rfl⟩) (Nat.le_of_ble_eq_true rfl) (fun q hq => absurd hq List.not_mem_nil) ?_
      refine X_iconst (v := (nI 2)) (show decode cL_setRoute 16 = .ok (.iconst 2, 1) by decide +kernel) (by decide) ?_
      exact X_iret ⟨(show decode cL_setRoute 17 = .ok (.ireturn, 1) by decide +kernel), .int, rfl, rfl⟩ ⟨_, rfl, w⟩
    · skip
      refine XT_catch (name := "java/lang/UnsupportedOperationException") (i := 3) (j := 1) (ls' := []) [(0, 9, 12, 43), (0, 9, 15, 15)] (0, 9, 18, 45) [] rfl (by
            intro z hz
            simp only [List.mem_cons, List.not_mem_nil, or_false] at hz
            rcases hz with rfl | rfl
            · exact ⟨by decide, _, gw_of (List.mem_of_getElem? (i := 1245) (by decide +kernel)) (by decide +kernel), List.mem_of_getElem? (i := 24) rfl⟩
            · exact ⟨by decide, _, gw_of (List.mem_of_getElem? (i := 1035) (by decide +kernel)) (by decide +kernel), List.mem_of_getElem? (i := 22) rfl⟩
            ) (by decide) (by decide) (gw_of (List.mem_of_getElem? (i := 1246) (by decide +kernel)) (by decide +kernel)) (List.mem_of_getElem? (i := 7) rfl) (Or.inl ⟨3, rfl, (show decode cL_setRoute 18 = .ok (.astore_n 3, 1) by decide +kernel), rfl⟩) (Nat.le_of_ble_eq_true rfl) (fun q hq => absurd hq List.not_mem_nil) ?_
      refine X_iconst (v := (nI 3)) (show decode cL_setRoute 19 = .ok (.iconst 3, 1) by decide +kernel) (by decide) ?_
      exact X_iret ⟨(show decode cL_setRoute 20 = .ok (.ireturn, 1) by decide +kernel), .int, rfl, rfl⟩ ⟨_, rfl, w⟩
  · skip
    refine X_i2l (show decode cL_setRoute 7 = .ok (.i2l, 1) by decide +kernel) ?_
    obtain ⟨s3, w⟩ := w
    obtain ⟨s4, w⟩ := w
    obtain ⟨s5, w⟩ := w
    refine X_last (show decode cL_setRoute 8 = .ok (.lastore, 1) by decide +kernel) (isA_eq s3) s4 s5 ?_
    have w := w _ rfl
    refine X_goto (tgt := 21) (show decode cL_setRoute 9 = .ok (.goto 12, 3) by decide +kernel) (by decide) ?_
    refine X_iconst (v := (nI 0)) (show decode cL_setRoute 21 = .ok (.iconst 0, 1) by decide +kernel) (by decide) ?_
    exact X_iret ⟨(show decode cL_setRoute 22 = .ok (.ireturn, 1) by decide +kernel), .int, rfl, rfl⟩ ⟨_, rfl, w⟩
set_option maxRecDepth 100000 in
set_option maxHeartbeats 4000000 in
theorem kL_releaseRoute {a0 : Nat} {a1 : Int32} {a2 : Nat} {h : AH} {K : Int32 → AH → Prop} (w : wL_releaseRoute a0 a1 a2 h K) : Cn mL_releaseRoute (cwh mL_releaseRoute) 11 1 6 [.ref a0, .int a1, .ref a2] h (KI K) T0 := by
  refine CnH_of (by decide +kernel) (Nat.le_of_ble_eq_true rfl) ?_
  show X mL_releaseRoute 11 (KI K) T0 1 6 0 [(0, .ref a0), (1, .int a1), (2, .ref a2)] [] h
  unfold wL_releaseRoute at w
  refine X_aload_n (j := 2) (show decode cL_releaseRoute 0 = .ok (.aload_n 2, 1) by decide +kernel) rfl rfl ?_
  refine X_iconst (v := (nI 0)) (show decode cL_releaseRoute 1 = .ok (.iconst 0, 1) by decide +kernel) (by decide) ?_
  refine X_aload_n (j := 0) (show decode cL_releaseRoute 2 = .ok (.aload_n 0, 1) by decide +kernel) rfl rfl ?_
  refine X_iload_n (j := 1) (show decode cL_releaseRoute 3 = .ok (.iload_n 1, 1) by decide +kernel) rfl rfl ?_
  obtain ⟨s8, w⟩ := w
  refine X_vI (rc' := 0) (rs' := 0) (as := [.int _]) mv_L_47 (show decode cL_releaseRoute 4 = .ok (.invokevirtual 47, 3) by decide +kernel) (by decide) (Nat.le_of_ble_eq_true rfl) (Nat.le_of_ble_eq_true rfl) rfl rfl (Nat.le_of_ble_eq_true rfl) (rcvD s8 (by decide) rfl) (kX9_releaseRoute w) (fun E9 h7 hk => ?_) (fun r2 h1 w => ?_)
  · rcases hk with ⟨rfl, w⟩ | ⟨rfl, w⟩
    · skip
      refine XT_catch (name := "java/util/NoSuchElementException") (i := 3) (j := 1) (ls' := []) [] (0, 9, 12, 43) [(0, 9, 15, 15)] rfl (fun z hz => absurd hz List.not_mem_nil) (by decide) (by decide) (gw_of (List.mem_of_getElem? (i := 1245) (by decide +kernel)) (by decide +kernel)) (List.mem_of_getElem? (i := 8) rfl) (Or.inl ⟨3, rfl, (show decode cL_releaseRoute 12 = .ok (.astore_n 3, 1) by decide +kernel), rfl⟩) (Nat.le_of_ble_eq_true rfl) (fun q hq => absurd hq List.not_mem_nil) ?_
      refine X_iconst (v := (nI 1)) (show decode cL_releaseRoute 13 = .ok (.iconst 1, 1) by decide +kernel) (by decide) ?_
      exact X_iret ⟨(show decode cL_releaseRoute 14 = .ok (.ireturn, 1) by decide +kernel), .int, rfl, rfl⟩ ⟨_, rfl, w⟩
    · skip
      refine XT_catch (name := "java/lang/IllegalStateException") (i := 3) (j := 1) (ls' := []) [(0, 9, 12, 43)] (0, 9, 15, 15) [] rfl (by
            intro z hz
            simp only [List.mem_cons, List.not_mem_nil, or_false] at hz
            rcases hz with rfl
            · exact ⟨by decide, _, gw_of (List.mem_of_getElem? (i := 1245) (by decide +kernel)) (by decide +kernel), List.mem_of_getElem? (i := 14) rfl⟩
            ) (by decide) (by decide) (gw_of (List.mem_of_getElem? (i := 1035) (by decide +kernel)) (by decide +kernel)) (List.mem_of_getElem? (i := 4) rfl) (Or.inl ⟨3, rfl, (show decode cL_releaseRoute 15 = .ok (.astore_n 3, 1) by decide +kernel), rfl⟩) (Nat.le_of_ble_eq_true rfl) (fun q hq => absurd hq List.not_mem_nil) ?_
      refine X_iconst (v := (nI 2)) (show decode cL_releaseRoute 16 = .ok (.iconst 2, 1) by decide +kernel) (by decide) ?_
      exact X_iret ⟨(show decode cL_releaseRoute 17 = .ok (.ireturn, 1) by decide +kernel), .int, rfl, rfl⟩ ⟨_, rfl, w⟩
  · skip
    refine X_i2l (show decode cL_releaseRoute 7 = .ok (.i2l, 1) by decide +kernel) ?_
    obtain ⟨s3, w⟩ := w
    obtain ⟨s4, w⟩ := w
    obtain ⟨s5, w⟩ := w
    refine X_last (show decode cL_releaseRoute 8 = .ok (.lastore, 1) by decide +kernel) (isA_eq s3) s4 s5 ?_
    have w := w _ rfl
    refine X_goto (tgt := 18) (show decode cL_releaseRoute 9 = .ok (.goto 9, 3) by decide +kernel) (by decide) ?_
    refine X_iconst (v := (nI 0)) (show decode cL_releaseRoute 18 = .ok (.iconst 0, 1) by decide +kernel) (by decide) ?_
    exact X_iret ⟨(show decode cL_releaseRoute 19 = .ok (.ireturn, 1) by decide +kernel), .int, rfl, rfl⟩ ⟨_, rfl, w⟩
set_option maxRecDepth 100000 in
set_option maxHeartbeats 4000000 in
theorem kL_pass {a0 : Nat} {a1 : Int32} {a2 : Nat} {h : AH} {K : Int32 → AH → Prop} (w : wL_pass a0 a1 a2 h K) : Cn mL_pass (cwh mL_pass) 11 1 6 [.ref a0, .int a1, .ref a2] h (KI K) T0 := by
  refine CnH_of (by decide +kernel) (Nat.le_of_ble_eq_true rfl) ?_
  show X mL_pass 11 (KI K) T0 1 6 0 [(0, .ref a0), (1, .int a1), (2, .ref a2)] [] h
  unfold wL_pass at w
  refine X_aload_n (j := 2) (show decode cL_pass 0 = .ok (.aload_n 2, 1) by decide +kernel) rfl rfl ?_
  refine X_iconst (v := (nI 0)) (show decode cL_pass 1 = .ok (.iconst 0, 1) by decide +kernel) (by decide) ?_
  refine X_aload_n (j := 0) (show decode cL_pass 2 = .ok (.aload_n 0, 1) by decide +kernel) rfl rfl ?_
  refine X_iload_n (j := 1) (show decode cL_pass 3 = .ok (.iload_n 1, 1) by decide +kernel) rfl rfl ?_
  obtain ⟨s8, w⟩ := w
  refine X_vI (rc' := 0) (rs' := 0) (as := [.int _]) mv_L_50 (show decode cL_pass 4 = .ok (.invokevirtual 50, 3) by decide +kernel) (by decide) (Nat.le_of_ble_eq_true rfl) (Nat.le_of_ble_eq_true rfl) rfl rfl (Nat.le_of_ble_eq_true rfl) (rcvD s8 (by decide) rfl) (kX9_pass w) (fun E9 h7 hk => ?_) (fun r2 h1 w => ?_)
  · obtain ⟨rfl, w⟩ := hk
    refine XT_catch (name := "java/lang/IllegalArgumentException") (i := 3) (j := 1) (ls' := []) [] (0, 9, 12, 13) [] rfl (fun z hz => absurd hz List.not_mem_nil) (by decide) (by decide) (gw_of (List.mem_of_getElem? (i := 1034) (by decide +kernel)) (by decide +kernel)) (List.mem_of_getElem? (i := 3) rfl) (Or.inl ⟨3, rfl, (show decode cL_pass 12 = .ok (.astore_n 3, 1) by decide +kernel), rfl⟩) (Nat.le_of_ble_eq_true rfl) (fun q hq => absurd hq List.not_mem_nil) ?_
    refine X_iconst (v := (nI 1)) (show decode cL_pass 13 = .ok (.iconst 1, 1) by decide +kernel) (by decide) ?_
    exact X_iret ⟨(show decode cL_pass 14 = .ok (.ireturn, 1) by decide +kernel), .int, rfl, rfl⟩ ⟨_, rfl, w⟩
  · skip
    refine X_i2l (show decode cL_pass 7 = .ok (.i2l, 1) by decide +kernel) ?_
    obtain ⟨s3, w⟩ := w
    obtain ⟨s4, w⟩ := w
    obtain ⟨s5, w⟩ := w
    refine X_last (show decode cL_pass 8 = .ok (.lastore, 1) by decide +kernel) (isA_eq s3) s4 s5 ?_
    have w := w _ rfl
    refine X_goto (tgt := 15) (show decode cL_pass 9 = .ok (.goto 6, 3) by decide +kernel) (by decide) ?_
    refine X_iconst (v := (nI 0)) (show decode cL_pass 15 = .ok (.iconst 0, 1) by decide +kernel) (by decide) ?_
    exact X_iret ⟨(show decode cL_pass 16 = .ok (.ireturn, 1) by decide +kernel), .int, rfl, rfl⟩ ⟨_, rfl, w⟩
set_option maxRecDepth 100000 in
set_option maxHeartbeats 4000000 in
theorem kL_blockLength {a0 : Nat} {a1 : Int32} {a2 : Nat} {h : AH} {K : Int32 → AH → Prop} (w : wL_blockLength a0 a1 a2 h K) : Cn mL_blockLength (cwh mL_blockLength) 10 1 6 [.ref a0, .int a1, .ref a2] h (KI K) T0 := by
  refine CnH_of (by decide +kernel) (Nat.le_of_ble_eq_true rfl) ?_
  show X mL_blockLength 10 (KI K) T0 1 6 0 [(0, .ref a0), (1, .int a1), (2, .ref a2)] [] h
  unfold wL_blockLength at w
  refine X_aload_n (j := 2) (show decode cL_blockLength 0 = .ok (.aload_n 2, 1) by decide +kernel) rfl rfl ?_
  refine X_iconst (v := (nI 0)) (show decode cL_blockLength 1 = .ok (.iconst 0, 1) by decide +kernel) (by decide) ?_
  refine X_aload_n (j := 0) (show decode cL_blockLength 2 = .ok (.aload_n 0, 1) by decide +kernel) rfl rfl ?_
  refine X_iload_n (j := 1) (show decode cL_blockLength 3 = .ok (.iload_n 1, 1) by decide +kernel) rfl rfl ?_
  obtain ⟨s8, w⟩ := w
  refine X_vI (rc' := 0) (rs' := 0) (as := [.int _]) mv_L_53 (show decode cL_blockLength 4 = .ok (.invokevirtual 53, 3) by decide +kernel) (by decide) (Nat.le_of_ble_eq_true rfl) (Nat.le_of_ble_eq_true rfl) rfl rfl (Nat.le_of_ble_eq_true rfl) (rcvD s8 (by decide) rfl) (kX9_blockLength w) (fun E9 h7 hk => ?_) (fun r2 h1 w => ?_)
  · obtain ⟨rfl, w⟩ := hk
    refine XT_catch (name := "java/lang/IndexOutOfBoundsException") (i := 3) (j := 1) (ls' := []) [] (0, 9, 12, 21) [] rfl (fun z hz => absurd hz List.not_mem_nil) (by decide) (by decide) (gw_of (List.mem_of_getElem? (i := 1143) (by decide +kernel)) (by decide +kernel)) (List.mem_of_getElem? (i := 5) rfl) (Or.inl ⟨3, rfl, (show decode cL_blockLength 12 = .ok (.astore_n 3, 1) by decide +kernel), rfl⟩) (Nat.le_of_ble_eq_true rfl) (fun q hq => absurd hq List.not_mem_nil) ?_
    refine X_iconst (v := (nI 1)) (show decode cL_blockLength 13 = .ok (.iconst 1, 1) by decide +kernel) (by decide) ?_
    exact X_iret ⟨(show decode cL_blockLength 14 = .ok (.ireturn, 1) by decide +kernel), .int, rfl, rfl⟩ ⟨_, rfl, w⟩
  · skip
    refine X_i2l (show decode cL_blockLength 7 = .ok (.i2l, 1) by decide +kernel) ?_
    obtain ⟨s3, w⟩ := w
    obtain ⟨s4, w⟩ := w
    obtain ⟨s5, w⟩ := w
    refine X_last (show decode cL_blockLength 8 = .ok (.lastore, 1) by decide +kernel) (isA_eq s3) s4 s5 ?_
    have w := w _ rfl
    refine X_goto (tgt := 15) (show decode cL_blockLength 9 = .ok (.goto 6, 3) by decide +kernel) (by decide) ?_
    refine X_iconst (v := (nI 0)) (show decode cL_blockLength 15 = .ok (.iconst 0, 1) by decide +kernel) (by decide) ?_
    exact X_iret ⟨(show decode cL_blockLength 16 = .ok (.ireturn, 1) by decide +kernel), .int, rfl, rfl⟩ ⟨_, rfl, w⟩
set_option maxRecDepth 100000 in
set_option maxHeartbeats 4000000 in
theorem kL_blockState {a0 : Nat} {a1 : Int32} {a2 : Nat} {h : AH} {K : Int32 → AH → Prop} (w : wL_blockState a0 a1 a2 h K) : Cn mL_blockState (cwh mL_blockState) 10 1 6 [.ref a0, .int a1, .ref a2] h (KI K) T0 := by
  refine CnH_of (by decide +kernel) (Nat.le_of_ble_eq_true rfl) ?_
  show X mL_blockState 10 (KI K) T0 1 6 0 [(0, .ref a0), (1, .int a1), (2, .ref a2)] [] h
  unfold wL_blockState at w
  refine X_aload_n (j := 2) (show decode cL_blockState 0 = .ok (.aload_n 2, 1) by decide +kernel) rfl rfl ?_
  refine X_iconst (v := (nI 0)) (show decode cL_blockState 1 = .ok (.iconst 0, 1) by decide +kernel) (by decide) ?_
  refine X_aload_n (j := 0) (show decode cL_blockState 2 = .ok (.aload_n 0, 1) by decide +kernel) rfl rfl ?_
  refine X_iload_n (j := 1) (show decode cL_blockState 3 = .ok (.iload_n 1, 1) by decide +kernel) rfl rfl ?_
  obtain ⟨s8, w⟩ := w
  refine X_vI (rc' := 0) (rs' := 0) (as := [.int _]) mv_L_56 (show decode cL_blockState 4 = .ok (.invokevirtual 56, 3) by decide +kernel) (by decide) (Nat.le_of_ble_eq_true rfl) (Nat.le_of_ble_eq_true rfl) rfl rfl (Nat.le_of_ble_eq_true rfl) (rcvD s8 (by decide) rfl) (kX9_blockState w) (fun E9 h7 hk => ?_) (fun r2 h1 w => ?_)
  · obtain ⟨rfl, w⟩ := hk
    refine XT_catch (name := "java/lang/IndexOutOfBoundsException") (i := 3) (j := 1) (ls' := []) [] (0, 9, 12, 21) [] rfl (fun z hz => absurd hz List.not_mem_nil) (by decide) (by decide) (gw_of (List.mem_of_getElem? (i := 1143) (by decide +kernel)) (by decide +kernel)) (List.mem_of_getElem? (i := 5) rfl) (Or.inl ⟨3, rfl, (show decode cL_blockState 12 = .ok (.astore_n 3, 1) by decide +kernel), rfl⟩) (Nat.le_of_ble_eq_true rfl) (fun q hq => absurd hq List.not_mem_nil) ?_
    refine X_iconst (v := (nI 1)) (show decode cL_blockState 13 = .ok (.iconst 1, 1) by decide +kernel) (by decide) ?_
    exact X_iret ⟨(show decode cL_blockState 14 = .ok (.ireturn, 1) by decide +kernel), .int, rfl, rfl⟩ ⟨_, rfl, w⟩
  · skip
    refine X_i2l (show decode cL_blockState 7 = .ok (.i2l, 1) by decide +kernel) ?_
    obtain ⟨s3, w⟩ := w
    obtain ⟨s4, w⟩ := w
    obtain ⟨s5, w⟩ := w
    refine X_last (show decode cL_blockState 8 = .ok (.lastore, 1) by decide +kernel) (isA_eq s3) s4 s5 ?_
    have w := w _ rfl
    refine X_goto (tgt := 15) (show decode cL_blockState 9 = .ok (.goto 6, 3) by decide +kernel) (by decide) ?_
    refine X_iconst (v := (nI 0)) (show decode cL_blockState 15 = .ok (.iconst 0, 1) by decide +kernel) (by decide) ?_
    exact X_iret ⟨(show decode cL_blockState 16 = .ok (.ireturn, 1) by decide +kernel), .int, rfl, rfl⟩ ⟨_, rfl, w⟩
set_option maxRecDepth 100000 in
set_option maxHeartbeats 4000000 in
theorem kL_trainAt {a0 : Nat} {a1 : Int32} {a2 : Nat} {h : AH} {K : Int32 → AH → Prop} (w : wL_trainAt a0 a1 a2 h K) : Cn mL_trainAt (cwh mL_trainAt) 10 2 12 [.ref a0, .int a1, .ref a2] h (KI K) T0 := by
  refine CnH_of (by decide +kernel) (Nat.le_of_ble_eq_true rfl) ?_
  show X mL_trainAt 10 (KI K) T0 2 12 0 [(0, .ref a0), (1, .int a1), (2, .ref a2)] [] h
  unfold wL_trainAt at w
  refine X_aload_n (j := 2) (show decode cL_trainAt 0 = .ok (.aload_n 2, 1) by decide +kernel) rfl rfl ?_
  refine X_iconst (v := (nI 0)) (show decode cL_trainAt 1 = .ok (.iconst 0, 1) by decide +kernel) (by decide) ?_
  refine X_aload_n (j := 0) (show decode cL_trainAt 2 = .ok (.aload_n 0, 1) by decide +kernel) rfl rfl ?_
  refine X_iload_n (j := 1) (show decode cL_trainAt 3 = .ok (.iload_n 1, 1) by decide +kernel) rfl rfl ?_
  obtain ⟨s8, w⟩ := w
  refine X_vI (rc' := 0) (rs' := 0) (as := [.int _]) mv_L_60 (show decode cL_trainAt 4 = .ok (.invokevirtual 60, 3) by decide +kernel) (by decide) (Nat.le_of_ble_eq_true rfl) (Nat.le_of_ble_eq_true rfl) rfl rfl (Nat.le_of_ble_eq_true rfl) (rcvD s8 (by decide) rfl) (kX9_trainAt w) (fun E9 h7 hk => ?_) (fun r2 h1 w => ?_)
  · rcases hk with ⟨rfl, w⟩ | ⟨rfl, w⟩
    · skip
      refine XT_catch (name := "java/lang/IndexOutOfBoundsException") (i := 3) (j := 1) (ls' := []) [] (0, 9, 12, 21) [(0, 9, 15, 43)] rfl (fun z hz => absurd hz List.not_mem_nil) (by decide) (by decide) (gw_of (List.mem_of_getElem? (i := 1143) (by decide +kernel)) (by decide +kernel)) (List.mem_of_getElem? (i := 5) rfl) (Or.inl ⟨3, rfl, (show decode cL_trainAt 12 = .ok (.astore_n 3, 1) by decide +kernel), rfl⟩) (Nat.le_of_ble_eq_true rfl) (fun q hq => absurd hq List.not_mem_nil) ?_
      refine X_iconst (v := (nI 1)) (show decode cL_trainAt 13 = .ok (.iconst 1, 1) by decide +kernel) (by decide) ?_
      exact X_iret ⟨(show decode cL_trainAt 14 = .ok (.ireturn, 1) by decide +kernel), .int, rfl, rfl⟩ ⟨_, rfl, w⟩
    · skip
      refine XT_catch (name := "java/util/NoSuchElementException") (i := 3) (j := 1) (ls' := []) [(0, 9, 12, 21)] (0, 9, 15, 43) [] rfl (by
            intro z hz
            simp only [List.mem_cons, List.not_mem_nil, or_false] at hz
            rcases hz with rfl
            · exact ⟨by decide, _, gw_of (List.mem_of_getElem? (i := 1143) (by decide +kernel)) (by decide +kernel), List.mem_of_getElem? (i := 28) rfl⟩
            ) (by decide) (by decide) (gw_of (List.mem_of_getElem? (i := 1245) (by decide +kernel)) (by decide +kernel)) (List.mem_of_getElem? (i := 8) rfl) (Or.inl ⟨3, rfl, (show decode cL_trainAt 15 = .ok (.astore_n 3, 1) by decide +kernel), rfl⟩) (Nat.le_of_ble_eq_true rfl) (fun q hq => absurd hq List.not_mem_nil) ?_
      refine X_iconst (v := (nI 2)) (show decode cL_trainAt 16 = .ok (.iconst 2, 1) by decide +kernel) (by decide) ?_
      exact X_iret ⟨(show decode cL_trainAt 17 = .ok (.ireturn, 1) by decide +kernel), .int, rfl, rfl⟩ ⟨_, rfl, w⟩
  · skip
    refine X_i2l (show decode cL_trainAt 7 = .ok (.i2l, 1) by decide +kernel) ?_
    obtain ⟨s3, w⟩ := w
    obtain ⟨s4, w⟩ := w
    obtain ⟨s5, w⟩ := w
    refine X_last (show decode cL_trainAt 8 = .ok (.lastore, 1) by decide +kernel) (isA_eq s3) s4 s5 ?_
    have w := w _ rfl
    refine X_goto (tgt := 18) (show decode cL_trainAt 9 = .ok (.goto 9, 3) by decide +kernel) (by decide) ?_
    refine X_iconst (v := (nI 0)) (show decode cL_trainAt 18 = .ok (.iconst 0, 1) by decide +kernel) (by decide) ?_
    exact X_iret ⟨(show decode cL_trainAt 19 = .ok (.ireturn, 1) by decide +kernel), .int, rfl, rfl⟩ ⟨_, rfl, w⟩
set_option maxRecDepth 100000 in
set_option maxHeartbeats 4000000 in
theorem kL_liesLeft_J15 {K : Int32 → AH → Prop}   (y0 : Nat) (y1 : Int32) (y2 : Int64) (h : AH) (w : wL_liesLeft_J15 K  y0 y1 y2 h) : X mL_liesLeft 10 (KI K) T0 0 0 15 [] [.long y2, .int y1, .ref y0] h := by
  unfold wL_liesLeft_J15 at w
  obtain ⟨s4, w⟩ := w
  obtain ⟨s5, w⟩ := w
  obtain ⟨s6, w⟩ := w
  refine X_last (show decode cL_liesLeft 15 = .ok (.lastore, 1) by decide +kernel) (isA_eq s4) s5 s6 ?_
  have w := w _ rfl
  refine X_goto (tgt := 22) (show decode cL_liesLeft 16 = .ok (.goto 6, 3) by decide +kernel) (by decide) ?_
  refine X_iconst (v := (nI 0)) (show decode cL_liesLeft 22 = .ok (.iconst 0, 1) by decide +kernel) (by decide) ?_
  exact X_iret ⟨(show decode cL_liesLeft 23 = .ok (.ireturn, 1) by decide +kernel), .int, rfl, rfl⟩ ⟨_, rfl, w⟩
set_option maxRecDepth 100000 in
set_option maxHeartbeats 4000000 in
theorem kL_liesLeft {a0 : Nat} {a1 : Int32} {a2 : Nat} {h : AH} {K : Int32 → AH → Prop} (w : wL_liesLeft a0 a1 a2 h K) : Cn mL_liesLeft (cwh mL_liesLeft) 10 1 6 [.ref a0, .int a1, .ref a2] h (KI K) T0 := by
  refine CnH_of (by decide +kernel) (Nat.le_of_ble_eq_true rfl) ?_
  show X mL_liesLeft 10 (KI K) T0 1 6 0 [(0, .ref a0), (1, .int a1), (2, .ref a2)] [] h
  unfold wL_liesLeft at w
  refine X_aload_n (j := 2) (show decode cL_liesLeft 0 = .ok (.aload_n 2, 1) by decide +kernel) rfl rfl ?_
  refine X_iconst (v := (nI 0)) (show decode cL_liesLeft 1 = .ok (.iconst 0, 1) by decide +kernel) (by decide) ?_
  refine X_aload_n (j := 0) (show decode cL_liesLeft 2 = .ok (.aload_n 0, 1) by decide +kernel) rfl rfl ?_
  refine X_iload_n (j := 1) (show decode cL_liesLeft 3 = .ok (.iload_n 1, 1) by decide +kernel) rfl rfl ?_
  obtain ⟨s9, w⟩ := w
  refine X_vI (rc' := 0) (rs' := 0) (as := [.int _]) mv_L_63 (show decode cL_liesLeft 4 = .ok (.invokevirtual 63, 3) by decide +kernel) (by decide) (Nat.le_of_ble_eq_true rfl) (Nat.le_of_ble_eq_true rfl) rfl rfl (Nat.le_of_ble_eq_true rfl) (rcvD s9 (by decide) rfl) (kX9_liesLeft w) (fun E9 h8 hk => ?_) (fun r2 h1 w => ?_)
  · obtain ⟨rfl, w⟩ := hk
    refine XT_catch (name := "java/lang/IndexOutOfBoundsException") (i := 3) (j := 1) (ls' := []) [] (0, 16, 19, 21) [] rfl (fun z hz => absurd hz List.not_mem_nil) (by decide) (by decide) (gw_of (List.mem_of_getElem? (i := 1143) (by decide +kernel)) (by decide +kernel)) (List.mem_of_getElem? (i := 5) rfl) (Or.inl ⟨3, rfl, (show decode cL_liesLeft 19 = .ok (.astore_n 3, 1) by decide +kernel), rfl⟩) (Nat.le_of_ble_eq_true rfl) (fun q hq => absurd hq List.not_mem_nil) ?_
    refine X_iconst (v := (nI 1)) (show decode cL_liesLeft 20 = .ok (.iconst 1, 1) by decide +kernel) (by decide) ?_
    exact X_iret ⟨(show decode cL_liesLeft 21 = .ok (.ireturn, 1) by decide +kernel), .int, rfl, rfl⟩ ⟨_, rfl, w⟩
  · skip
    refine X_if_eq (tgt := 14) (show decode cL_liesLeft 7 = .ok (.ifCond .eq 7, 3) by decide +kernel) (by decide) ⟨fun c3 => ?_, fun c3 => ?_⟩
    · have w := w.1 c3
      refine X_lconst (v := 0) (show decode cL_liesLeft 14 = .ok (.lconst 0, 1) by decide +kernel) (by decide) ?_
      refine X_pick (ls' := []) [] rfl ?_
      exact kL_liesLeft_J15  _ _ _ _ w
    · have w := w.2 c3
      refine X_lconst (v := 1) (show decode cL_liesLeft 10 = .ok (.lconst 1, 1) by decide +kernel) (by decide) ?_
      refine X_goto (tgt := 15) (show decode cL_liesLeft 11 = .ok (.goto 4, 3) by decide +kernel) (by decide) ?_
      refine X_pick (ls' := []) [] rfl ?_
      exact kL_liesLeft_J15  _ _ _ _ w
set_option maxRecDepth 100000 in
set_option maxHeartbeats 4000000 in
theorem kL_lockedBy {a0 : Nat} {a1 : Int32} {a2 : Nat} {h : AH} {K : Int32 → AH → Prop} (w : wL_lockedBy a0 a1 a2 h K) : Cn mL_lockedBy (cwh mL_lockedBy) 10 2 12 [.ref a0, .int a1, .ref a2] h (KI K) T0 := by
  refine CnH_of (by decide +kernel) (Nat.le_of_ble_eq_true rfl) ?_
  show X mL_lockedBy 10 (KI K) T0 2 12 0 [(0, .ref a0), (1, .int a1), (2, .ref a2)] [] h
  unfold wL_lockedBy at w
  refine X_aload_n (j := 2) (show decode cL_lockedBy 0 = .ok (.aload_n 2, 1) by decide +kernel) rfl rfl ?_
  refine X_iconst (v := (nI 0)) (show decode cL_lockedBy 1 = .ok (.iconst 0, 1) by decide +kernel) (by decide) ?_
  refine X_aload_n (j := 0) (show decode cL_lockedBy 2 = .ok (.aload_n 0, 1) by decide +kernel) rfl rfl ?_
  refine X_iload_n (j := 1) (show decode cL_lockedBy 3 = .ok (.iload_n 1, 1) by decide +kernel) rfl rfl ?_
  obtain ⟨s8, w⟩ := w
  refine X_vI (rc' := 0) (rs' := 0) (as := [.int _]) mv_L_66 (show decode cL_lockedBy 4 = .ok (.invokevirtual 66, 3) by decide +kernel) (by decide) (Nat.le_of_ble_eq_true rfl) (Nat.le_of_ble_eq_true rfl) rfl rfl (Nat.le_of_ble_eq_true rfl) (rcvD s8 (by decide) rfl) (kX9_lockedBy w) (fun E9 h7 hk => ?_) (fun r2 h1 w => ?_)
  · rcases hk with ⟨rfl, w⟩ | ⟨rfl, w⟩
    · skip
      refine XT_catch (name := "java/lang/IndexOutOfBoundsException") (i := 3) (j := 1) (ls' := []) [] (0, 9, 12, 21) [(0, 9, 15, 43)] rfl (fun z hz => absurd hz List.not_mem_nil) (by decide) (by decide) (gw_of (List.mem_of_getElem? (i := 1143) (by decide +kernel)) (by decide +kernel)) (List.mem_of_getElem? (i := 5) rfl) (Or.inl ⟨3, rfl, (show decode cL_lockedBy 12 = .ok (.astore_n 3, 1) by decide +kernel), rfl⟩) (Nat.le_of_ble_eq_true rfl) (fun q hq => absurd hq List.not_mem_nil) ?_
      refine X_iconst (v := (nI 1)) (show decode cL_lockedBy 13 = .ok (.iconst 1, 1) by decide +kernel) (by decide) ?_
      exact X_iret ⟨(show decode cL_lockedBy 14 = .ok (.ireturn, 1) by decide +kernel), .int, rfl, rfl⟩ ⟨_, rfl, w⟩
    · skip
      refine XT_catch (name := "java/util/NoSuchElementException") (i := 3) (j := 1) (ls' := []) [(0, 9, 12, 21)] (0, 9, 15, 43) [] rfl (by
            intro z hz
            simp only [List.mem_cons, List.not_mem_nil, or_false] at hz
            rcases hz with rfl
            · exact ⟨by decide, _, gw_of (List.mem_of_getElem? (i := 1143) (by decide +kernel)) (by decide +kernel), List.mem_of_getElem? (i := 28) rfl⟩
            ) (by decide) (by decide) (gw_of (List.mem_of_getElem? (i := 1245) (by decide +kernel)) (by decide +kernel)) (List.mem_of_getElem? (i := 8) rfl) (Or.inl ⟨3, rfl, (show decode cL_lockedBy 15 = .ok (.astore_n 3, 1) by decide +kernel), rfl⟩) (Nat.le_of_ble_eq_true rfl) (fun q hq => absurd hq List.not_mem_nil) ?_
      refine X_iconst (v := (nI 2)) (show decode cL_lockedBy 16 = .ok (.iconst 2, 1) by decide +kernel) (by decide) ?_
      exact X_iret ⟨(show decode cL_lockedBy 17 = .ok (.ireturn, 1) by decide +kernel), .int, rfl, rfl⟩ ⟨_, rfl, w⟩
  · skip
    refine X_i2l (show decode cL_lockedBy 7 = .ok (.i2l, 1) by decide +kernel) ?_
    obtain ⟨s3, w⟩ := w
    obtain ⟨s4, w⟩ := w
    obtain ⟨s5, w⟩ := w
    refine X_last (show decode cL_lockedBy 8 = .ok (.lastore, 1) by decide +kernel) (isA_eq s3) s4 s5 ?_
    have w := w _ rfl
    refine X_goto (tgt := 18) (show decode cL_lockedBy 9 = .ok (.goto 9, 3) by decide +kernel) (by decide) ?_
    refine X_iconst (v := (nI 0)) (show decode cL_lockedBy 18 = .ok (.iconst 0, 1) by decide +kernel) (by decide) ?_
    exact X_iret ⟨(show decode cL_lockedBy 19 = .ok (.ireturn, 1) by decide +kernel), .int, rfl, rfl⟩ ⟨_, rfl, w⟩
set_option maxRecDepth 100000 in
set_option maxHeartbeats 4000000 in
theorem kL_routeLength {a0 : Nat} {a1 : Int32} {a2 : Int32} {a3 : Nat} {h : AH} {K : Int32 → AH → Prop} (w : wL_routeLength a0 a1 a2 a3 h K) : Cn mL_routeLength (cwh mL_routeLength) 11 3 18 [.ref a0, .int a1, .int a2, .ref a3] h (KI K) T0 := by
  refine CnH_of (by decide +kernel) (Nat.le_of_ble_eq_true rfl) ?_
  show X mL_routeLength 11 (KI K) T0 3 18 0 [(0, .ref a0), (1, .int a1), (2, .int a2), (3, .ref a3)] [] h
  unfold wL_routeLength at w
  refine X_aload_n (j := 3) (show decode cL_routeLength 0 = .ok (.aload_n 3, 1) by decide +kernel) rfl rfl ?_
  refine X_iconst (v := (nI 0)) (show decode cL_routeLength 1 = .ok (.iconst 0, 1) by decide +kernel) (by decide) ?_
  refine X_aload_n (j := 0) (show decode cL_routeLength 2 = .ok (.aload_n 0, 1) by decide +kernel) rfl rfl ?_
  refine X_iload_n (j := 1) (show decode cL_routeLength 3 = .ok (.iload_n 1, 1) by decide +kernel) rfl rfl ?_
  refine X_iload_n (j := 2) (show decode cL_routeLength 4 = .ok (.iload_n 2, 1) by decide +kernel) rfl rfl ?_
  obtain ⟨s8, w⟩ := w
  refine X_vI (rc' := 0) (rs' := 0) (as := [.int _, .int _]) mv_L_69 (show decode cL_routeLength 5 = .ok (.invokevirtual 69, 3) by decide +kernel) (by decide) (Nat.le_of_ble_eq_true rfl) (Nat.le_of_ble_eq_true rfl) rfl rfl (Nat.le_of_ble_eq_true rfl) (rcvD s8 (by decide) rfl) (kX9_routeLength w) (fun E9 h7 hk => ?_) (fun r2 h1 w => ?_)
  · rcases hk with ⟨rfl, w⟩ | ⟨rfl, w⟩
    · skip
      refine XT_catch (name := "java/lang/IndexOutOfBoundsException") (i := 4) (j := 2) (ls' := []) [] (0, 10, 13, 21) [(0, 10, 17, 43)] rfl (fun z hz => absurd hz List.not_mem_nil) (by decide) (by decide) (gw_of (List.mem_of_getElem? (i := 1143) (by decide +kernel)) (by decide +kernel)) (List.mem_of_getElem? (i := 5) rfl) (Or.inr ⟨(show decode cL_routeLength 13 = .ok (.astore 4, 2) by decide +kernel), rfl⟩) (Nat.le_of_ble_eq_true rfl) (fun q hq => absurd hq List.not_mem_nil) ?_
      refine X_iconst (v := (nI 1)) (show decode cL_routeLength 15 = .ok (.iconst 1, 1) by decide +kernel) (by decide) ?_
      exact X_iret ⟨(show decode cL_routeLength 16 = .ok (.ireturn, 1) by decide +kernel), .int, rfl, rfl⟩ ⟨_, rfl, w⟩
    · skip
      refine XT_catch (name := "java/util/NoSuchElementException") (i := 4) (j := 2) (ls' := []) [(0, 10, 13, 21)] (0, 10, 17, 43) [] rfl (by
            intro z hz
            simp only [List.mem_cons, List.not_mem_nil, or_false] at hz
            rcases hz with rfl
            · exact ⟨by decide, _, gw_of (List.mem_of_getElem? (i := 1143) (by decide +kernel)) (by decide +kernel), List.mem_of_getElem? (i := 28) rfl⟩
            ) (by decide) (by decide) (gw_of (List.mem_of_getElem? (i := 1245) (by decide +kernel)) (by decide +kernel)) (List.mem_of_getElem? (i := 8) rfl) (Or.inr ⟨(show decode cL_routeLength 17 = .ok (.astore 4, 2) by decide +kernel), rfl⟩) (Nat.le_of_ble_eq_true rfl) (fun q hq => absurd hq List.not_mem_nil) ?_
      refine X_iconst (v := (nI 2)) (show decode cL_routeLength 19 = .ok (.iconst 2, 1) by decide +kernel) (by decide) ?_
      exact X_iret ⟨(show decode cL_routeLength 20 = .ok (.ireturn, 1) by decide +kernel), .int, rfl, rfl⟩ ⟨_, rfl, w⟩
  · skip
    refine X_i2l (show decode cL_routeLength 8 = .ok (.i2l, 1) by decide +kernel) ?_
    obtain ⟨s3, w⟩ := w
    obtain ⟨s4, w⟩ := w
    obtain ⟨s5, w⟩ := w
    refine X_last (show decode cL_routeLength 9 = .ok (.lastore, 1) by decide +kernel) (isA_eq s3) s4 s5 ?_
    have w := w _ rfl
    refine X_goto (tgt := 21) (show decode cL_routeLength 10 = .ok (.goto 11, 3) by decide +kernel) (by decide) ?_
    refine X_iconst (v := (nI 0)) (show decode cL_routeLength 21 = .ok (.iconst 0, 1) by decide +kernel) (by decide) ?_
    exact X_iret ⟨(show decode cL_routeLength 22 = .ok (.ireturn, 1) by decide +kernel), .int, rfl, rfl⟩ ⟨_, rfl, w⟩
set_option maxRecDepth 100000 in
set_option maxHeartbeats 4000000 in
theorem kL_routeLengthByPaths {a0 : Nat} {a1 : Int32} {a2 : Int32} {a3 : Nat} {h : AH} {K : Int32 → AH → Prop} (w : wL_routeLengthByPaths a0 a1 a2 a3 h K) : Cn mL_routeLengthByPaths (cwh mL_routeLengthByPaths) 19 3 18 [.ref a0, .int a1, .int a2, .ref a3] h (KI K) T0 := by
  refine CnH_of (by decide +kernel) (Nat.le_of_ble_eq_true rfl) ?_
  show X mL_routeLengthByPaths 19 (KI K) T0 3 18 0 [(0, .ref a0), (1, .int a1), (2, .int a2), (3, .ref a3)] [] h
  unfold wL_routeLengthByPaths at w
  refine X_aload_n (j := 3) (show decode cL_routeLengthByPaths 0 = .ok (.aload_n 3, 1) by decide +kernel) rfl rfl ?_
  refine X_iconst (v := (nI 0)) (show decode cL_routeLengthByPaths 1 = .ok (.iconst 0, 1) by decide +kernel) (by decide) ?_
  refine X_aload_n (j := 0) (show decode cL_routeLengthByPaths 2 = .ok (.aload_n 0, 1) by decide +kernel) rfl rfl ?_
  refine X_iload_n (j := 1) (show decode cL_routeLengthByPaths 3 = .ok (.iload_n 1, 1) by decide +kernel) rfl rfl ?_
  refine X_iload_n (j := 2) (show decode cL_routeLengthByPaths 4 = .ok (.iload_n 2, 1) by decide +kernel) rfl rfl ?_
  obtain ⟨s8, w⟩ := w
  refine X_vI (rc' := 0) (rs' := 0) (as := [.int _, .int _]) mv_L_72 (show decode cL_routeLengthByPaths 5 = .ok (.invokevirtual 72, 3) by decide +kernel) (by decide) (Nat.le_of_ble_eq_true rfl) (Nat.le_of_ble_eq_true rfl) rfl rfl (Nat.le_of_ble_eq_true rfl) (rcvD s8 (by decide) rfl) (kX9_routeLengthByPaths w) (fun E9 h7 hk => ?_) (fun r2 h1 w => ?_)
  · rcases hk with ⟨rfl, w⟩ | ⟨rfl, w⟩
    · skip
      refine XT_catch (name := "java/lang/IndexOutOfBoundsException") (i := 4) (j := 2) (ls' := []) [] (0, 10, 13, 21) [(0, 10, 17, 43)] rfl (fun z hz => absurd hz List.not_mem_nil) (by decide) (by decide) (gw_of (List.mem_of_getElem? (i := 1143) (by decide +kernel)) (by decide +kernel)) (List.mem_of_getElem? (i := 5) rfl) (Or.inr ⟨(show decode cL_routeLengthByPaths 13 = .ok (.astore 4, 2) by decide +kernel), rfl⟩) (Nat.le_of_ble_eq_true rfl) (fun q hq => absurd hq List.not_mem_nil) ?_
      refine X_iconst (v := (nI 1)) (show decode cL_routeLengthByPaths 15 = .ok (.iconst 1, 1) by decide +kernel) (by decide) ?_
      exact X_iret ⟨(show decode cL_routeLengthByPaths 16 = .ok (.ireturn, 1) by decide +kernel), .int, rfl, rfl⟩ ⟨_, rfl, w⟩
    · skip
      refine XT_catch (name := "java/util/NoSuchElementException") (i := 4) (j := 2) (ls' := []) [(0, 10, 13, 21)] (0, 10, 17, 43) [] rfl (by
            intro z hz
            simp only [List.mem_cons, List.not_mem_nil, or_false] at hz
            rcases hz with rfl
            · exact ⟨by decide, _, gw_of (List.mem_of_getElem? (i := 1143) (by decide +kernel)) (by decide +kernel), List.mem_of_getElem? (i := 28) rfl⟩
            ) (by decide) (by decide) (gw_of (List.mem_of_getElem? (i := 1245) (by decide +kernel)) (by decide +kernel)) (List.mem_of_getElem? (i := 8) rfl) (Or.inr ⟨(show decode cL_routeLengthByPaths 17 = .ok (.astore 4, 2) by decide +kernel), rfl⟩) (Nat.le_of_ble_eq_true rfl) (fun q hq => absurd hq List.not_mem_nil) ?_
      refine X_iconst (v := (nI 2)) (show decode cL_routeLengthByPaths 19 = .ok (.iconst 2, 1) by decide +kernel) (by decide) ?_
      exact X_iret ⟨(show decode cL_routeLengthByPaths 20 = .ok (.ireturn, 1) by decide +kernel), .int, rfl, rfl⟩ ⟨_, rfl, w⟩
  · skip
    refine X_i2l (show decode cL_routeLengthByPaths 8 = .ok (.i2l, 1) by decide +kernel) ?_
    obtain ⟨s3, w⟩ := w
    obtain ⟨s4, w⟩ := w
    obtain ⟨s5, w⟩ := w
    refine X_last (show decode cL_routeLengthByPaths 9 = .ok (.lastore, 1) by decide +kernel) (isA_eq s3) s4 s5 ?_
    have w := w _ rfl
    refine X_goto (tgt := 21) (show decode cL_routeLengthByPaths 10 = .ok (.goto 11, 3) by decide +kernel) (by decide) ?_
    refine X_iconst (v := (nI 0)) (show decode cL_routeLengthByPaths 21 = .ok (.iconst 0, 1) by decide +kernel) (by decide) ?_
    exact X_iret ⟨(show decode cL_routeLengthByPaths 22 = .ok (.ireturn, 1) by decide +kernel), .int, rfl, rfl⟩ ⟨_, rfl, w⟩
set_option maxRecDepth 100000 in
set_option maxHeartbeats 4000000 in
theorem kL_routeBlock {a0 : Nat} {a1 : Int32} {a2 : Int32} {a3 : Int32} {a4 : Nat} {h : AH} {K : Int32 → AH → Prop} (w : wL_routeBlock a0 a1 a2 a3 a4 h K) : Cn mL_routeBlock (cwh mL_routeBlock) 11 4 24 [.ref a0, .int a1, .int a2, .int a3, .ref a4] h (KI K) T0 := by
  refine CnH_of (by decide +kernel) (Nat.le_of_ble_eq_true rfl) ?_
  show X mL_routeBlock 11 (KI K) T0 4 24 0 [(0, .ref a0), (1, .int a1), (2, .int a2), (3, .int a3), (4, .ref a4)] [] h
  unfold wL_routeBlock at w
  refine X_aload (j := 4) (show decode cL_routeBlock 0 = .ok (.aload 4, 2) by decide +kernel) rfl ?_
  refine X_iconst (v := (nI 0)) (show decode cL_routeBlock 2 = .ok (.iconst 0, 1) by decide +kernel) (by decide) ?_
  refine X_aload_n (j := 0) (show decode cL_routeBlock 3 = .ok (.aload_n 0, 1) by decide +kernel) rfl rfl ?_
  refine X_iload_n (j := 1) (show decode cL_routeBlock 4 = .ok (.iload_n 1, 1) by decide +kernel) rfl rfl ?_
  refine X_iload_n (j := 2) (show decode cL_routeBlock 5 = .ok (.iload_n 2, 1) by decide +kernel) rfl rfl ?_
  refine X_iload_n (j := 3) (show decode cL_routeBlock 6 = .ok (.iload_n 3, 1) by decide +kernel) rfl rfl ?_
  obtain ⟨s8, w⟩ := w
  refine X_vI (rc' := 0) (rs' := 0) (as := [.int _, .int _, .int _]) mv_L_75 (show decode cL_routeBlock 7 = .ok (.invokevirtual 75, 3) by decide +kernel) (by decide) (Nat.le_of_ble_eq_true rfl) (Nat.le_of_ble_eq_true rfl) rfl rfl (Nat.le_of_ble_eq_true rfl) (rcvD s8 (by decide) rfl) (kX9_routeBlock w) (fun E9 h7 hk => ?_) (fun r2 h1 w => ?_)
  · rcases hk with ⟨rfl, w⟩ | ⟨rfl, w⟩
    · skip
      refine XT_catch (name := "java/lang/IndexOutOfBoundsException") (i := 5) (j := 2) (ls' := []) [] (0, 12, 15, 21) [(0, 12, 19, 43)] rfl (fun z hz => absurd hz List.not_mem_nil) (by decide) (by decide) (gw_of (List.mem_of_getElem? (i := 1143) (by decide +kernel)) (by decide +kernel)) (List.mem_of_getElem? (i := 5) rfl) (Or.inr ⟨(show decode cL_routeBlock 15 = .ok (.astore 5, 2) by decide +kernel), rfl⟩) (Nat.le_of_ble_eq_true rfl) (fun q hq => absurd hq List.not_mem_nil) ?_
      refine X_iconst (v := (nI 1)) (show decode cL_routeBlock 17 = .ok (.iconst 1, 1) by decide +kernel) (by decide) ?_
      exact X_iret ⟨(show decode cL_routeBlock 18 = .ok (.ireturn, 1) by decide +kernel), .int, rfl, rfl⟩ ⟨_, rfl, w⟩
    · skip
      refine XT_catch (name := "java/util/NoSuchElementException") (i := 5) (j := 2) (ls' := []) [(0, 12, 15, 21)] (0, 12, 19, 43) [] rfl (by
            intro z hz
            simp only [List.mem_cons, List.not_mem_nil, or_false] at hz
            rcases hz with rfl
            · exact ⟨by decide, _, gw_of (List.mem_of_getElem? (i := 1143) (by decide +kernel)) (by decide +kernel), List.mem_of_getElem? (i := 28) rfl⟩
            ) (by decide) (by decide) (gw_of (List.mem_of_getElem? (i := 1245) (by decide +kernel)) (by decide +kernel)) (List.mem_of_getElem? (i := 8) rfl) (Or.inr ⟨(show decode cL_routeBlock 19 = .ok (.astore 5, 2) by decide +kernel), rfl⟩) (Nat.le_of_ble_eq_true rfl) (fun q hq => absurd hq List.not_mem_nil) ?_
      refine X_iconst (v := (nI 2)) (show decode cL_routeBlock 21 = .ok (.iconst 2, 1) by decide +kernel) (by decide) ?_
      exact X_iret ⟨(show decode cL_routeBlock 22 = .ok (.ireturn, 1) by decide +kernel), .int, rfl, rfl⟩ ⟨_, rfl, w⟩
  · skip
    refine X_i2l (show decode cL_routeBlock 10 = .ok (.i2l, 1) by decide +kernel) ?_
    obtain ⟨s3, w⟩ := w
    obtain ⟨s4, w⟩ := w
    obtain ⟨s5, w⟩ := w
    refine X_last (show decode cL_routeBlock 11 = .ok (.lastore, 1) by decide +kernel) (isA_eq s3) s4 s5 ?_
    have w := w _ rfl
    refine X_goto (tgt := 23) (show decode cL_routeBlock 12 = .ok (.goto 11, 3) by decide +kernel) (by decide) ?_
    refine X_iconst (v := (nI 0)) (show decode cL_routeBlock 23 = .ok (.iconst 0, 1) by decide +kernel) (by decide) ?_
    exact X_iret ⟨(show decode cL_routeBlock 24 = .ok (.ireturn, 1) by decide +kernel), .int, rfl, rfl⟩ ⟨_, rfl, w⟩
