set_option maxRecDepth 100000 in
set_option maxHeartbeats 4000000 in
theorem kL_runs_L2 {K : Int32 → AH → Prop}    : ∀ (n : Nat) (b : Nat) (x0 : Nat) (x1 : Nat) (x2 : Int32) (h : AH), wL_runs_L2 K   n b x0 x1 x2 h → X mL_runs 12 (KI K) T0 (b * 1 + 1) (b * 6 + 6) 2 [(0, .ref x0), (1, .ref x1), (2, .int x2)] [] h := by
  intro n
  induction n with
  | zero => intro _ _ _ _ _ w; exact w.elim
  | succ n ih =>
    intro b x0 x1 x2 h w
    rw [wL_runs_L2] at w
    refine X_iload_n (j := 2) (show decode cL_runs 2 = .ok (.iload_n 2, 1) by decide +kernel) rfl rfl ?_
    refine X_aload_n (j := 1) (show decode cL_runs 3 = .ok (.aload_n 1, 1) by decide +kernel) rfl rfl ?_
    obtain ⟨s13, w⟩ := w
    refine X_vI (rc' := (b * 1 + 1)) (rs' := (b * 6 + 6)) (as := []) mv_L_168U (show decode cL_runs 4 = .ok (.invokevirtual 168, 3) by decide +kernel) (by decide) (by omega) (by omega) rfl rfl (Nat.le_of_ble_eq_true rfl) (rcvSt s13) (kJ0U_length w) (fun E h hk => hk.elim) (fun r2 h1 w => ?_)
    refine X_icmp_ge (tgt := 26) (show decode cL_runs 7 = .ok (.if_icmp .ge 19, 3) by decide +kernel) (by decide) ⟨fun c3 => ?_, fun c3 => ?_⟩
    · have w := w.1 c3
      refine X_aload_n (j := 0) (show decode cL_runs 26 = .ok (.aload_n 0, 1) by decide +kernel) rfl rfl ?_
      obtain ⟨s4, w⟩ := w
      refine X_room (rc' := ((b - 1) * 1 + 2)) (rs' := ((b - 1) * 6 + 12)) (by omega) (by omega) ?_
      refine X_sH (rc' := ((b - 1) * 1 + 1)) (rs' := ((b - 1) * 6 + 6)) (as := [.ref _]) msh_L_177 (show decode cL_runs 27 = .ok (.invokestatic 177, 3) by decide +kernel) (by decide) (by omega) (by omega) rfl rfl (Nat.le_of_ble_eq_true rfl) (kL_run w) (fun r6 h5 w => ?_)
      exact X_iret ⟨(show decode cL_runs 30 = .ok (.ireturn, 1) by decide +kernel), .int, rfl, rfl⟩ ⟨_, rfl, w⟩
    · have w := w.2 c3
      refine X_aload_n (j := 0) (show decode cL_runs 10 = .ok (.aload_n 0, 1) by decide +kernel) rfl rfl ?_
      refine X_aload_n (j := 1) (show decode cL_runs 11 = .ok (.aload_n 1, 1) by decide +kernel) rfl rfl ?_
      refine X_iload_n (j := 2) (show decode cL_runs 12 = .ok (.iload_n 2, 1) by decide +kernel) rfl rfl ?_
      obtain ⟨s12, w⟩ := w
      refine X_vI (rc' := (b * 1 + 1)) (rs' := (b * 6 + 6)) (as := [.int _]) mv_L_173U (show decode cL_runs 13 = .ok (.invokevirtual 173, 3) by decide +kernel) (by decide) (by omega) (by omega) rfl rfl (Nat.le_of_ble_eq_true rfl) (rcvSt s12) (kJ0U_charAt w) (fun E h hk => hk.elim) (fun r8 h7 w => ?_)
      obtain ⟨s9, w⟩ := w
      refine X_room (rc' := ((b - 1) * 1 + 2)) (rs' := ((b - 1) * 6 + 12)) (by omega) (by omega) ?_
      refine X_sH (rc' := ((b - 1) * 1 + 1)) (rs' := ((b - 1) * 6 + 6)) (as := [.ref _, .int _]) msh_L_174 (show decode cL_runs 16 = .ok (.invokestatic 174, 3) by decide +kernel) (by decide) (by omega) (by omega) rfl rfl (Nat.le_of_ble_eq_true rfl) (kL_type w) (fun r11 h10 w => ?_)
      refine X_istore_n (ls' := [(0, .ref _), (1, .ref _), (2, .int _), (3, .int _)]) (show decode cL_runs 19 = .ok (.istore_n 3, 1) by decide +kernel) rfl (by decide) rfl ?_
      refine X_iinc (j := 2) (v := _ + (nI 1)) (ls' := [(0, .ref _), (1, .ref _), (2, .int _), (3, .int _)]) (show decode cL_runs 20 = .ok (.iinc 2 1, 3) by decide +kernel) rfl rfl (Nat.le_of_ble_eq_true rfl) rfl ?_
      refine X_goto (tgt := 2) (show decode cL_runs 23 = .ok (.goto (-21), 3) by decide +kernel) (by decide) ?_
      refine X_pick (ls' := [(0, .ref _), (1, .ref _), (2, .int _)]) [0, 1, 2] rfl ?_
      exact ih (b - 1) _ _ _ _ w
set_option maxRecDepth 100000 in
set_option maxHeartbeats 4000000 in
theorem kL_runs {a0 : Nat} {a1 : Nat} {h : AH} {K : Int32 → AH → Prop} (w : wL_runs a0 a1 h K) : Cn mL_runs (cwd mL_runs) 12 16 96 [.ref a0, .ref a1] h (KI K) T0 := by
  refine Cn_of (by decide +kernel) rfl (Nat.le_of_ble_eq_true rfl) ?_
  show X mL_runs 12 (KI K) T0 16 96 0 [(0, .ref a0), (1, .ref a1)] [] h
  unfold wL_runs at w
  refine X_iconst (v := (nI 0)) (show decode cL_runs 0 = .ok (.iconst 0, 1) by decide +kernel) (by decide) ?_
  refine X_istore_n (ls' := [(0, .ref _), (1, .ref _), (2, .int _)]) (show decode cL_runs 1 = .ok (.istore_n 2, 1) by decide +kernel) rfl (by decide) rfl ?_
  obtain ⟨n14, bn14, hbn14, w⟩ := w
  refine X_room (rc' := bn14 * 1 + 1) (rs' := bn14 * 6 + 6) (by omega) (by omega) ?_
  exact kL_runs_L2  n14 bn14 _ _ _ _ w
set_option maxRecDepth 100000 in
set_option maxHeartbeats 4000000 in
theorem kL_sum_L27 {K : Int64 → AH → Prop} {c102 : Nat → Int64 → AH → Prop} (hc102 : ∀ x0 x1 h, c102 x0 x1 h → X mL_sum 20 (KL K) T0 117 702 102 [(0, .ref x0), (1, .long x1)] [] h)  : ∀ (n : Nat) (b : Nat) (x0 : Nat) (x1 : Int64) (x3 : Int32) (h : AH), wL_sum_L27 K c102  n b x0 x1 x3 h → X mL_sum 20 (KL K) T0 (b * 8 + 117) (b * 48 + 702) 27 [(0, .ref x0), (1, .long x1), (3, .int x3)] [] h := by
  intro n
  induction n with
  | zero => intro _ _ _ _ _ w; exact w.elim
  | succ n ih =>
    intro b x0 x1 x3 h w
    rw [wL_sum_L27] at w
    refine X_iload_n (j := 2) (show decode cL_sum 27 = .ok (.iload_n 3, 1) by decide +kernel) rfl rfl ?_
    refine X_aload_n (j := 0) (show decode cL_sum 28 = .ok (.aload_n 0, 1) by decide +kernel) rfl rfl ?_
    obtain ⟨s21, w⟩ := w
    refine X_vI (rc' := (b * 8 + 117)) (rs' := (b * 48 + 702)) (as := []) mv_L_196 (show decode cL_sum 29 = .ok (.invokevirtual 196, 3) by decide +kernel) (by decide) (by omega) (by omega) rfl rfl (Nat.le_of_ble_eq_true rfl) (rcvD s21 (by decide) rfl) (kX9_blocks w) (fun E h hk => hk.elim) (fun r8 h7 w => ?_)
    refine X_icmp_ge (tgt := 102) (show decode cL_sum 32 = .ok (.if_icmp .ge 70, 3) by decide +kernel) (by decide) ⟨fun c9 => ?_, fun c9 => ?_⟩
    · have w := w.1 c9
      refine X_room (rc' := 117) (rs' := 702) (by omega) (by omega) ?_
      refine X_pick (ls' := [(0, .ref _), (1, .long _)]) [0, 1] rfl ?_
      exact hc102 _ _ _ w
    · have w := w.2 c9
      refine X_ldc2 (v := 31) (show decode cL_sum 35 = .ok (.ldc2_w 309, 3) by decide +kernel) gcl_L_309 ?_
      refine X_lload_n (j := 1) (show decode cL_sum 38 = .ok (.lload_n 1, 1) by decide +kernel) rfl rfl ?_
      refine X_lmul (show decode cL_sum 39 = .ok (.lmul, 1) by decide +kernel) ?_
      refine X_ldc2 (v := 1009) (show decode cL_sum 40 = .ok (.ldc2_w 305, 3) by decide +kernel) gcl_L_305 ?_
      refine X_aload_n (j := 0) (show decode cL_sum 43 = .ok (.aload_n 0, 1) by decide +kernel) rfl rfl ?_
      refine X_iload_n (j := 2) (show decode cL_sum 44 = .ok (.iload_n 3, 1) by decide +kernel) rfl rfl ?_
      obtain ⟨s10, w⟩ := w
      refine X_room (rc' := ((b - 1) * 8 + 125)) (rs' := ((b - 1) * 48 + 750)) (by omega) (by omega) ?_
      refine X_sH (rc' := ((b - 1) * 8 + 124)) (rs' := ((b - 1) * 48 + 744)) (as := [.ref _, .int _]) msh_L_245 (show decode cL_sum 45 = .ok (.invokestatic 245, 3) by decide +kernel) (by decide) (by omega) (by omega) rfl rfl (Nat.le_of_ble_eq_true rfl) (kL_blockState w) (fun r12 h11 w => ?_)
      refine X_i2l (show decode cL_sum 48 = .ok (.i2l, 1) by decide +kernel) ?_
      refine X_lmul (show decode cL_sum 49 = .ok (.lmul, 1) by decide +kernel) ?_
      refine X_ladd (show decode cL_sum 50 = .ok (.ladd, 1) by decide +kernel) ?_
      refine X_ldc2 (v := 31) (show decode cL_sum 51 = .ok (.ldc2_w 309, 3) by decide +kernel) gcl_L_309 ?_
      refine X_aload_n (j := 0) (show decode cL_sum 54 = .ok (.aload_n 0, 1) by decide +kernel) rfl rfl ?_
      refine X_iload_n (j := 2) (show decode cL_sum 55 = .ok (.iload_n 3, 1) by decide +kernel) rfl rfl ?_
      refine X_sH (rc' := ((b - 1) * 8 + 122)) (rs' := ((b - 1) * 48 + 732)) (as := [.ref _, .int _]) msh_L_311 (show decode cL_sum 56 = .ok (.invokestatic 311, 3) by decide +kernel) (by decide) (by omega) (by omega) rfl rfl (Nat.le_of_ble_eq_true rfl) (kL_trainAt w) (fun r14 h13 w => ?_)
      refine X_i2l (show decode cL_sum 59 = .ok (.i2l, 1) by decide +kernel) ?_
      refine X_lmul (show decode cL_sum 60 = .ok (.lmul, 1) by decide +kernel) ?_
      refine X_ladd (show decode cL_sum 61 = .ok (.ladd, 1) by decide +kernel) ?_
      refine X_aload_n (j := 0) (show decode cL_sum 62 = .ok (.aload_n 0, 1) by decide +kernel) rfl rfl ?_
      refine X_iload_n (j := 2) (show decode cL_sum 63 = .ok (.iload_n 3, 1) by decide +kernel) rfl rfl ?_
      refine X_sH (rc' := ((b - 1) * 8 + 121)) (rs' := ((b - 1) * 48 + 726)) (as := [.ref _, .int _]) msh_L_313 (show decode cL_sum 64 = .ok (.invokestatic 313, 3) by decide +kernel) (by decide) (by omega) (by omega) rfl rfl (Nat.le_of_ble_eq_true rfl) (kL_blockLength w) (fun r16 h15 w => ?_)
      refine X_i2l (show decode cL_sum 67 = .ok (.i2l, 1) by decide +kernel) ?_
      refine X_ladd (show decode cL_sum 68 = .ok (.ladd, 1) by decide +kernel) ?_
      refine X_lstore_n (ls' := [(0, .ref _), (1, .long _), (3, .int _)]) (show decode cL_sum 69 = .ok (.lstore_n 1, 1) by decide +kernel) rfl (by decide) rfl ?_
      refine X_ldc2 (v := 31) (show decode cL_sum 70 = .ok (.ldc2_w 309, 3) by decide +kernel) gcl_L_309 ?_
      refine X_lload_n (j := 1) (show decode cL_sum 73 = .ok (.lload_n 1, 1) by decide +kernel) rfl rfl ?_
      refine X_lmul (show decode cL_sum 74 = .ok (.lmul, 1) by decide +kernel) ?_
      refine X_aload_n (j := 0) (show decode cL_sum 75 = .ok (.aload_n 0, 1) by decide +kernel) rfl rfl ?_
      refine X_iload_n (j := 2) (show decode cL_sum 76 = .ok (.iload_n 3, 1) by decide +kernel) rfl rfl ?_
      refine X_iconst (v := (nI 0)) (show decode cL_sum 77 = .ok (.iconst 0, 1) by decide +kernel) (by decide) ?_
      refine X_sH (rc' := ((b - 1) * 8 + 119)) (rs' := ((b - 1) * 48 + 714)) (as := [.ref _, .int _, .int _]) msh_L_315 (show decode cL_sum 78 = .ok (.invokestatic 315, 3) by decide +kernel) (by decide) (by omega) (by omega) rfl rfl (Nat.le_of_ble_eq_true rfl) (kL_paths w) (fun r18 h17 w => ?_)
      refine X_i2l (show decode cL_sum 81 = .ok (.i2l, 1) by decide +kernel) ?_
      refine X_ladd (show decode cL_sum 82 = .ok (.ladd, 1) by decide +kernel) ?_
      refine X_ldc2 (v := 7) (show decode cL_sum 83 = .ok (.ldc2_w 317, 3) by decide +kernel) gcl_L_317 ?_
      refine X_aload_n (j := 0) (show decode cL_sum 86 = .ok (.aload_n 0, 1) by decide +kernel) rfl rfl ?_
      refine X_iconst (v := (nI 0)) (show decode cL_sum 87 = .ok (.iconst 0, 1) by decide +kernel) (by decide) ?_
      refine X_iload_n (j := 2) (show decode cL_sum 88 = .ok (.iload_n 3, 1) by decide +kernel) rfl rfl ?_
      refine X_sH (rc' := ((b - 1) * 8 + 117)) (rs' := ((b - 1) * 48 + 702)) (as := [.ref _, .int _, .int _]) msh_L_315 (show decode cL_sum 89 = .ok (.invokestatic 315, 3) by decide +kernel) (by decide) (by omega) (by omega) rfl rfl (Nat.le_of_ble_eq_true rfl) (kL_paths w) (fun r20 h19 w => ?_)
      refine X_i2l (show decode cL_sum 92 = .ok (.i2l, 1) by decide +kernel) ?_
      refine X_lmul (show decode cL_sum 93 = .ok (.lmul, 1) by decide +kernel) ?_
      refine X_ladd (show decode cL_sum 94 = .ok (.ladd, 1) by decide +kernel) ?_
      refine X_lstore_n (ls' := [(0, .ref _), (1, .long _), (3, .int _)]) (show decode cL_sum 95 = .ok (.lstore_n 1, 1) by decide +kernel) rfl (by decide) rfl ?_
      refine X_iinc (j := 2) (v := _ + (nI 1)) (ls' := [(0, .ref _), (1, .long _), (3, .int _)]) (show decode cL_sum 96 = .ok (.iinc 3 1, 3) by decide +kernel) rfl rfl (Nat.le_of_ble_eq_true rfl) rfl ?_
      refine X_goto (tgt := 27) (show decode cL_sum 99 = .ok (.goto (-72), 3) by decide +kernel) (by decide) ?_
      exact ih (b - 1) _ _ _ _ w
set_option maxRecDepth 100000 in
set_option maxHeartbeats 4000000 in
theorem kL_sum_L104 {K : Int64 → AH → Prop} {c140 : Nat → Int64 → AH → Prop} (hc140 : ∀ x0 x1 h, c140 x0 x1 h → X mL_sum 20 (KL K) T0 93 558 140 [(0, .ref x0), (1, .long x1)] [] h)  : ∀ (n : Nat) (b : Nat) (x0 : Nat) (x1 : Int64) (x3 : Int32) (h : AH), wL_sum_L104 K c140  n b x0 x1 x3 h → X mL_sum 20 (KL K) T0 (b * 3 + 93) (b * 18 + 558) 104 [(0, .ref x0), (1, .long x1), (3, .int x3)] [] h := by
  intro n
  induction n with
  | zero => intro _ _ _ _ _ w; exact w.elim
  | succ n ih =>
    intro b x0 x1 x3 h w
    rw [wL_sum_L104] at w
    refine X_iload_n (j := 2) (show decode cL_sum 104 = .ok (.iload_n 3, 1) by decide +kernel) rfl rfl ?_
    refine X_bipush (v := (nI 8)) (show decode cL_sum 105 = .ok (.bipush 8, 2) by decide +kernel) (by decide) ?_
    refine X_icmp_ge (tgt := 140) (show decode cL_sum 107 = .ok (.if_icmp .ge 33, 3) by decide +kernel) (by decide) ⟨fun c25 => ?_, fun c25 => ?_⟩
    · have w := w.1 c25
      refine X_room (rc' := 93) (rs' := 558) (by omega) (by omega) ?_
      refine X_pick (ls' := [(0, .ref _), (1, .long _)]) [0, 1] rfl ?_
      exact hc140 _ _ _ w
    · have w := w.2 c25
      refine X_ldc2 (v := 31) (show decode cL_sum 110 = .ok (.ldc2_w 309, 3) by decide +kernel) gcl_L_309 ?_
      refine X_lload_n (j := 1) (show decode cL_sum 113 = .ok (.lload_n 1, 1) by decide +kernel) rfl rfl ?_
      refine X_lmul (show decode cL_sum 114 = .ok (.lmul, 1) by decide +kernel) ?_
      refine X_ldc2 (v := 101) (show decode cL_sum 115 = .ok (.ldc2_w 307, 3) by decide +kernel) gcl_L_307 ?_
      refine X_aload_n (j := 0) (show decode cL_sum 118 = .ok (.aload_n 0, 1) by decide +kernel) rfl rfl ?_
      refine X_iload_n (j := 2) (show decode cL_sum 119 = .ok (.iload_n 3, 1) by decide +kernel) rfl rfl ?_
      obtain ⟨s26, w⟩ := w
      refine X_room (rc' := ((b - 1) * 3 + 96)) (rs' := ((b - 1) * 18 + 576)) (by omega) (by omega) ?_
      refine X_sH (rc' := ((b - 1) * 3 + 95)) (rs' := ((b - 1) * 18 + 570)) (as := [.ref _, .int _]) msh_L_319 (show decode cL_sum 120 = .ok (.invokestatic 319, 3) by decide +kernel) (by decide) (by omega) (by omega) rfl rfl (Nat.le_of_ble_eq_true rfl) (kL_liesLeft w) (fun r28 h27 w => ?_)
      refine X_i2l (show decode cL_sum 123 = .ok (.i2l, 1) by decide +kernel) ?_
      refine X_lmul (show decode cL_sum 124 = .ok (.lmul, 1) by decide +kernel) ?_
      refine X_ladd (show decode cL_sum 125 = .ok (.ladd, 1) by decide +kernel) ?_
      refine X_aload_n (j := 0) (show decode cL_sum 126 = .ok (.aload_n 0, 1) by decide +kernel) rfl rfl ?_
      refine X_iload_n (j := 2) (show decode cL_sum 127 = .ok (.iload_n 3, 1) by decide +kernel) rfl rfl ?_
      refine X_sH (rc' := ((b - 1) * 3 + 93)) (rs' := ((b - 1) * 18 + 558)) (as := [.ref _, .int _]) msh_L_321 (show decode cL_sum 128 = .ok (.invokestatic 321, 3) by decide +kernel) (by decide) (by omega) (by omega) rfl rfl (Nat.le_of_ble_eq_true rfl) (kL_lockedBy w) (fun r30 h29 w => ?_)
      refine X_i2l (show decode cL_sum 131 = .ok (.i2l, 1) by decide +kernel) ?_
      refine X_ladd (show decode cL_sum 132 = .ok (.ladd, 1) by decide +kernel) ?_
      refine X_lstore_n (ls' := [(0, .ref _), (1, .long _), (3, .int _)]) (show decode cL_sum 133 = .ok (.lstore_n 1, 1) by decide +kernel) rfl (by decide) rfl ?_
      refine X_iinc (j := 2) (v := _ + (nI 1)) (ls' := [(0, .ref _), (1, .long _), (3, .int _)]) (show decode cL_sum 134 = .ok (.iinc 3 1, 3) by decide +kernel) rfl rfl (Nat.le_of_ble_eq_true rfl) rfl ?_
      refine X_goto (tgt := 104) (show decode cL_sum 137 = .ok (.goto (-33), 3) by decide +kernel) (by decide) ?_
      exact ih (b - 1) _ _ _ _ w
set_option maxRecDepth 100000 in
set_option maxHeartbeats 4000000 in
theorem kL_sum_L142 {K : Int64 → AH → Prop} {c213 : Nat → Int64 → AH → Prop} (hc213 : ∀ x0 x1 h, c213 x0 x1 h → X mL_sum 20 (KL K) T0 9 54 213 [(0, .ref x0), (1, .long x1)] [] h)  : ∀ (n : Nat) (b : Nat) (x0 : Nat) (x1 : Int64) (x3 : Int32) (h : AH), wL_sum_L142 K c213  n b x0 x1 x3 h → X mL_sum 20 (KL K) T0 (b * 7 + 9) (b * 42 + 54) 142 [(0, .ref x0), (1, .long x1), (3, .int x3)] [] h := by
  intro n
  induction n with
  | zero => intro _ _ _ _ _ w; exact w.elim
  | succ n ih =>
    intro b x0 x1 x3 h w
    rw [wL_sum_L142] at w
    refine X_iload_n (j := 2) (show decode cL_sum 142 = .ok (.iload_n 3, 1) by decide +kernel) rfl rfl ?_
    refine X_aload_n (j := 0) (show decode cL_sum 143 = .ok (.aload_n 0, 1) by decide +kernel) rfl rfl ?_
    obtain ⟨s48, w⟩ := w
    refine X_vI (rc' := (b * 7 + 9)) (rs' := (b * 42 + 54)) (as := []) mv_L_196 (show decode cL_sum 144 = .ok (.invokevirtual 196, 3) by decide +kernel) (by decide) (by omega) (by omega) rfl rfl (Nat.le_of_ble_eq_true rfl) (rcvD s48 (by decide) rfl) (kX9_blocks w) (fun E h hk => hk.elim) (fun r35 h34 w => ?_)
    refine X_icmp_ge (tgt := 213) (show decode cL_sum 147 = .ok (.if_icmp .ge 66, 3) by decide +kernel) (by decide) ⟨fun c36 => ?_, fun c36 => ?_⟩
    · have w := w.1 c36
      refine X_room (rc' := 9) (rs' := 54) (by omega) (by omega) ?_
      refine X_pick (ls' := [(0, .ref _), (1, .long _)]) [0, 1] rfl ?_
      exact hc213 _ _ _ w
    · have w := w.2 c36
      refine X_aload_n (j := 0) (show decode cL_sum 150 = .ok (.aload_n 0, 1) by decide +kernel) rfl rfl ?_
      refine X_iload_n (j := 2) (show decode cL_sum 151 = .ok (.iload_n 3, 1) by decide +kernel) rfl rfl ?_
      obtain ⟨s37, w⟩ := w
      refine X_room (rc' := ((b - 1) * 7 + 16)) (rs' := ((b - 1) * 42 + 96)) (by omega) (by omega) ?_
      refine X_sH (rc' := ((b - 1) * 7 + 14)) (rs' := ((b - 1) * 42 + 84)) (as := [.ref _, .int _]) msh_L_311 (show decode cL_sum 152 = .ok (.invokestatic 311, 3) by decide +kernel) (by decide) (by omega) (by omega) rfl rfl (Nat.le_of_ble_eq_true rfl) (kL_trainAt w) (fun r39 h38 w => ?_)
      refine X_istore (ls' := [(0, .ref _), (1, .long _), (3, .int _), (4, .int _)]) (show decode cL_sum 155 = .ok (.istore 4, 2) by decide +kernel) (by decide) rfl ?_
      refine X_ldc2 (v := 31) (show decode cL_sum 157 = .ok (.ldc2_w 309, 3) by decide +kernel) gcl_L_309 ?_
      refine X_lload_n (j := 1) (show decode cL_sum 160 = .ok (.lload_n 1, 1) by decide +kernel) rfl rfl ?_
      refine X_lmul (show decode cL_sum 161 = .ok (.lmul, 1) by decide +kernel) ?_
      refine X_ldc2 (v := 1009) (show decode cL_sum 162 = .ok (.ldc2_w 305, 3) by decide +kernel) gcl_L_305 ?_
      refine X_aload_n (j := 0) (show decode cL_sum 165 = .ok (.aload_n 0, 1) by decide +kernel) rfl rfl ?_
      refine X_iload (j := 3) (show decode cL_sum 166 = .ok (.iload 4, 2) by decide +kernel) rfl ?_
      refine X_sH (rc' := ((b - 1) * 7 + 13)) (rs' := ((b - 1) * 42 + 78)) (as := [.ref _, .int _]) msh_L_227 (show decode cL_sum 168 = .ok (.invokestatic 227, 3) by decide +kernel) (by decide) (by omega) (by omega) rfl rfl (Nat.le_of_ble_eq_true rfl) (kL_blockOf w) (fun r41 h40 w => ?_)
      refine X_i2l (show decode cL_sum 171 = .ok (.i2l, 1) by decide +kernel) ?_
      refine X_lmul (show decode cL_sum 172 = .ok (.lmul, 1) by decide +kernel) ?_
      refine X_ladd (show decode cL_sum 173 = .ok (.ladd, 1) by decide +kernel) ?_
      refine X_ldc2 (v := 101) (show decode cL_sum 174 = .ok (.ldc2_w 307, 3) by decide +kernel) gcl_L_307 ?_
      refine X_aload_n (j := 0) (show decode cL_sum 177 = .ok (.aload_n 0, 1) by decide +kernel) rfl rfl ?_
      refine X_iload (j := 3) (show decode cL_sum 178 = .ok (.iload 4, 2) by decide +kernel) rfl ?_
      refine X_sH (rc' := ((b - 1) * 7 + 12)) (rs' := ((b - 1) * 42 + 72)) (as := [.ref _, .int _]) msh_L_229 (show decode cL_sum 180 = .ok (.invokestatic 229, 3) by decide +kernel) (by decide) (by omega) (by omega) rfl rfl (Nat.le_of_ble_eq_true rfl) (kL_destination w) (fun r43 h42 w => ?_)
      refine X_i2l (show decode cL_sum 183 = .ok (.i2l, 1) by decide +kernel) ?_
      refine X_lmul (show decode cL_sum 184 = .ok (.lmul, 1) by decide +kernel) ?_
      refine X_ladd (show decode cL_sum 185 = .ok (.ladd, 1) by decide +kernel) ?_
      refine X_ldc2 (v := 31) (show decode cL_sum 186 = .ok (.ldc2_w 309, 3) by decide +kernel) gcl_L_309 ?_
      refine X_aload_n (j := 0) (show decode cL_sum 189 = .ok (.aload_n 0, 1) by decide +kernel) rfl rfl ?_
      refine X_iload (j := 3) (show decode cL_sum 190 = .ok (.iload 4, 2) by decide +kernel) rfl ?_
      refine X_sH (rc' := ((b - 1) * 7 + 11)) (rs' := ((b - 1) * 42 + 66)) (as := [.ref _, .int _]) msh_L_243 (show decode cL_sum 192 = .ok (.invokestatic 243, 3) by decide +kernel) (by decide) (by omega) (by omega) rfl rfl (Nat.le_of_ble_eq_true rfl) (kL_delay w) (fun r45 h44 w => ?_)
      refine X_i2l (show decode cL_sum 195 = .ok (.i2l, 1) by decide +kernel) ?_
      refine X_lmul (show decode cL_sum 196 = .ok (.lmul, 1) by decide +kernel) ?_
      refine X_ladd (show decode cL_sum 197 = .ok (.ladd, 1) by decide +kernel) ?_
      refine X_aload_n (j := 0) (show decode cL_sum 198 = .ok (.aload_n 0, 1) by decide +kernel) rfl rfl ?_
      refine X_iload (j := 3) (show decode cL_sum 199 = .ok (.iload 4, 2) by decide +kernel) rfl ?_
      refine X_sH (rc' := ((b - 1) * 7 + 9)) (rs' := ((b - 1) * 42 + 54)) (as := [.ref _, .int _]) msh_L_207 (show decode cL_sum 201 = .ok (.invokestatic 207, 3) by decide +kernel) (by decide) (by omega) (by omega) rfl rfl (Nat.le_of_ble_eq_true rfl) (kL_minutesUntilArrival w) (fun r47 h46 w => ?_)
      refine X_i2l (show decode cL_sum 204 = .ok (.i2l, 1) by decide +kernel) ?_
      refine X_ladd (show decode cL_sum 205 = .ok (.ladd, 1) by decide +kernel) ?_
      refine X_lstore_n (ls' := [(0, .ref _), (1, .long _), (3, .int _), (4, .int _)]) (show decode cL_sum 206 = .ok (.lstore_n 1, 1) by decide +kernel) rfl (by decide) rfl ?_
      refine X_iinc (j := 2) (v := _ + (nI 1)) (ls' := [(0, .ref _), (1, .long _), (3, .int _), (4, .int _)]) (show decode cL_sum 207 = .ok (.iinc 3 1, 3) by decide +kernel) rfl rfl (Nat.le_of_ble_eq_true rfl) rfl ?_
      refine X_goto (tgt := 142) (show decode cL_sum 210 = .ok (.goto (-68), 3) by decide +kernel) (by decide) ?_
      refine X_pick (ls' := [(0, .ref _), (1, .long _), (3, .int _)]) [0, 1, 2] rfl ?_
      exact ih (b - 1) _ _ _ _ w
set_option maxRecDepth 100000 in
set_option maxHeartbeats 4000000 in
theorem kL_sum_L215 {K : Int64 → AH → Prop}    : ∀ (n : Nat) (b : Nat) (x0 : Nat) (x1 : Int64) (x3 : Int32) (h : AH), wL_sum_L215 K   n b x0 x1 x3 h → X mL_sum 20 (KL K) T0 (b * 1 + 1) (b * 6 + 6) 215 [(0, .ref x0), (1, .long x1), (3, .int x3)] [] h := by
  intro n
  induction n with
  | zero => intro _ _ _ _ _ w; exact w.elim
  | succ n ih =>
    intro b x0 x1 x3 h w
    rw [wL_sum_L215] at w
    refine X_iload_n (j := 2) (show decode cL_sum 215 = .ok (.iload_n 3, 1) by decide +kernel) rfl rfl ?_
    refine X_bipush (v := (nI 8)) (show decode cL_sum 216 = .ok (.bipush 8, 2) by decide +kernel) (by decide) ?_
    refine X_icmp_ge (tgt := 240) (show decode cL_sum 218 = .ok (.if_icmp .ge 22, 3) by decide +kernel) (by decide) ⟨fun c52 => ?_, fun c52 => ?_⟩
    · have w := w.1 c52
      refine X_lload_n (j := 1) (show decode cL_sum 240 = .ok (.lload_n 1, 1) by decide +kernel) rfl rfl ?_
      exact X_lret ⟨(show decode cL_sum 241 = .ok (.lreturn, 1) by decide +kernel), rfl⟩ ⟨_, rfl, w⟩
    · have w := w.2 c52
      refine X_ldc2 (v := 31) (show decode cL_sum 221 = .ok (.ldc2_w 309, 3) by decide +kernel) gcl_L_309 ?_
      refine X_lload_n (j := 1) (show decode cL_sum 224 = .ok (.lload_n 1, 1) by decide +kernel) rfl rfl ?_
      refine X_lmul (show decode cL_sum 225 = .ok (.lmul, 1) by decide +kernel) ?_
      refine X_aload_n (j := 0) (show decode cL_sum 226 = .ok (.aload_n 0, 1) by decide +kernel) rfl rfl ?_
      refine X_iload_n (j := 2) (show decode cL_sum 227 = .ok (.iload_n 3, 1) by decide +kernel) rfl rfl ?_
      obtain ⟨s53, w⟩ := w
      refine X_room (rc' := ((b - 1) * 1 + 2)) (rs' := ((b - 1) * 6 + 12)) (by omega) (by omega) ?_
      refine X_sH (rc' := ((b - 1) * 1 + 1)) (rs' := ((b - 1) * 6 + 6)) (as := [.ref _, .int _]) msh_L_241 (show decode cL_sum 228 = .ok (.invokestatic 241, 3) by decide +kernel) (by decide) (by omega) (by omega) rfl rfl (Nat.le_of_ble_eq_true rfl) (kL_queued w) (fun r55 h54 w => ?_)
      refine X_i2l (show decode cL_sum 231 = .ok (.i2l, 1) by decide +kernel) ?_
      refine X_ladd (show decode cL_sum 232 = .ok (.ladd, 1) by decide +kernel) ?_
      refine X_lstore_n (ls' := [(0, .ref _), (1, .long _), (3, .int _)]) (show decode cL_sum 233 = .ok (.lstore_n 1, 1) by decide +kernel) rfl (by decide) rfl ?_
      refine X_iinc (j := 2) (v := _ + (nI 1)) (ls' := [(0, .ref _), (1, .long _), (3, .int _)]) (show decode cL_sum 234 = .ok (.iinc 3 1, 3) by decide +kernel) rfl rfl (Nat.le_of_ble_eq_true rfl) rfl ?_
      refine X_goto (tgt := 215) (show decode cL_sum 237 = .ok (.goto (-22), 3) by decide +kernel) (by decide) ?_
      exact ih (b - 1) _ _ _ _ w
set_option maxRecDepth 100000 in
set_option maxHeartbeats 4000000 in
theorem kL_sum {a0 : Nat} {h : AH} {K : Int64 → AH → Prop} (w : wL_sum a0 h K) : Cn mL_sum (cwd mL_sum) 20 213 1278 [.ref a0] h (KL K) T0 := by
  refine Cn_of (by decide +kernel) rfl (Nat.le_of_ble_eq_true rfl) ?_
  show X mL_sum 20 (KL K) T0 213 1278 0 [(0, .ref a0)] [] h
  unfold wL_sum at w
  refine X_ldc2 (v := 1009) (show decode cL_sum 0 = .ok (.ldc2_w 305, 3) by decide +kernel) gcl_L_305 ?_
  refine X_aload_n (j := 0) (show decode cL_sum 3 = .ok (.aload_n 0, 1) by decide +kernel) rfl rfl ?_
  obtain ⟨s62, w⟩ := w
  refine X_vI (rc' := 213) (rs' := 1278) (as := []) mv_L_214 (show decode cL_sum 4 = .ok (.invokevirtual 214, 3) by decide +kernel) (by decide) (Nat.le_of_ble_eq_true rfl) (Nat.le_of_ble_eq_true rfl) rfl rfl (Nat.le_of_ble_eq_true rfl) (rcvD s62 (by decide) rfl) (kX9_time w) (fun E h hk => hk.elim) (fun r2 h1 w => ?_)
  refine X_i2l (show decode cL_sum 7 = .ok (.i2l, 1) by decide +kernel) ?_
  refine X_lmul (show decode cL_sum 8 = .ok (.lmul, 1) by decide +kernel) ?_
  refine X_ldc2 (v := 101) (show decode cL_sum 9 = .ok (.ldc2_w 307, 3) by decide +kernel) gcl_L_307 ?_
  refine X_aload_n (j := 0) (show decode cL_sum 12 = .ok (.aload_n 0, 1) by decide +kernel) rfl rfl ?_
  obtain ⟨s61, w⟩ := w
  refine X_vI (rc' := 213) (rs' := 1278) (as := []) mv_L_211 (show decode cL_sum 13 = .ok (.invokevirtual 211, 3) by decide +kernel) (by decide) (Nat.le_of_ble_eq_true rfl) (Nat.le_of_ble_eq_true rfl) rfl rfl (Nat.le_of_ble_eq_true rfl) (rcvD s61 (by decide) rfl) (kX9_arrived w) (fun E h hk => hk.elim) (fun r4 h3 w => ?_)
  refine X_i2l (show decode cL_sum 16 = .ok (.i2l, 1) by decide +kernel) ?_
  refine X_lmul (show decode cL_sum 17 = .ok (.lmul, 1) by decide +kernel) ?_
  refine X_ladd (show decode cL_sum 18 = .ok (.ladd, 1) by decide +kernel) ?_
  refine X_aload_n (j := 0) (show decode cL_sum 19 = .ok (.aload_n 0, 1) by decide +kernel) rfl rfl ?_
  obtain ⟨s60, w⟩ := w
  refine X_vL (rc' := 213) (rs' := 1278) (as := []) mv_L_217 (show decode cL_sum 20 = .ok (.invokevirtual 217, 3) by decide +kernel) (by decide) (Nat.le_of_ble_eq_true rfl) (Nat.le_of_ble_eq_true rfl) rfl rfl (Nat.le_of_ble_eq_true rfl) (rcvD s60 (by decide) rfl) (kX9_totalDelay w) (fun E h hk => hk.elim) (fun r6 h5 w => ?_)
  refine X_ladd (show decode cL_sum 23 = .ok (.ladd, 1) by decide +kernel) ?_
  refine X_lstore_n (ls' := [(0, .ref _), (1, .long _)]) (show decode cL_sum 24 = .ok (.lstore_n 1, 1) by decide +kernel) rfl (by decide) rfl ?_
  refine X_iconst (v := (nI 0)) (show decode cL_sum 25 = .ok (.iconst 0, 1) by decide +kernel) (by decide) ?_
  refine X_istore_n (ls' := [(0, .ref _), (1, .long _), (3, .int _)]) (show decode cL_sum 26 = .ok (.istore_n 3, 1) by decide +kernel) rfl (by decide) rfl ?_
  obtain ⟨n59, bn59, hbn59, w⟩ := w
  refine X_room (rc' := bn59 * 8 + 117) (rs' := bn59 * 48 + 702) (by omega) (by omega) ?_
  refine kL_sum_L27 ?_ n59 bn59 _ _ _ _ w
  · intro x0_22 x1_23 h24 w
    refine X_iconst (v := (nI 0)) (show decode cL_sum 102 = .ok (.iconst 0, 1) by decide +kernel) (by decide) ?_
    refine X_istore_n (ls' := [(0, .ref _), (1, .long _), (3, .int _)]) (show decode cL_sum 103 = .ok (.istore_n 3, 1) by decide +kernel) rfl (by decide) rfl ?_
    obtain ⟨n58, bn58, hbn58, w⟩ := w
    refine X_room (rc' := bn58 * 3 + 93) (rs' := bn58 * 18 + 558) (by omega) (by omega) ?_
    refine kL_sum_L104 ?_ n58 bn58 _ _ _ _ w
    · intro x0_31 x1_32 h33 w
      refine X_iconst (v := (nI 0)) (show decode cL_sum 140 = .ok (.iconst 0, 1) by decide +kernel) (by decide) ?_
      refine X_istore_n (ls' := [(0, .ref _), (1, .long _), (3, .int _)]) (show decode cL_sum 141 = .ok (.istore_n 3, 1) by decide +kernel) rfl (by decide) rfl ?_
      obtain ⟨n57, bn57, hbn57, w⟩ := w
      refine X_room (rc' := bn57 * 7 + 9) (rs' := bn57 * 42 + 54) (by omega) (by omega) ?_
      refine kL_sum_L142 ?_ n57 bn57 _ _ _ _ w
      · intro x0_49 x1_50 h51 w
        refine X_iconst (v := (nI 0)) (show decode cL_sum 213 = .ok (.iconst 0, 1) by decide +kernel) (by decide) ?_
        refine X_istore_n (ls' := [(0, .ref _), (1, .long _), (3, .int _)]) (show decode cL_sum 214 = .ok (.istore_n 3, 1) by decide +kernel) rfl (by decide) rfl ?_
        obtain ⟨n56, bn56, hbn56, w⟩ := w
        refine X_room (rc' := bn56 * 1 + 1) (rs' := bn56 * 6 + 6) (by omega) (by omega) ?_
        exact kL_sum_L215  n56 bn56 _ _ _ _ w
set_option maxRecDepth 100000 in
set_option maxHeartbeats 4000000 in
theorem kL_trainOf_J47 {K : Int32 → AH → Prop} {c26 : Nat → Int32 → Int32 → Int32 → Int32 → AH → Prop} (hc26 : ∀ x0 x1 x3 x4 x5 h, c26 x0 x1 x3 x4 x5 h → X mL_trainOf 3 (KI K) T0 0 0 26 [(0, .ref x0), (1, .int x1), (3, .int x3), (4, .int x4), (5, .int x5)] [] h) (x0 : Nat) (x1 : Int32) (x3 : Int32) (x5 : Int32) (y0 : Int32) (y1 : Int32) (h : AH) (w : wL_trainOf_J47 K c26 x0 x1 x3 x5 y0 y1 h) : X mL_trainOf 3 (KI K) T0 0 0 47 [(0, .ref x0), (1, .int x1), (3, .int x3), (5, .int x5)] [.int y1, .int y0] h := by
  unfold wL_trainOf_J47 at w
  refine X_isub (show decode cL_trainOf 47 = .ok (.isub, 1) by decide +kernel) ?_
  refine X_istore (ls' := [(0, .ref _), (1, .int _), (3, .int _), (4, .int _), (5, .int _)]) (show decode cL_trainOf 48 = .ok (.istore 4, 2) by decide +kernel) (by decide) rfl ?_
  refine X_iload (j := 4) (show decode cL_trainOf 50 = .ok (.iload 5, 2) by decide +kernel) rfl ?_
  refine X_iload (j := 3) (show decode cL_trainOf 52 = .ok (.iload 4, 2) by decide +kernel) rfl ?_
  refine X_if_lt (tgt := 61) (show decode cL_trainOf 54 = .ok (.ifCond .lt 7, 3) by decide +kernel) (by decide) ⟨fun c13 => ?_, fun c13 => ?_⟩
  · have w := w.1 c13
    refine X_iconst (v := (nI 0)) (show decode cL_trainOf 61 = .ok (.iconst 0, 1) by decide +kernel) (by decide) ?_
    refine X_iadd (show decode cL_trainOf 62 = .ok (.iadd, 1) by decide +kernel) ?_
    refine X_istore (ls' := [(0, .ref _), (1, .int _), (3, .int _), (4, .int _), (5, .int _)]) (show decode cL_trainOf 63 = .ok (.istore 5, 2) by decide +kernel) (by decide) rfl ?_
    refine X_goto (tgt := 26) (show decode cL_trainOf 65 = .ok (.goto (-39), 3) by decide +kernel) (by decide) ?_
    exact hc26 _ _ _ _ _ _ w
  · have w := w.2 c13
    refine X_iconst (v := (nI 1)) (show decode cL_trainOf 57 = .ok (.iconst 1, 1) by decide +kernel) (by decide) ?_
    refine X_goto (tgt := 62) (show decode cL_trainOf 58 = .ok (.goto 4, 3) by decide +kernel) (by decide) ?_
    refine X_iadd (show decode cL_trainOf 62 = .ok (.iadd, 1) by decide +kernel) ?_
    refine X_istore (ls' := [(0, .ref _), (1, .int _), (3, .int _), (4, .int _), (5, .int _)]) (show decode cL_trainOf 63 = .ok (.istore 5, 2) by decide +kernel) (by decide) rfl ?_
    refine X_goto (tgt := 26) (show decode cL_trainOf 65 = .ok (.goto (-39), 3) by decide +kernel) (by decide) ?_
    exact hc26 _ _ _ _ _ _ w
set_option maxRecDepth 100000 in
set_option maxHeartbeats 4000000 in
theorem kL_trainOf_L26 {K : Int32 → AH → Prop}    : ∀ (n : Nat) (x0 : Nat) (x1 : Int32) (x3 : Int32) (x4 : Int32) (x5 : Int32) (h : AH), wL_trainOf_L26 K   n x0 x1 x3 x4 x5 h → X mL_trainOf 3 (KI K) T0 0 0 26 [(0, .ref x0), (1, .int x1), (3, .int x3), (4, .int x4), (5, .int x5)] [] h := by
  intro n
  induction n with
  | zero => intro _ _ _ _ _ _ w; exact w.elim
  | succ n ih =>
    intro x0 x1 x3 x4 x5 h w
    rw [wL_trainOf_L26] at w
    refine X_iload (j := 3) (show decode cL_trainOf 26 = .ok (.iload 4, 2) by decide +kernel) rfl ?_
    refine X_if_lt (tgt := 68) (show decode cL_trainOf 28 = .ok (.ifCond .lt 40, 3) by decide +kernel) (by decide) ⟨fun c4 => ?_, fun c4 => ?_⟩
    · have w := w.1 c4
      refine X_aload_n (j := 0) (show decode cL_trainOf 68 = .ok (.aload_n 0, 1) by decide +kernel) rfl rfl ?_
      obtain ⟨s9, w⟩ := w
      refine X_vI (rc' := 0) (rs' := 0) (as := []) mv_L_224 (show decode cL_trainOf 69 = .ok (.invokevirtual 224, 3) by decide +kernel) (by decide) (Nat.le_of_ble_eq_true rfl) (Nat.le_of_ble_eq_true rfl) rfl rfl (Nat.le_of_ble_eq_true rfl) (rcvD s9 (by decide) rfl) (kX9_trains w) (fun E h hk => hk.elim) (fun r6 h5 w => ?_)
      refine X_if_eq (tgt := 79) (show decode cL_trainOf 72 = .ok (.ifCond .eq 7, 3) by decide +kernel) (by decide) ⟨fun c7 => ?_, fun c7 => ?_⟩
      · have w := w.1 c7
        refine X_iload_n (j := 1) (show decode cL_trainOf 79 = .ok (.iload_n 1, 1) by decide +kernel) rfl rfl ?_
        refine X_goto (tgt := 85) (show decode cL_trainOf 80 = .ok (.goto 5, 3) by decide +kernel) (by decide) ?_
        exact X_iret ⟨(show decode cL_trainOf 85 = .ok (.ireturn, 1) by decide +kernel), .int, rfl, rfl⟩ ⟨_, rfl, w⟩
      · have w := w.2 c7
        refine X_iload_n (j := 2) (show decode cL_trainOf 75 = .ok (.iload_n 3, 1) by decide +kernel) rfl rfl ?_
        refine X_if_eq (tgt := 83) (show decode cL_trainOf 76 = .ok (.ifCond .eq 7, 3) by decide +kernel) (by decide) ⟨fun c8 => ?_, fun c8 => ?_⟩
        · have w := w.1 c8
          refine X_iload (j := 4) (show decode cL_trainOf 83 = .ok (.iload 5, 2) by decide +kernel) rfl ?_
          exact X_iret ⟨(show decode cL_trainOf 85 = .ok (.ireturn, 1) by decide +kernel), .int, rfl, rfl⟩ ⟨_, rfl, w⟩
        · have w := w.2 c8
          refine X_iload_n (j := 1) (show decode cL_trainOf 79 = .ok (.iload_n 1, 1) by decide +kernel) rfl rfl ?_
          refine X_goto (tgt := 85) (show decode cL_trainOf 80 = .ok (.goto 5, 3) by decide +kernel) (by decide) ?_
          exact X_iret ⟨(show decode cL_trainOf 85 = .ok (.ireturn, 1) by decide +kernel), .int, rfl, rfl⟩ ⟨_, rfl, w⟩
    · have w := w.2 c4
      refine X_iload (j := 3) (show decode cL_trainOf 31 = .ok (.iload 4, 2) by decide +kernel) rfl ?_
      refine X_aload_n (j := 0) (show decode cL_trainOf 33 = .ok (.aload_n 0, 1) by decide +kernel) rfl rfl ?_
      refine X_iload (j := 4) (show decode cL_trainOf 34 = .ok (.iload 5, 2) by decide +kernel) rfl ?_
      obtain ⟨s14, w⟩ := w
      refine X_vI (rc' := 0) (rs' := 0) (as := [.int _]) mv_L_238 (show decode cL_trainOf 36 = .ok (.invokevirtual 238, 3) by decide +kernel) (by decide) (Nat.le_of_ble_eq_true rfl) (Nat.le_of_ble_eq_true rfl) rfl rfl (Nat.le_of_ble_eq_true rfl) (rcvD s14 (by decide) rfl) (kX9_isPresent w) (fun E h hk => hk.elim) (fun r11 h10 w => ?_)
      refine X_if_eq (tgt := 46) (show decode cL_trainOf 39 = .ok (.ifCond .eq 7, 3) by decide +kernel) (by decide) ⟨fun c12 => ?_, fun c12 => ?_⟩
      · have w := w.1 c12
        refine X_iconst (v := (nI 0)) (show decode cL_trainOf 46 = .ok (.iconst 0, 1) by decide +kernel) (by decide) ?_
        refine X_pick (ls' := [(0, .ref _), (1, .int _), (3, .int _), (5, .int _)]) [0, 1, 2, 4] rfl ?_
        exact kL_trainOf_J47 ih _ _ _ _ _ _ _ w
      · have w := w.2 c12
        refine X_iconst (v := (nI 1)) (show decode cL_trainOf 42 = .ok (.iconst 1, 1) by decide +kernel) (by decide) ?_
        refine X_goto (tgt := 47) (show decode cL_trainOf 43 = .ok (.goto 4, 3) by decide +kernel) (by decide) ?_
        refine X_pick (ls' := [(0, .ref _), (1, .int _), (3, .int _), (5, .int _)]) [0, 1, 2, 4] rfl ?_
        exact kL_trainOf_J47 ih _ _ _ _ _ _ _ w
set_option maxRecDepth 100000 in
set_option maxHeartbeats 4000000 in
theorem kL_trainOf {a0 : Nat} {a1 : Int32} {a2 : Int32} {a3 : Int32} {h : AH} {K : Int32 → AH → Prop} (w : wL_trainOf a0 a1 a2 a3 h K) : Cn mL_trainOf (cwd mL_trainOf) 3 0 0 [.ref a0, .int a1, .int a2, .int a3] h (KI K) T0 := by
  refine Cn_of (by decide +kernel) rfl (Nat.le_of_ble_eq_true rfl) ?_
  show X mL_trainOf 3 (KI K) T0 0 0 0 [(0, .ref a0), (1, .int a1), (2, .int a2), (3, .int a3)] [] h
  unfold wL_trainOf at w
  refine X_aload_n (j := 0) (show decode cL_trainOf 0 = .ok (.aload_n 0, 1) by decide +kernel) rfl rfl ?_
  obtain ⟨s23, w⟩ := w
  refine X_vI (rc' := 0) (rs' := 0) (as := []) mv_L_224 (show decode cL_trainOf 1 = .ok (.invokevirtual 224, 3) by decide +kernel) (by decide) (Nat.le_of_ble_eq_true rfl) (Nat.le_of_ble_eq_true rfl) rfl rfl (Nat.le_of_ble_eq_true rfl) (rcvD s23 (by decide) rfl) (kX9_trains w) (fun E h hk => hk.elim) (fun r2 h1 w => ?_)
  refine X_if_eq (tgt := 11) (show decode cL_trainOf 4 = .ok (.ifCond .eq 7, 3) by decide +kernel) (by decide) ⟨fun c3 => ?_, fun c3 => ?_⟩
  · have w := w.1 c3
    refine X_iconst (v := (-1)) (show decode cL_trainOf 11 = .ok (.iconst (-1), 1) by decide +kernel) (by decide) ?_
    refine X_goto (tgt := 21) (show decode cL_trainOf 12 = .ok (.goto 9, 3) by decide +kernel) (by decide) ?_
    refine X_istore (ls' := [(0, .ref _), (1, .int _), (2, .int _), (3, .int _), (4, .int _)]) (show decode cL_trainOf 21 = .ok (.istore 4, 2) by decide +kernel) (by decide) rfl ?_
    refine X_iconst (v := (nI 0)) (show decode cL_trainOf 23 = .ok (.iconst 0, 1) by decide +kernel) (by decide) ?_
    refine X_istore (ls' := [(0, .ref _), (1, .int _), (2, .int _), (3, .int _), (4, .int _), (5, .int _)]) (show decode cL_trainOf 24 = .ok (.istore 5, 2) by decide +kernel) (by decide) rfl ?_
    refine X_pick (ls' := [(0, .ref _), (1, .int _), (3, .int _), (4, .int _), (5, .int _)]) [0, 1, 3, 4, 5] rfl ?_
    obtain ⟨n15, w⟩ := w
    exact kL_trainOf_L26  n15 _ _ _ _ _ _ w
  · have w := w.2 c3
    refine X_iload_n (j := 3) (show decode cL_trainOf 7 = .ok (.iload_n 3, 1) by decide +kernel) rfl rfl ?_
    refine X_if_eq (tgt := 15) (show decode cL_trainOf 8 = .ok (.ifCond .eq 7, 3) by decide +kernel) (by decide) ⟨fun c16 => ?_, fun c16 => ?_⟩
    · have w := w.1 c16
      refine X_iload_n (j := 2) (show decode cL_trainOf 15 = .ok (.iload_n 2, 1) by decide +kernel) rfl rfl ?_
      refine X_aload_n (j := 0) (show decode cL_trainOf 16 = .ok (.aload_n 0, 1) by decide +kernel) rfl rfl ?_
      obtain ⟨s21, w⟩ := w
      refine X_vI (rc' := 0) (rs' := 0) (as := []) mv_L_224 (show decode cL_trainOf 17 = .ok (.invokevirtual 224, 3) by decide +kernel) (by decide) (Nat.le_of_ble_eq_true rfl) (Nat.le_of_ble_eq_true rfl) rfl rfl (Nat.le_of_ble_eq_true rfl) (rcvD s21 (by decide) rfl) (kX9_trains w) (fun E h hk => hk.elim) (fun r18 h17 w => ?_)
      obtain ⟨s19, w⟩ := w
      refine X_irem (show decode cL_trainOf 20 = .ok (.irem, 1) by decide +kernel) s19 ?_
      refine X_istore (ls' := [(0, .ref _), (1, .int _), (2, .int _), (3, .int _), (4, .int _)]) (show decode cL_trainOf 21 = .ok (.istore 4, 2) by decide +kernel) (by decide) rfl ?_
      refine X_iconst (v := (nI 0)) (show decode cL_trainOf 23 = .ok (.iconst 0, 1) by decide +kernel) (by decide) ?_
      refine X_istore (ls' := [(0, .ref _), (1, .int _), (2, .int _), (3, .int _), (4, .int _), (5, .int _)]) (show decode cL_trainOf 24 = .ok (.istore 5, 2) by decide +kernel) (by decide) rfl ?_
      refine X_pick (ls' := [(0, .ref _), (1, .int _), (3, .int _), (4, .int _), (5, .int _)]) [0, 1, 3, 4, 5] rfl ?_
      obtain ⟨n20, w⟩ := w
      exact kL_trainOf_L26  n20 _ _ _ _ _ _ w
    · have w := w.2 c16
      refine X_iconst (v := (-1)) (show decode cL_trainOf 11 = .ok (.iconst (-1), 1) by decide +kernel) (by decide) ?_
      refine X_goto (tgt := 21) (show decode cL_trainOf 12 = .ok (.goto 9, 3) by decide +kernel) (by decide) ?_
      refine X_istore (ls' := [(0, .ref _), (1, .int _), (2, .int _), (3, .int _), (4, .int _)]) (show decode cL_trainOf 21 = .ok (.istore 4, 2) by decide +kernel) (by decide) rfl ?_
      refine X_iconst (v := (nI 0)) (show decode cL_trainOf 23 = .ok (.iconst 0, 1) by decide +kernel) (by decide) ?_
      refine X_istore (ls' := [(0, .ref _), (1, .int _), (2, .int _), (3, .int _), (4, .int _), (5, .int _)]) (show decode cL_trainOf 24 = .ok (.istore 5, 2) by decide +kernel) (by decide) rfl ?_
      refine X_pick (ls' := [(0, .ref _), (1, .int _), (3, .int _), (4, .int _), (5, .int _)]) [0, 1, 3, 4, 5] rfl ?_
      obtain ⟨n22, w⟩ := w
      exact kL_trainOf_L26  n22 _ _ _ _ _ _ w
set_option maxRecDepth 100000 in
set_option maxHeartbeats 4000000 in
theorem kL_waiting_L2 {K : Int32 → AH → Prop}    : ∀ (n : Nat) (b : Nat) (x0 : Nat) (x1 : Int32) (h : AH), wL_waiting_L2 K   n b x0 x1 h → X mL_waiting 10 (KI K) T0 (b * 1 + 1) (b * 6 + 6) 2 [(0, .ref x0), (1, .int x1)] [] h := by
  intro n
  induction n with
  | zero => intro _ _ _ _ w; exact w.elim
  | succ n ih =>
    intro b x0 x1 h w
    rw [wL_waiting_L2] at w
    refine X_aload_n (j := 0) (show decode cL_waiting 2 = .ok (.aload_n 0, 1) by decide +kernel) rfl rfl ?_
    refine X_iload_n (j := 1) (show decode cL_waiting 3 = .ok (.iload_n 1, 1) by decide +kernel) rfl rfl ?_
    obtain ⟨s1, w⟩ := w
    refine X_room (rc' := ((b - 1) * 1 + 2)) (rs' := ((b - 1) * 6 + 12)) (by omega) (by omega) ?_
    refine X_sH (rc' := ((b - 1) * 1 + 1)) (rs' := ((b - 1) * 6 + 6)) (as := [.ref _, .int _]) msh_L_241 (show decode cL_waiting 4 = .ok (.invokestatic 241, 3) by decide +kernel) (by decide) (by omega) (by omega) rfl rfl (Nat.le_of_ble_eq_true rfl) (kL_queued w) (fun r3 h2 w => ?_)
    refine X_if_lt (tgt := 16) (show decode cL_waiting 7 = .ok (.ifCond .lt 9, 3) by decide +kernel) (by decide) ⟨fun c4 => ?_, fun c4 => ?_⟩
    · have w := w.1 c4
      refine X_iload_n (j := 1) (show decode cL_waiting 16 = .ok (.iload_n 1, 1) by decide +kernel) rfl rfl ?_
      exact X_iret ⟨(show decode cL_waiting 17 = .ok (.ireturn, 1) by decide +kernel), .int, rfl, rfl⟩ ⟨_, rfl, w⟩
    · have w := w.2 c4
      refine X_iinc (j := 1) (v := _ + (nI 1)) (ls' := [(0, .ref _), (1, .int _)]) (show decode cL_waiting 10 = .ok (.iinc 1 1, 3) by decide +kernel) rfl rfl (Nat.le_of_ble_eq_true rfl) rfl ?_
      refine X_goto (tgt := 2) (show decode cL_waiting 13 = .ok (.goto (-11), 3) by decide +kernel) (by decide) ?_
      exact ih (b - 1) _ _ _ w
set_option maxRecDepth 100000 in
set_option maxHeartbeats 4000000 in
theorem kL_waiting {a0 : Nat} {h : AH} {K : Int32 → AH → Prop} (w : wL_waiting a0 h K) : Cn mL_waiting (cwd mL_waiting) 10 10 60 [.ref a0] h (KI K) T0 := by
  refine Cn_of (by decide +kernel) rfl (Nat.le_of_ble_eq_true rfl) ?_
  show X mL_waiting 10 (KI K) T0 10 60 0 [(0, .ref a0)] [] h
  unfold wL_waiting at w
  refine X_iconst (v := (nI 0)) (show decode cL_waiting 0 = .ok (.iconst 0, 1) by decide +kernel) (by decide) ?_
  refine X_istore_n (ls' := [(0, .ref _), (1, .int _)]) (show decode cL_waiting 1 = .ok (.istore_n 1, 1) by decide +kernel) rfl (by decide) rfl ?_
  obtain ⟨n5, bn5, hbn5, w⟩ := w
  refine X_room (rc' := bn5 * 1 + 1) (rs' := bn5 * 6 + 6) (by omega) (by omega) ?_
  exact kL_waiting_L2  n5 bn5 _ _ _ w
set_option maxRecDepth 100000 in
set_option maxHeartbeats 4000000 in
theorem kJ5_inflateIfNeededFor_a7421 {a0 : Nat} {a1 : Nat} {h : AH} {K : AH → Prop} (w : wJ5_inflateIfNeededFor_a7421 a0 a1 h K) : Cn mJ5_inflateIfNeededFor_a7421 (cwd mJ5_inflateIfNeededFor_a7421) 2 0 0 [.ref a0, .ref a1] h (KV K) T0 := by
  refine Cn_of (by decide +kernel) rfl (Nat.le_of_ble_eq_true rfl) ?_
  show X mJ5_inflateIfNeededFor_a7421 2 (KV K) T0 0 0 0 [(0, .ref a0), (1, .ref a1)] [] h
  unfold wJ5_inflateIfNeededFor_a7421 at w
  refine X_getstI (j := 3) rfl gz_J5_18 (show decode cJ5_inflateIfNeededFor_a7421 0 = .ok (.getstatic 18, 3) by decide +kernel) ?_
  refine X_if_eq (tgt := 21) (show decode cJ5_inflateIfNeededFor_a7421 3 = .ok (.ifCond .eq 18, 3) by decide +kernel) (by decide) ⟨fun c1 => ?_, fun c1 => ?_⟩
  · have w := w.1 c1
    exact X_vret ⟨(show decode cJ5_inflateIfNeededFor_a7421 21 = .ok (.return_, 1) by decide +kernel), rfl⟩ ⟨rfl, w⟩
  · have w := w.2 c1
    refine X_aload_n (j := 0) (show decode cJ5_inflateIfNeededFor_a7421 6 = .ok (.aload_n 0, 1) by decide +kernel) rfl rfl ?_
    obtain ⟨s2, w⟩ := w
    refine X_getI fl_J5_22 (show decode cJ5_inflateIfNeededFor_a7421 7 = .ok (.getfield 22, 3) by decide +kernel) s2 ?_
    refine X_aload_n (j := 1) (show decode cJ5_inflateIfNeededFor_a7421 10 = .ok (.aload_n 1, 1) by decide +kernel) rfl rfl ?_
    obtain ⟨s6, w⟩ := w
    refine X_vI (rc' := 0) (rs' := 0) (as := []) mv_J5_40U (show decode cJ5_inflateIfNeededFor_a7421 11 = .ok (.invokevirtual 40, 3) by decide +kernel) (by decide) (Nat.le_of_ble_eq_true rfl) (Nat.le_of_ble_eq_true rfl) rfl rfl (Nat.le_of_ble_eq_true rfl) (rcvSt s6) (kJ0U_coder w) (fun E h hk => hk.elim) (fun r4 h3 w => ?_)
    refine X_icmp_eq (tgt := 21) (show decode cJ5_inflateIfNeededFor_a7421 14 = .ok (.if_icmp .eq 7, 3) by decide +kernel) (by decide) ⟨fun c5 => ?_, fun c5 => ?_⟩
    · have w := w.1 c5
      exact X_vret ⟨(show decode cJ5_inflateIfNeededFor_a7421 21 = .ok (.return_, 1) by decide +kernel), rfl⟩ ⟨rfl, w⟩
    · have w := w.2 c5
      exact w.elim
set_option maxRecDepth 100000 in
set_option maxHeartbeats 4000000 in
theorem kJ0U_getBytes {a0 : Nat} {a1 : Nat} {a2 : Int32} {a3 : Int32} {h : AH} {K : AH → Prop} (w : wJ0U_getBytes a0 a1 a2 a3 h K) : Cn mJ0U_getBytes (cwd mJ0U_getBytes) 2 0 0 [.ref a0, .ref a1, .int a2, .int a3] h (KV K) T0 := by
  refine Cn_of (by decide +kernel) rfl (Nat.le_of_ble_eq_true rfl) ?_
  show X mJ0U_getBytes 2 (KV K) T0 0 0 0 [(0, .ref a0), (1, .ref a1), (2, .int a2), (3, .int a3)] [] h
  unfold wJ0U_getBytes at w
  refine X_aload_n (j := 0) (show decode cJ0U_getBytes 0 = .ok (.aload_n 0, 1) by decide +kernel) rfl rfl ?_
  obtain ⟨s16, w⟩ := w
  refine X_vI (rc' := 0) (rs' := 0) (as := []) mv_J0_335U (show decode cJ0U_getBytes 1 = .ok (.invokevirtual 335, 3) by decide +kernel) (by decide) (Nat.le_of_ble_eq_true rfl) (Nat.le_of_ble_eq_true rfl) rfl rfl (Nat.le_of_ble_eq_true rfl) (rcvSt s16) (kJ0U_coder w) (fun E h hk => hk.elim) (fun r2 h1 w => ?_)
  refine X_iload_n (j := 3) (show decode cJ0U_getBytes 4 = .ok (.iload_n 3, 1) by decide +kernel) rfl rfl ?_
  refine X_icmp_ne (tgt := 28) (show decode cJ0U_getBytes 5 = .ok (.if_icmp .ne 23, 3) by decide +kernel) (by decide) ⟨fun c3 => ?_, fun c3 => ?_⟩
  · have w := w.1 c3
    exact w.elim
  · have w := w.2 c3
    refine X_aload_n (j := 0) (show decode cJ0U_getBytes 8 = .ok (.aload_n 0, 1) by decide +kernel) rfl rfl ?_
    obtain ⟨s6, w⟩ := w
    refine X_getUR fl_J0_9 (show decode cJ0U_getBytes 9 = .ok (.getfield 9, 3) by decide +kernel) (Or.inl (gw_of (List.mem_of_getElem? (i := 1172) (by decide +kernel)) (by decide +kernel))) s6 ?_
    refine X_iconst (v := (nI 0)) (show decode cJ0U_getBytes 12 = .ok (.iconst 0, 1) by decide +kernel) (by decide) ?_
    refine X_aload_n (j := 1) (show decode cJ0U_getBytes 13 = .ok (.aload_n 1, 1) by decide +kernel) rfl rfl ?_
    refine X_iload_n (j := 2) (show decode cJ0U_getBytes 14 = .ok (.iload_n 2, 1) by decide +kernel) rfl rfl ?_
    refine X_iload_n (j := 3) (show decode cJ0U_getBytes 15 = .ok (.iload_n 3, 1) by decide +kernel) rfl rfl ?_
    refine X_ishl (show decode cJ0U_getBytes 16 = .ok (.ishl, 1) by decide +kernel) ?_
    refine X_aload_n (j := 0) (show decode cJ0U_getBytes 17 = .ok (.aload_n 0, 1) by decide +kernel) rfl rfl ?_
    refine X_getUR fl_J0_9 (show decode cJ0U_getBytes 18 = .ok (.getfield 9, 3) by decide +kernel) (Or.inl (gw_of (List.mem_of_getElem? (i := 1172) (by decide +kernel)) (by decide +kernel))) s6 ?_
    obtain ⟨s7, w⟩ := w
    refine X_alen (v := nI (ln _ _)) (show decode cJ0U_getBytes 21 = .ok (.arraylength, 1) by decide +kernel) (by decide) (isA_eq s7) rfl ?_
    obtain ⟨s8, w⟩ := w
    obtain ⟨s9, w⟩ := w
    obtain ⟨s10, w⟩ := w
    obtain ⟨s11, w⟩ := w
    obtain ⟨s12, w⟩ := w
    obtain ⟨s13, w⟩ := w
    obtain ⟨s14, w⟩ := w
    refine X_copyU (show decode cJ0U_getBytes 22 = .ok (.invokestatic 212, 3) by decide +kernel) gl_J0_212 gna_copy gst_copy gin_Sys (by decide) (Nat.le_of_ble_eq_true rfl) (isA_eq s7) (isA_eq s8) s9 (by decide) s10 s11 s12 s13 s14 ?_
    have w := w _ rfl
    refine X_goto (tgt := 43) (show decode cJ0U_getBytes 25 = .ok (.goto 18, 3) by decide +kernel) (by decide) ?_
    exact X_vret ⟨(show decode cJ0U_getBytes 43 = .ok (.return_, 1) by decide +kernel), rfl⟩ ⟨rfl, w⟩
set_option maxRecDepth 100000 in
set_option maxHeartbeats 4000000 in
theorem kJ5_putStringAt_47b60 {a0 : Nat} {a1 : Int32} {a2 : Nat} {h : AH} {K : AH → Prop} (w : wJ5_putStringAt_47b60 a0 a1 a2 h K) : Cn mJ5_putStringAt_47b60 (cwd mJ5_putStringAt_47b60) 3 0 0 [.ref a0, .int a1, .ref a2] h (KV K) T0 := by
  refine Cn_of (by decide +kernel) rfl (Nat.le_of_ble_eq_true rfl) ?_
  show X mJ5_putStringAt_47b60 3 (KV K) T0 0 0 0 [(0, .ref a0), (1, .int a1), (2, .ref a2)] [] h
  unfold wJ5_putStringAt_47b60 at w
  refine X_aload_n (j := 0) (show decode cJ5_putStringAt_47b60 0 = .ok (.aload_n 0, 1) by decide +kernel) rfl rfl ?_
  refine X_aload_n (j := 2) (show decode cJ5_putStringAt_47b60 1 = .ok (.aload_n 2, 1) by decide +kernel) rfl rfl ?_
  obtain ⟨s7, w⟩ := w
  refine X_vV (rc' := 0) (rs' := 0) (as := [.ref _]) mv_J5_397_J4 (show decode cJ5_putStringAt_47b60 2 = .ok (.invokevirtual 397, 3) by decide +kernel) (by decide) (Nat.le_of_ble_eq_true rfl) (Nat.le_of_ble_eq_true rfl) rfl rfl (Nat.le_of_ble_eq_true rfl) (rcvD s7 (by decide) rfl) (kJ5_inflateIfNeededFor_a7421 w) (fun E h hk => hk.elim) (fun h1 w => ?_)
  refine X_aload_n (j := 2) (show decode cJ5_putStringAt_47b60 5 = .ok (.aload_n 2, 1) by decide +kernel) rfl rfl ?_
  refine X_aload_n (j := 0) (show decode cJ5_putStringAt_47b60 6 = .ok (.aload_n 0, 1) by decide +kernel) rfl rfl ?_
  obtain ⟨s3, w⟩ := w
  refine X_getR fl_J5_15 (show decode cJ5_putStringAt_47b60 7 = .ok (.getfield 15, 3) by decide +kernel) s3 ?_
  refine X_iload_n (j := 1) (show decode cJ5_putStringAt_47b60 10 = .ok (.iload_n 1, 1) by decide +kernel) rfl rfl ?_
  refine X_aload_n (j := 0) (show decode cJ5_putStringAt_47b60 11 = .ok (.aload_n 0, 1) by decide +kernel) rfl rfl ?_
  refine X_getI fl_J5_22 (show decode cJ5_putStringAt_47b60 12 = .ok (.getfield 22, 3) by decide +kernel) s3 ?_
  obtain ⟨s6, w⟩ := w
  refine X_vV (rc' := 0) (rs' := 0) (as := [.ref _, .int _, .int _]) mv_J5_399U (show decode cJ5_putStringAt_47b60 15 = .ok (.invokevirtual 399, 3) by decide +kernel) (by decide) (Nat.le_of_ble_eq_true rfl) (Nat.le_of_ble_eq_true rfl) rfl rfl (Nat.le_of_ble_eq_true rfl) (rcvSt s6) (kJ0U_getBytes w) (fun E h hk => hk.elim) (fun h4 w => ?_)
  exact X_vret ⟨(show decode cJ5_putStringAt_47b60 18 = .ok (.return_, 1) by decide +kernel), rfl⟩ ⟨rfl, w⟩
set_option maxRecDepth 100000 in
set_option maxHeartbeats 4000000 in
theorem kJ5_append_cf1ce {a0 : Nat} {a1 : Nat} {h : AH} {K : Nat → AH → Prop} (w : wJ5_append_cf1ce a0 a1 h K) : Cn mJ5_append_cf1ce (cwd mJ5_append_cf1ce) 5 1 256 [.ref a0, .ref a1] h (KR K) T0 := by
  refine Cn_of (by decide +kernel) rfl (Nat.le_of_ble_eq_true rfl) ?_
  show X mJ5_append_cf1ce 5 (KR K) T0 1 256 0 [(0, .ref a0), (1, .ref a1)] [] h
  unfold wJ5_append_cf1ce at w
  refine X_aload_n (j := 1) (show decode cJ5_append_cf1ce 0 = .ok (.aload_n 1, 1) by decide +kernel) rfl rfl ?_
  refine X_ifnonnull (tgt := 9) (show decode cJ5_append_cf1ce 1 = .ok (.ifnonnull 8, 3) by decide +kernel) (by decide) ⟨fun c1 => ?_, fun c1 => ?_⟩
  · have w := w.1 c1
    exact w.elim
  · have w := w.2 c1
    refine X_aload_n (j := 1) (show decode cJ5_append_cf1ce 9 = .ok (.aload_n 1, 1) by decide +kernel) rfl rfl ?_
    obtain ⟨s12, w⟩ := w
    refine X_vI (rc' := 1) (rs' := 256) (as := []) mv_J5_32U (show decode cJ5_append_cf1ce 10 = .ok (.invokevirtual 32, 3) by decide +kernel) (by decide) (Nat.le_of_ble_eq_true rfl) (Nat.le_of_ble_eq_true rfl) rfl rfl (Nat.le_of_ble_eq_true rfl) (rcvSt s12) (kJ0U_length w) (fun E h hk => hk.elim) (fun r3 h2 w => ?_)
    refine X_istore_n (ls' := [(0, .ref _), (1, .ref _), (2, .int _)]) (show decode cJ5_append_cf1ce 13 = .ok (.istore_n 2, 1) by decide +kernel) rfl (by decide) rfl ?_
    refine X_aload_n (j := 0) (show decode cJ5_append_cf1ce 14 = .ok (.aload_n 0, 1) by decide +kernel) rfl rfl ?_
    refine X_aload_n (j := 0) (show decode cJ5_append_cf1ce 15 = .ok (.aload_n 0, 1) by decide +kernel) rfl rfl ?_
    obtain ⟨s4, w⟩ := w
    refine X_getI fl_J5_79 (show decode cJ5_append_cf1ce 16 = .ok (.getfield 79, 3) by decide +kernel) s4 ?_
    refine X_iload_n (j := 2) (show decode cJ5_append_cf1ce 19 = .ok (.iload_n 2, 1) by decide +kernel) rfl rfl ?_
    refine X_iadd (show decode cJ5_append_cf1ce 20 = .ok (.iadd, 1) by decide +kernel) ?_
    refine X_vV (rc' := 0) (rs' := 0) (as := [.int _]) mv_J5_100_J4 (show decode cJ5_append_cf1ce 21 = .ok (.invokevirtual 100, 3) by decide +kernel) (by decide) (Nat.le_of_ble_eq_true rfl) (Nat.le_of_ble_eq_true rfl) rfl rfl (Nat.le_of_ble_eq_true rfl) (rcvD s4 (by decide) rfl) (kJ5_ensureCapacityInternal_d00df w) (fun E h hk => hk.elim) (fun h5 w => ?_)
    refine X_aload_n (j := 0) (show decode cJ5_append_cf1ce 24 = .ok (.aload_n 0, 1) by decide +kernel) rfl rfl ?_
    refine X_aload_n (j := 0) (show decode cJ5_append_cf1ce 25 = .ok (.aload_n 0, 1) by decide +kernel) rfl rfl ?_
    obtain ⟨s7, w⟩ := w
    refine X_getI fl_J5_79 (show decode cJ5_append_cf1ce 26 = .ok (.getfield 79, 3) by decide +kernel) s7 ?_
    refine X_aload_n (j := 1) (show decode cJ5_append_cf1ce 29 = .ok (.aload_n 1, 1) by decide +kernel) rfl rfl ?_
    refine X_vV (rc' := 0) (rs' := 0) (as := [.int _, .ref _]) mv_J5_208_J4 (show decode cJ5_append_cf1ce 30 = .ok (.invokevirtual 208, 3) by decide +kernel) (by decide) (Nat.le_of_ble_eq_true rfl) (Nat.le_of_ble_eq_true rfl) rfl rfl (Nat.le_of_ble_eq_true rfl) (rcvD s7 (by decide) rfl) (kJ5_putStringAt_47b60 w) (fun E h hk => hk.elim) (fun h8 w => ?_)
    refine X_aload_n (j := 0) (show decode cJ5_append_cf1ce 33 = .ok (.aload_n 0, 1) by decide +kernel) rfl rfl ?_
    refine X_dup (show decode cJ5_append_cf1ce 34 = .ok (.dup, 1) by decide +kernel) rfl ?_
    obtain ⟨s10, w⟩ := w
    refine X_getI fl_J5_79 (show decode cJ5_append_cf1ce 35 = .ok (.getfield 79, 3) by decide +kernel) s10 ?_
    refine X_iload_n (j := 2) (show decode cJ5_append_cf1ce 38 = .ok (.iload_n 2, 1) by decide +kernel) rfl rfl ?_
    refine X_iadd (show decode cJ5_append_cf1ce 39 = .ok (.iadd, 1) by decide +kernel) ?_
    refine X_putI fp_J5_79 (show decode cJ5_append_cf1ce 40 = .ok (.putfield 79, 3) by decide +kernel) (fun z => nomatch z) s10 rfl rfl ?_
    have w := w _ rfl
    refine X_aload_n (j := 0) (show decode cJ5_append_cf1ce 43 = .ok (.aload_n 0, 1) by decide +kernel) rfl rfl ?_
    exact X_aret ⟨(show decode cJ5_append_cf1ce 44 = .ok (.areturn, 1) by decide +kernel), Or.inl ⟨_, rfl⟩⟩ ⟨_, rfl, w⟩
set_option maxRecDepth 100000 in
set_option maxHeartbeats 4000000 in
theorem kJ4_append_15ec4 {a0 : Nat} {a1 : Nat} {h : AH} {K : Nat → AH → Prop} (w : wJ4_append_15ec4 a0 a1 h K) : Cn mJ4_append_15ec4 (cwd mJ4_append_15ec4) 6 1 256 [.ref a0, .ref a1] h (KR K) T0 := by
  refine Cn_of (by decide +kernel) rfl (Nat.le_of_ble_eq_true rfl) ?_
  show X mJ4_append_15ec4 6 (KR K) T0 1 256 0 [(0, .ref a0), (1, .ref a1)] [] h
  unfold wJ4_append_15ec4 at w
  refine X_aload_n (j := 0) (show decode cJ4_append_15ec4 0 = .ok (.aload_n 0, 1) by decide +kernel) rfl rfl ?_
  refine X_aload_n (j := 1) (show decode cJ4_append_15ec4 1 = .ok (.aload_n 1, 1) by decide +kernel) rfl rfl ?_
  obtain ⟨s3, w⟩ := w
  refine X_callP (rc' := 0) (rs' := 0) (as := [.ref _]) mp_J4_29 (show decode cJ4_append_15ec4 2 = .ok (.invokespecial 29, 3) by decide +kernel) (by decide) (Nat.le_of_ble_eq_true rfl) (Nat.le_of_ble_eq_true rfl) rfl rfl (Nat.le_of_ble_eq_true rfl) s3 (kJ5_append_cf1ce w) (fun v9 h1 w => ?_)
  obtain ⟨r2, rfl, w⟩ := w
  refine X_pop (show decode cJ4_append_15ec4 5 = .ok (.pop, 1) by decide +kernel) rfl ?_
  refine X_aload_n (j := 0) (show decode cJ4_append_15ec4 6 = .ok (.aload_n 0, 1) by decide +kernel) rfl rfl ?_
  exact X_aret ⟨(show decode cJ4_append_15ec4 7 = .ok (.areturn, 1) by decide +kernel), Or.inl ⟨_, rfl⟩⟩ ⟨_, rfl, w⟩
set_option maxRecDepth 100000 in
set_option maxHeartbeats 4000000 in
theorem kJ5_getValue_6d5f1 {a0 : Nat} {h : AH} {K : Nat → AH → Prop} (w : wJ5_getValue_6d5f1 a0 h K) : Cn mJ5_getValue_6d5f1 (cwd mJ5_getValue_6d5f1) 1 0 0 [.ref a0] h (KR K) T0 := by
  refine Cn_of (by decide +kernel) rfl (Nat.le_of_ble_eq_true rfl) ?_
  show X mJ5_getValue_6d5f1 1 (KR K) T0 0 0 0 [(0, .ref a0)] [] h
  unfold wJ5_getValue_6d5f1 at w
  refine X_aload_n (j := 0) (show decode cJ5_getValue_6d5f1 0 = .ok (.aload_n 0, 1) by decide +kernel) rfl rfl ?_
  obtain ⟨s1, w⟩ := w
  refine X_getR fl_J5_15 (show decode cJ5_getValue_6d5f1 1 = .ok (.getfield 15, 3) by decide +kernel) s1 ?_
  exact X_aret ⟨(show decode cJ5_getValue_6d5f1 4 = .ok (.areturn, 1) by decide +kernel), Or.inr ⟨_, rfl⟩⟩ ⟨_, rfl, w⟩
set_option maxRecDepth 100000 in
set_option maxHeartbeats 4000000 in
theorem kJ7_checkLength_df160 {a0 : Int32} {a1 : Int32} {h : AH} {K : AH → Prop} (w : wJ7_checkLength_df160 a0 a1 h K) : Cn mJ7_checkLength_df160 (cwd mJ7_checkLength_df160) 8 1 6 [.int a0, .int a1] h (KV K) T0 := by
  refine Cn_of (by decide +kernel) rfl (Nat.le_of_ble_eq_true rfl) ?_
  show X mJ7_checkLength_df160 8 (KV K) T0 1 6 0 [(0, .int a0), (1, .int a1)] [] h
  unfold wJ7_checkLength_df160 at w
  refine X_iload_n (j := 1) (show decode cJ7_checkLength_df160 0 = .ok (.iload_n 1, 1) by decide +kernel) rfl rfl ?_
  refine X_iload_n (j := 0) (show decode cJ7_checkLength_df160 1 = .ok (.iload_n 0, 1) by decide +kernel) rfl rfl ?_
  refine X_icmp_ge (tgt := 37) (show decode cJ7_checkLength_df160 2 = .ok (.if_icmp .ge 35, 3) by decide +kernel) (by decide) ⟨fun c1 => ?_, fun c1 => ?_⟩
  · have w := w.1 c1
    exact X_vret ⟨(show decode cJ7_checkLength_df160 37 = .ok (.return_, 1) by decide +kernel), rfl⟩ ⟨rfl, w⟩
  · have w := w.2 c1
    exact w.elim
set_option maxRecDepth 100000 in
set_option maxHeartbeats 4000000 in
theorem kJ7_copyOfRangeByte_39247 {a0 : Nat} {a1 : Int32} {a2 : Int32} {h : AH} {K : Nat → AH → Prop} (w : wJ7_copyOfRangeByte_39247 a0 a1 a2 h K) : Cn mJ7_copyOfRangeByte_39247 (cwd mJ7_copyOfRangeByte_39247) 9 2 262 [.ref a0, .int a1, .int a2] h (KR K) T0 := by
  refine Cn_of (by decide +kernel) rfl (Nat.le_of_ble_eq_true rfl) ?_
  show X mJ7_copyOfRangeByte_39247 9 (KR K) T0 2 262 0 [(0, .ref a0), (1, .int a1), (2, .int a2)] [] h
  unfold wJ7_copyOfRangeByte_39247 at w
  refine X_iload_n (j := 1) (show decode cJ7_copyOfRangeByte_39247 0 = .ok (.iload_n 1, 1) by decide +kernel) rfl rfl ?_
  refine X_iload_n (j := 2) (show decode cJ7_copyOfRangeByte_39247 1 = .ok (.iload_n 2, 1) by decide +kernel) rfl rfl ?_
  refine X_sV (rc' := 1) (rs' := 256) (as := [.int _, .int _]) ms_J7_343 (show decode cJ7_copyOfRangeByte_39247 2 = .ok (.invokestatic 343, 3) by decide +kernel) (by decide) (Nat.le_of_ble_eq_true rfl) (Nat.le_of_ble_eq_true rfl) rfl rfl (Nat.le_of_ble_eq_true rfl) (kJ7_checkLength_df160 w) (fun E h hk => hk.elim) (fun h1 w => ?_)
  refine X_iload_n (j := 2) (show decode cJ7_copyOfRangeByte_39247 5 = .ok (.iload_n 2, 1) by decide +kernel) rfl rfl ?_
  refine X_iload_n (j := 1) (show decode cJ7_copyOfRangeByte_39247 6 = .ok (.iload_n 1, 1) by decide +kernel) rfl rfl ?_
  refine X_isub (show decode cJ7_copyOfRangeByte_39247 7 = .ok (.isub, 1) by decide +kernel) ?_
  refine X_istore_n (ls' := [(0, .ref _), (1, .int _), (2, .int _), (3, .int _)]) (show decode cJ7_copyOfRangeByte_39247 8 = .ok (.istore_n 3, 1) by decide +kernel) rfl (by decide) rfl ?_
  refine X_iload_n (j := 3) (show decode cJ7_copyOfRangeByte_39247 9 = .ok (.iload_n 3, 1) by decide +kernel) rfl rfl ?_
  obtain ⟨s3, w⟩ := w
  obtain ⟨s4, w⟩ := w
  refine X_newa (N := (a2 - a1).toNatClampNeg) (rc' := 0) (rs' := 0) na_3 (by decide) (show decode cJ7_copyOfRangeByte_39247 10 = .ok (.newarray .byte, 2) by decide +kernel) s3 rfl (by have := s4; simp only [ty_, componentBytes]; omega) (Nat.le_of_ble_eq_true rfl) (by omega) ?_
  have w := w _ rfl
  refine X_astore (ls' := [(0, .ref _), (1, .int _), (2, .int _), (3, .int _), (4, .ref _)]) (show decode cJ7_copyOfRangeByte_39247 12 = .ok (.astore 4, 2) by decide +kernel) (by decide) rfl ?_
  refine X_aload_n (j := 0) (show decode cJ7_copyOfRangeByte_39247 14 = .ok (.aload_n 0, 1) by decide +kernel) rfl rfl ?_
  refine X_iload_n (j := 1) (show decode cJ7_copyOfRangeByte_39247 15 = .ok (.iload_n 1, 1) by decide +kernel) rfl rfl ?_
  refine X_aload (j := 4) (show decode cJ7_copyOfRangeByte_39247 16 = .ok (.aload 4, 2) by decide +kernel) rfl ?_
  refine X_iconst (v := (nI 0)) (show decode cJ7_copyOfRangeByte_39247 18 = .ok (.iconst 0, 1) by decide +kernel) (by decide) ?_
  refine X_aload_n (j := 0) (show decode cJ7_copyOfRangeByte_39247 19 = .ok (.aload_n 0, 1) by decide +kernel) rfl rfl ?_
  obtain ⟨s6, w⟩ := w
  refine X_alen (v := nI (ln _ _)) (show decode cJ7_copyOfRangeByte_39247 20 = .ok (.arraylength, 1) by decide +kernel) (by decide) (isA_eq s6) rfl ?_
  refine X_iload_n (j := 1) (show decode cJ7_copyOfRangeByte_39247 21 = .ok (.iload_n 1, 1) by decide +kernel) rfl rfl ?_
  refine X_isub (show decode cJ7_copyOfRangeByte_39247 22 = .ok (.isub, 1) by decide +kernel) ?_
  refine X_iload_n (j := 3) (show decode cJ7_copyOfRangeByte_39247 23 = .ok (.iload_n 3, 1) by decide +kernel) rfl rfl ?_
  refine X_mmin (show decode cJ7_copyOfRangeByte_39247 24 = .ok (.invokestatic 304, 3) by decide +kernel) gl_J7_304 gst_min gin_Math gco_min (by decide) (Nat.le_of_ble_eq_true rfl) ?_
  obtain ⟨s7, w⟩ := w
  obtain ⟨s8, w⟩ := w
  obtain ⟨s9, w⟩ := w
  obtain ⟨s10, w⟩ := w
  obtain ⟨s11, w⟩ := w
  obtain ⟨s12, w⟩ := w
  obtain ⟨s13, w⟩ := w
  obtain ⟨s14, w⟩ := w
  refine X_copy (t := 3) (show decode cJ7_copyOfRangeByte_39247 27 = .ok (.invokestatic 150, 3) by decide +kernel) gl_J7_150 gna_copy gst_copy gin_Sys (by decide) (Nat.le_of_ble_eq_true rfl) (by decide) (isA_eq s6) (isA_eq s7) s8 s9 s10 (by decide) s11 s12 s13 s14 ?_
  have w := w _ rfl
  refine X_aload (j := 4) (show decode cJ7_copyOfRangeByte_39247 30 = .ok (.aload 4, 2) by decide +kernel) rfl ?_
  exact X_aret ⟨(show decode cJ7_copyOfRangeByte_39247 32 = .ok (.areturn, 1) by decide +kernel), Or.inr ⟨_, rfl⟩⟩ ⟨_, rfl, w⟩
set_option maxRecDepth 100000 in
set_option maxHeartbeats 4000000 in
theorem kJ7_copyOfRange_39247_J10 {K : Nat → AH → Prop}   (x0 : Nat) (x1 : Int32) (x2 : Int32) (h : AH) (w : wJ7_copyOfRange_39247_J10 K  x0 x1 x2 h) : X mJ7_copyOfRange_39247 10 (KR K) T0 2 262 10 [(0, .ref x0), (1, .int x1), (2, .int x2)] [] h := by
  unfold wJ7_copyOfRange_39247_J10 at w
  refine X_aload_n (j := 0) (show decode cJ7_copyOfRange_39247 10 = .ok (.aload_n 0, 1) by decide +kernel) rfl rfl ?_
  refine X_iload_n (j := 1) (show decode cJ7_copyOfRange_39247 11 = .ok (.iload_n 1, 1) by decide +kernel) rfl rfl ?_
  refine X_iload_n (j := 2) (show decode cJ7_copyOfRange_39247 12 = .ok (.iload_n 2, 1) by decide +kernel) rfl rfl ?_
  refine X_sR (rc' := 0) (rs' := 0) (as := [.ref _, .int _, .int _]) ms_J7_339 (show decode cJ7_copyOfRange_39247 13 = .ok (.invokestatic 339, 3) by decide +kernel) (by decide) (Nat.le_of_ble_eq_true rfl) (Nat.le_of_ble_eq_true rfl) rfl rfl (Nat.le_of_ble_eq_true rfl) (kJ7_copyOfRangeByte_39247 w) (fun E h hk => hk.elim) (fun r3 h2 w => ?_)
  exact X_aret ⟨(show decode cJ7_copyOfRange_39247 16 = .ok (.areturn, 1) by decide +kernel), Or.inr ⟨_, rfl⟩⟩ ⟨_, rfl, w⟩
set_option maxRecDepth 100000 in
set_option maxHeartbeats 4000000 in
theorem kJ7_copyOfRange_39247 {a0 : Nat} {a1 : Int32} {a2 : Int32} {h : AH} {K : Nat → AH → Prop} (w : wJ7_copyOfRange_39247 a0 a1 a2 h K) : Cn mJ7_copyOfRange_39247 (cwd mJ7_copyOfRange_39247) 10 2 262 [.ref a0, .int a1, .int a2] h (KR K) T0 := by
  refine Cn_of (by decide +kernel) rfl (Nat.le_of_ble_eq_true rfl) ?_
  show X mJ7_copyOfRange_39247 10 (KR K) T0 2 262 0 [(0, .ref a0), (1, .int a1), (2, .int a2)] [] h
  unfold wJ7_copyOfRange_39247 at w
  refine X_iload_n (j := 1) (show decode cJ7_copyOfRange_39247 0 = .ok (.iload_n 1, 1) by decide +kernel) rfl rfl ?_
  refine X_if_ne (tgt := 10) (show decode cJ7_copyOfRange_39247 1 = .ok (.ifCond .ne 9, 3) by decide +kernel) (by decide) ⟨fun c1 => ?_, fun c1 => ?_⟩
  · have w := w.1 c1
    exact kJ7_copyOfRange_39247_J10  _ _ _ _ w
  · have w := w.2 c1
    refine X_iload_n (j := 2) (show decode cJ7_copyOfRange_39247 4 = .ok (.iload_n 2, 1) by decide +kernel) rfl rfl ?_
    refine X_aload_n (j := 0) (show decode cJ7_copyOfRange_39247 5 = .ok (.aload_n 0, 1) by decide +kernel) rfl rfl ?_
    obtain ⟨s4, w⟩ := w
    refine X_alen (v := nI (ln _ _)) (show decode cJ7_copyOfRange_39247 6 = .ok (.arraylength, 1) by decide +kernel) (by decide) (isA_eq s4) rfl ?_
    refine X_icmp_eq (tgt := 17) (show decode cJ7_copyOfRange_39247 7 = .ok (.if_icmp .eq 10, 3) by decide +kernel) (by decide) ⟨fun c5 => ?_, fun c5 => ?_⟩
    · have w := w.1 c5
      exact w.elim
    · have w := w.2 c5
      exact kJ7_copyOfRange_39247_J10  _ _ _ _ w
set_option maxRecDepth 100000 in
set_option maxHeartbeats 4000000 in
theorem kJ0_init_db425_J79 {K : AH → Prop}   (x0 : Nat) (x3 : Nat) (x4 : Int32) (h : AH) (w : wJ0_init_db425_J79 K  x0 x3 x4 h) : X mJ0_init_db425 11 (KV K) T0 2 262 79 [(0, .ref x0), (3, .ref x3), (4, .int x4)] [] h := by
  unfold wJ0_init_db425_J79 at w
  refine X_aload_n (j := 0) (show decode cJ0_init_db425 79 = .ok (.aload_n 0, 1) by decide +kernel) rfl rfl ?_
  refine X_iconst (v := (nI 1)) (show decode cJ0_init_db425 80 = .ok (.iconst 1, 1) by decide +kernel) (by decide) ?_
  obtain ⟨s10, w⟩ := w
  refine X_putI fp_J0_15 (show decode cJ0_init_db425 81 = .ok (.putfield 15, 3) by decide +kernel) (fun _ => rfl) s10 (by decide) (by decide) ?_
  have w := w _ rfl
  refine X_aload_n (j := 0) (show decode cJ0_init_db425 84 = .ok (.aload_n 0, 1) by decide +kernel) rfl rfl ?_
  refine X_aload_n (j := 1) (show decode cJ0_init_db425 85 = .ok (.aload_n 3, 1) by decide +kernel) rfl rfl ?_
  refine X_iconst (v := (nI 0)) (show decode cJ0_init_db425 86 = .ok (.iconst 0, 1) by decide +kernel) (by decide) ?_
  refine X_iload (j := 2) (show decode cJ0_init_db425 87 = .ok (.iload 4, 2) by decide +kernel) rfl ?_
  refine X_iconst (v := (nI 1)) (show decode cJ0_init_db425 89 = .ok (.iconst 1, 1) by decide +kernel) (by decide) ?_
  refine X_ishl (show decode cJ0_init_db425 90 = .ok (.ishl, 1) by decide +kernel) ?_
  refine X_sR (rc' := 0) (rs' := 0) (as := [.ref _, .int _, .int _]) ms_J0_54 (show decode cJ0_init_db425 91 = .ok (.invokestatic 54, 3) by decide +kernel) (by decide) (Nat.le_of_ble_eq_true rfl) (Nat.le_of_ble_eq_true rfl) rfl rfl (Nat.le_of_ble_eq_true rfl) (kJ7_copyOfRange_39247 w) (fun E h hk => hk.elim) (fun r13 h12 w => ?_)
  obtain ⟨s14, w⟩ := w
  refine X_putR fp_J0_9 (show decode cJ0_init_db425 94 = .ok (.putfield 9, 3) by decide +kernel) (fun _ => rfl) (by first | exact Or.inl ⟨_, rfl⟩ | exact Or.inr ⟨_, rfl⟩) s14 ?_
  have w := w _ rfl
  exact X_vret ⟨(show decode cJ0_init_db425 97 = .ok (.return_, 1) by decide +kernel), rfl⟩ ⟨rfl, w⟩
set_option maxRecDepth 100000 in
set_option maxHeartbeats 4000000 in
theorem kJ0_init_db425 {a0 : Nat} {a1 : Nat} {a2 : Nat} {h : AH} {K : AH → Prop} (w : wJ0_init_db425 a0 a1 a2 h K) : Cn mJ0_init_db425 (cwd mJ0_init_db425) 11 2 262 [.ref a0, .ref a1, .ref a2] h (KV K) T0 := by
  refine Cn_of (by decide +kernel) rfl (Nat.le_of_ble_eq_true rfl) ?_
  show X mJ0_init_db425 11 (KV K) T0 2 262 0 [(0, .ref a0), (1, .ref a1), (2, .ref a2)] [] h
  unfold wJ0_init_db425 at w
  refine X_aload_n (j := 0) (show decode cJ0_init_db425 0 = .ok (.aload_n 0, 1) by decide +kernel) rfl rfl ?_
  obtain ⟨s1, w⟩ := w
  refine X_objInit (show decode cJ0_init_db425 1 = .ok (.invokespecial 1, 3) by decide +kernel) gl_J0_1 gi_obj gco_obj s1 (by decide) (by decide) ?_
  refine X_aload_n (j := 1) (show decode cJ0_init_db425 4 = .ok (.aload_n 1, 1) by decide +kernel) rfl rfl ?_
  obtain ⟨s26, w⟩ := w
  refine X_vR (rc' := 2) (rs' := 262) (as := []) mv_J0_552_J4 (show decode cJ0_init_db425 5 = .ok (.invokevirtual 552, 3) by decide +kernel) (by decide) (Nat.le_of_ble_eq_true rfl) (Nat.le_of_ble_eq_true rfl) rfl rfl (Nat.le_of_ble_eq_true rfl) (rcvD s26 (by decide) rfl) (kJ5_getValue_6d5f1 w) (fun E h hk => hk.elim) (fun r3 h2 w => ?_)
  refine X_astore_n (ls' := [(0, .ref _), (1, .ref _), (2, .ref _), (3, .ref _)]) (show decode cJ0_init_db425 8 = .ok (.astore_n 3, 1) by decide +kernel) rfl (by decide) rfl ?_
  refine X_aload_n (j := 1) (show decode cJ0_init_db425 9 = .ok (.aload_n 1, 1) by decide +kernel) rfl rfl ?_
  obtain ⟨s25, w⟩ := w
  refine X_oI (rc' := 2) (rs' := 262) (as := []) mo_J0_549 (show decode cJ0_init_db425 10 = .ok (.invokevirtual 549, 3) by decide +kernel) (by decide) (Nat.le_of_ble_eq_true rfl) (Nat.le_of_ble_eq_true rfl) rfl rfl (Nat.le_of_ble_eq_true rfl) (rcvD s25 (by decide) rfl) (kJ4_length_8abf5 w) (fun r5 h4 w => ?_)
  refine X_istore (ls' := [(0, .ref _), (1, .ref _), (2, .ref _), (3, .ref _), (4, .int _)]) (show decode cJ0_init_db425 13 = .ok (.istore 4, 2) by decide +kernel) (by decide) rfl ?_
  refine X_aload_n (j := 1) (show decode cJ0_init_db425 15 = .ok (.aload_n 1, 1) by decide +kernel) rfl rfl ?_
  obtain ⟨s24, w⟩ := w
  refine X_vI (rc' := 2) (rs' := 262) (as := []) mv_J0_1047_J4 (show decode cJ0_init_db425 16 = .ok (.invokevirtual 1047, 3) by decide +kernel) (by decide) (Nat.le_of_ble_eq_true rfl) (Nat.le_of_ble_eq_true rfl) rfl rfl (Nat.le_of_ble_eq_true rfl) (rcvD s24 (by decide) rfl) (kJ5_isLatin1_aae02 w) (fun E h hk => hk.elim) (fun r7 h6 w => ?_)
  refine X_if_eq (tgt := 41) (show decode cJ0_init_db425 19 = .ok (.ifCond .eq 22, 3) by decide +kernel) (by decide) ⟨fun c8 => ?_, fun c8 => ?_⟩
  · have w := w.1 c8
    refine X_getstI (j := 3) rfl gz_J0_38 (show decode cJ0_init_db425 41 = .ok (.getstatic 38, 3) by decide +kernel) ?_
    refine X_if_eq (tgt := 79) (show decode cJ0_init_db425 44 = .ok (.ifCond .eq 35, 3) by decide +kernel) (by decide) ⟨fun c9 => ?_, fun c9 => ?_⟩
    · have w := w.1 c9
      refine X_pick (ls' := [(0, .ref _), (3, .ref _), (4, .int _)]) [0, 3, 4] rfl ?_
      exact kJ0_init_db425_J79  _ _ _ _ w
    · have w := w.2 c9
      refine X_aload_n (j := 1) (show decode cJ0_init_db425 47 = .ok (.aload_n 1, 1) by decide +kernel) rfl rfl ?_
      obtain ⟨s16, w⟩ := w
      refine X_getI fl_J0_1048 (show decode cJ0_init_db425 48 = .ok (.getfield 1048, 3) by decide +kernel) s16 ?_
      refine X_if_eq (tgt := 79) (show decode cJ0_init_db425 51 = .ok (.ifCond .eq 28, 3) by decide +kernel) (by decide) ⟨fun c17 => ?_, fun c17 => ?_⟩
      · have w := w.1 c17
        refine X_pick (ls' := [(0, .ref _), (3, .ref _), (4, .int _)]) [0, 3, 4] rfl ?_
        exact kJ0_init_db425_J79  _ _ _ _ w
      · have w := w.2 c17
        exact w.elim
  · have w := w.2 c8
    refine X_aload_n (j := 0) (show decode cJ0_init_db425 22 = .ok (.aload_n 0, 1) by decide +kernel) rfl rfl ?_
    refine X_iconst (v := (nI 0)) (show decode cJ0_init_db425 23 = .ok (.iconst 0, 1) by decide +kernel) (by decide) ?_
    obtain ⟨s18, w⟩ := w
    refine X_putI fp_J0_15 (show decode cJ0_init_db425 24 = .ok (.putfield 15, 3) by decide +kernel) (fun _ => rfl) s18 (by decide) (by decide) ?_
    have w := w _ rfl
    refine X_aload_n (j := 0) (show decode cJ0_init_db425 27 = .ok (.aload_n 0, 1) by decide +kernel) rfl rfl ?_
    refine X_aload_n (j := 3) (show decode cJ0_init_db425 28 = .ok (.aload_n 3, 1) by decide +kernel) rfl rfl ?_
    refine X_iconst (v := (nI 0)) (show decode cJ0_init_db425 29 = .ok (.iconst 0, 1) by decide +kernel) (by decide) ?_
    refine X_iload (j := 4) (show decode cJ0_init_db425 30 = .ok (.iload 4, 2) by decide +kernel) rfl ?_
    refine X_sR (rc' := 0) (rs' := 0) (as := [.ref _, .int _, .int _]) ms_J0_54 (show decode cJ0_init_db425 32 = .ok (.invokestatic 54, 3) by decide +kernel) (by decide) (Nat.le_of_ble_eq_true rfl) (Nat.le_of_ble_eq_true rfl) rfl rfl (Nat.le_of_ble_eq_true rfl) (kJ7_copyOfRange_39247 w) (fun E h hk => hk.elim) (fun r21 h20 w => ?_)
    obtain ⟨s22, w⟩ := w
    refine X_putR fp_J0_9 (show decode cJ0_init_db425 35 = .ok (.putfield 9, 3) by decide +kernel) (fun _ => rfl) (by first | exact Or.inl ⟨_, rfl⟩ | exact Or.inr ⟨_, rfl⟩) s22 ?_
    have w := w _ rfl
    refine X_goto (tgt := 97) (show decode cJ0_init_db425 38 = .ok (.goto 59, 3) by decide +kernel) (by decide) ?_
    exact X_vret ⟨(show decode cJ0_init_db425 97 = .ok (.return_, 1) by decide +kernel), rfl⟩ ⟨rfl, w⟩
set_option maxRecDepth 100000 in
set_option maxHeartbeats 4000000 in
theorem kJ0_init_81219 {a0 : Nat} {a1 : Nat} {h : AH} {K : AH → Prop} (w : wJ0_init_81219 a0 a1 h K) : Cn mJ0_init_81219 (cwd mJ0_init_81219) 12 2 262 [.ref a0, .ref a1] h (KV K) T0 := by
  refine Cn_of (by decide +kernel) rfl (Nat.le_of_ble_eq_true rfl) ?_
  show X mJ0_init_81219 12 (KV K) T0 2 262 0 [(0, .ref a0), (1, .ref a1)] [] h
  unfold wJ0_init_81219 at w
  refine X_aload_n (j := 0) (show decode cJ0_init_81219 0 = .ok (.aload_n 0, 1) by decide +kernel) rfl rfl ?_
  refine X_aload_n (j := 1) (show decode cJ0_init_81219 1 = .ok (.aload_n 1, 1) by decide +kernel) rfl rfl ?_
  refine X_aconst_null (show decode cJ0_init_81219 2 = .ok (.aconst_null, 1) by decide +kernel) ?_
  obtain ⟨s3, w⟩ := w
  refine X_iV (rc' := 0) (rs' := 0) (as := [.ref _, .ref _]) mi_J0_489 (show decode cJ0_init_81219 3 = .ok (.invokespecial 489, 3) by decide +kernel) (by decide) (Nat.le_of_ble_eq_true rfl) (Nat.le_of_ble_eq_true rfl) rfl rfl (Nat.le_of_ble_eq_true rfl) s3 (kJ0_init_db425 w) (fun h1 w => ?_)
  exact X_vret ⟨(show decode cJ0_init_81219 6 = .ok (.return_, 1) by decide +kernel), rfl⟩ ⟨rfl, w⟩
set_option maxRecDepth 100000 in
set_option maxHeartbeats 4000000 in
theorem kJ4_toString_0e30d {a0 : Nat} {h : AH} {K : Nat → AH → Prop} (w : wJ4_toString_0e30d a0 h K) : Cn mJ4_toString_0e30d (cwd mJ4_toString_0e30d) 13 3 266 [.ref a0] h (KR K) T0 := by
  refine Cn_of (by decide +kernel) rfl (Nat.le_of_ble_eq_true rfl) ?_
  show X mJ4_toString_0e30d 13 (KR K) T0 3 266 0 [(0, .ref a0)] [] h
  unfold wJ4_toString_0e30d at w
  refine X_new (rc' := 2) (rs' := 262) nw_J4_18 (show decode cJ4_toString_0e30d 0 = .ok (.new 18, 3) by decide +kernel) (Nat.le_of_ble_eq_true rfl) (Nat.le_of_ble_eq_true rfl) ?_
  have w := w _ rfl
  refine X_dup (show decode cJ4_toString_0e30d 3 = .ok (.dup, 1) by decide +kernel) rfl ?_
  refine X_aload_n (j := 0) (show decode cJ4_toString_0e30d 4 = .ok (.aload_n 0, 1) by decide +kernel) rfl rfl ?_
  obtain ⟨s4, w⟩ := w
  refine X_iV (rc' := 0) (rs' := 0) (as := [.ref _]) mi_J4_137 (show decode cJ4_toString_0e30d 5 = .ok (.invokespecial 137, 3) by decide +kernel) (by decide) (Nat.le_of_ble_eq_true rfl) (Nat.le_of_ble_eq_true rfl) rfl rfl (Nat.le_of_ble_eq_true rfl) s4 (kJ0_init_81219 w) (fun h2 w => ?_)
  exact X_aret ⟨(show decode cJ4_toString_0e30d 8 = .ok (.areturn, 1) by decide +kernel), Or.inl ⟨_, rfl⟩⟩ ⟨_, rfl, w⟩
set_option maxRecDepth 100000 in
set_option maxHeartbeats 4000000 in
theorem kL_does_J305 {K : Int32 → AH → Prop}   (y0 : Nat) (y1 : Int32) (h : AH) (w : wL_does_J305 K  y0 y1 h) : X mL_does 14 (KI K) T0 1 6 305 [] [.int y1, .ref y0] h := by
  unfold wL_does_J305 at w
  refine X_sH (rc' := 0) (rs' := 0) (as := [.ref _, .int _]) msh_L_256 (show decode cL_does 305 = .ok (.invokestatic 256, 3) by decide +kernel) (by decide) (Nat.le_of_ble_eq_true rfl) (Nat.le_of_ble_eq_true rfl) rfl rfl (Nat.le_of_ble_eq_true rfl) (kL_addBlock w) (fun r15 h14 w => ?_)
  exact X_iret ⟨(show decode cL_does 308 = .ok (.ireturn, 1) by decide +kernel), .int, rfl, rfl⟩ ⟨_, rfl, w⟩
set_option maxRecDepth 100000 in
set_option maxHeartbeats 4000000 in
theorem kL_does_J493 {K : Int32 → AH → Prop}   (y0 : Nat) (y1 : Nat) (y2 : Nat) (h : AH) (w : wL_does_J493 K  y0 y1 y2 h) : X mL_does 14 (KI K) T0 20 618 493 [] [.ref y2, .ref y1, .ref y0] h := by
  unfold wL_does_J493 at w
  obtain ⟨s92, w⟩ := w
  refine X_vR (rc' := 19) (rs' := 362) (as := [.ref _]) mv_L_280 (show decode cL_does 493 = .ok (.invokevirtual 280, 3) by decide +kernel) (by decide) (Nat.le_of_ble_eq_true rfl) (Nat.le_of_ble_eq_true rfl) rfl rfl (Nat.le_of_ble_eq_true rfl) (rcvD s92 (by decide) rfl) (kJ4_append_15ec4 w) (fun E h hk => hk.elim) (fun r86 h85 w => ?_)
  obtain ⟨s91, w⟩ := w
  refine X_vR (rc' := 16) (rs' := 96) (as := []) mv_L_289 (show decode cL_does 496 = .ok (.invokevirtual 289, 3) by decide +kernel) (by decide) (Nat.le_of_ble_eq_true rfl) (Nat.le_of_ble_eq_true rfl) rfl rfl (Nat.le_of_ble_eq_true rfl) (rcvD s91 (by decide) rfl) (kJ4_toString_0e30d w) (fun E h hk => hk.elim) (fun r88 h87 w => ?_)
  refine X_sI (rc' := 0) (rs' := 0) (as := [.ref _, .ref _]) ms_L_299 (show decode cL_does 499 = .ok (.invokestatic 299, 3) by decide +kernel) (by decide) (Nat.le_of_ble_eq_true rfl) (Nat.le_of_ble_eq_true rfl) rfl rfl (Nat.le_of_ble_eq_true rfl) (kL_runs w) (fun E h hk => hk.elim) (fun r90 h89 w => ?_)
  exact X_iret ⟨(show decode cL_does 502 = .ok (.ireturn, 1) by decide +kernel), .int, rfl, rfl⟩ ⟨_, rfl, w⟩
set_option maxRecDepth 100000 in
set_option maxHeartbeats 4000000 in
theorem kL_does_J47 {K : Int32 → AH → Prop}   (x2 : Int32) (x3 : Nat) (x4 : Int32) (x5 : Int32) (x6 : Int32) (x7 : Int32) (y0 : Int32) (y1 : Int32) (h : AH) (w : wL_does_J47 K  x2 x3 x4 x5 x6 x7 y0 y1 h) : X mL_does 14 (KI K) T0 31 2428 47 [(2, .int x2), (3, .ref x3), (4, .int x4), (5, .int x5), (6, .int x6), (7, .int x7)] [.int y1, .int y0] h := by
  unfold wL_does_J47 at w
  refine X_iadd (show decode cL_does 47 = .ok (.iadd, 1) by decide +kernel) ?_
  refine X_istore (ls' := [(2, .int _), (3, .ref _), (4, .int _), (5, .int _), (6, .int _), (7, .int _), (8, .int _)]) (show decode cL_does 48 = .ok (.istore 8, 2) by decide +kernel) (by decide) rfl ?_
  refine X_iload (j := 5) (show decode cL_does 50 = .ok (.iload 7, 2) by decide +kernel) rfl ?_
  refine X_iload (j := 6) (show decode cL_does 52 = .ok (.iload 8, 2) by decide +kernel) rfl ?_
  obtain ⟨s8, w⟩ := w
  refine X_irem (show decode cL_does 54 = .ok (.irem, 1) by decide +kernel) s8 ?_
  refine X_istore (ls' := [(2, .int _), (3, .ref _), (4, .int _), (5, .int _), (6, .int _), (7, .int _), (8, .int _), (9, .int _)]) (show decode cL_does 55 = .ok (.istore 9, 2) by decide +kernel) (by decide) rfl ?_
  refine X_iload (j := 5) (show decode cL_does 57 = .ok (.iload 7, 2) by decide +kernel) rfl ?_
  refine X_bipush (v := (nI 12)) (show decode cL_does 59 = .ok (.bipush 12, 2) by decide +kernel) (by decide) ?_
  refine X_idiv (show decode cL_does 61 = .ok (.idiv, 1) by decide +kernel) (by decide) ?_
  refine X_iload (j := 6) (show decode cL_does 62 = .ok (.iload 8, 2) by decide +kernel) rfl ?_
  refine X_irem (show decode cL_does 64 = .ok (.irem, 1) by decide +kernel) s8 ?_
  refine X_topi (fun v9 e10 => ?_)
  have w := w v9 e10
  refine X_istore (ls' := [(2, .int _), (3, .ref _), (4, .int _), (5, .int _), (6, .int _), (7, .int _), (8, .int _), (9, .int _), (10, .int _)]) (show decode cL_does 65 = .ok (.istore 10, 2) by decide +kernel) (by decide) rfl ?_
  refine X_iload (j := 5) (show decode cL_does 67 = .ok (.iload 7, 2) by decide +kernel) rfl ?_
  refine X_sipush (v := (nI 144)) (show decode cL_does 69 = .ok (.sipush 144, 3) by decide +kernel) (by decide) ?_
  refine X_idiv (show decode cL_does 72 = .ok (.idiv, 1) by decide +kernel) (by decide) ?_
  refine X_iload (j := 6) (show decode cL_does 73 = .ok (.iload 8, 2) by decide +kernel) rfl ?_
  refine X_irem (show decode cL_does 75 = .ok (.irem, 1) by decide +kernel) s8 ?_
  refine X_topi (fun v11 e12 => ?_)
  have w := w v11 e12
  refine X_istore (ls' := [(2, .int _), (3, .ref _), (4, .int _), (5, .int _), (6, .int _), (7, .int _), (8, .int _), (9, .int _), (10, .int _), (11, .int _)]) (show decode cL_does 76 = .ok (.istore 11, 2) by decide +kernel) (by decide) rfl ?_
  refine X_iload_n (j := 0) (show decode cL_does 78 = .ok (.iload_n 2, 1) by decide +kernel) rfl rfl ?_
  by_cases z0 : x2 = (nI 0)
  · have w := w.1 z0
    refine X_tableIn (tgt := 284) (show decode cL_does 79 = .ok (.tableswitch 424 0 47 #[205, 205, 230, 230, 230, 230, 241, 241, 241, 241, 241, 250, 257, 264, 274, 274, 274, 274, 274, 274, 274, 274, 283, 283, 283, 283, 283, 283, 290, 290, 290, 424, 424, 424, 424, 424, 424, 424, 424, 424, 424, 424, 424, 424, 424, 424, 297, 297], 205) by decide +kernel) (by rw [z0]; decide) (by rw [z0]; decide) (by rw [z0] <;> rfl) (by decide) ?_
    refine X_aload_n (j := 1) (show decode cL_does 284 = .ok (.aload_n 3, 1) by decide +kernel) rfl rfl ?_
    refine X_iload (j := 4) (show decode cL_does 285 = .ok (.iload 6, 2) by decide +kernel) rfl ?_
    refine X_bipush (v := (nI 19)) (show decode cL_does 287 = .ok (.bipush 19, 2) by decide +kernel) (by decide) ?_
    refine X_irem (show decode cL_does 289 = .ok (.irem, 1) by decide +kernel) (by decide) ?_
    refine X_if_ne (tgt := 298) (show decode cL_does 290 = .ok (.ifCond .ne 8, 3) by decide +kernel) (by decide) ⟨fun c13 => ?_, fun c13 => ?_⟩
    · have w := w.1 c13
      refine X_iconst (v := (nI 1)) (show decode cL_does 298 = .ok (.iconst 1, 1) by decide +kernel) (by decide) ?_
      refine X_iload (j := 4) (show decode cL_does 299 = .ok (.iload 6, 2) by decide +kernel) rfl ?_
      refine X_bipush (v := (nI 9)) (show decode cL_does 301 = .ok (.bipush 9, 2) by decide +kernel) (by decide) ?_
      refine X_irem (show decode cL_does 303 = .ok (.irem, 1) by decide +kernel) (by decide) ?_
      refine X_iadd (show decode cL_does 304 = .ok (.iadd, 1) by decide +kernel) ?_
      refine X_room (rc' := 1) (rs' := 6) (Nat.le_of_ble_eq_true rfl) (Nat.le_of_ble_eq_true rfl) ?_
      refine X_pick (ls' := []) [] rfl ?_
      exact kL_does_J305  _ _ _ w
    · have w := w.2 c13
      refine X_bipush (v := (nI 10)) (show decode cL_does 293 = .ok (.bipush 10, 2) by decide +kernel) (by decide) ?_
      refine X_goto (tgt := 305) (show decode cL_does 295 = .ok (.goto 10, 3) by decide +kernel) (by decide) ?_
      refine X_room (rc' := 1) (rs' := 6) (Nat.le_of_ble_eq_true rfl) (Nat.le_of_ble_eq_true rfl) ?_
      refine X_pick (ls' := []) [] rfl ?_
      exact kL_does_J305  _ _ _ w
  by_cases z1 : x2 = (nI 1)
  · have w := w.2.1 z1
    refine X_tableIn (tgt := 284) (show decode cL_does 79 = .ok (.tableswitch 424 0 47 #[205, 205, 230, 230, 230, 230, 241, 241, 241, 241, 241, 250, 257, 264, 274, 274, 274, 274, 274, 274, 274, 274, 283, 283, 283, 283, 283, 283, 290, 290, 290, 424, 424, 424, 424, 424, 424, 424, 424, 424, 424, 424, 424, 424, 424, 424, 297, 297], 205) by decide +kernel) (by rw [z1]; decide) (by rw [z1]; decide) (by rw [z1] <;> rfl) (by decide) ?_
    refine X_aload_n (j := 1) (show decode cL_does 284 = .ok (.aload_n 3, 1) by decide +kernel) rfl rfl ?_
    refine X_iload (j := 4) (show decode cL_does 285 = .ok (.iload 6, 2) by decide +kernel) rfl ?_
    refine X_bipush (v := (nI 19)) (show decode cL_does 287 = .ok (.bipush 19, 2) by decide +kernel) (by decide) ?_
    refine X_irem (show decode cL_does 289 = .ok (.irem, 1) by decide +kernel) (by decide) ?_
    refine X_if_ne (tgt := 298) (show decode cL_does 290 = .ok (.ifCond .ne 8, 3) by decide +kernel) (by decide) ⟨fun c16 => ?_, fun c16 => ?_⟩
    · have w := w.1 c16
      refine X_iconst (v := (nI 1)) (show decode cL_does 298 = .ok (.iconst 1, 1) by decide +kernel) (by decide) ?_
      refine X_iload (j := 4) (show decode cL_does 299 = .ok (.iload 6, 2) by decide +kernel) rfl ?_
      refine X_bipush (v := (nI 9)) (show decode cL_does 301 = .ok (.bipush 9, 2) by decide +kernel) (by decide) ?_
      refine X_irem (show decode cL_does 303 = .ok (.irem, 1) by decide +kernel) (by decide) ?_
      refine X_iadd (show decode cL_does 304 = .ok (.iadd, 1) by decide +kernel) ?_
      refine X_room (rc' := 1) (rs' := 6) (Nat.le_of_ble_eq_true rfl) (Nat.le_of_ble_eq_true rfl) ?_
      refine X_pick (ls' := []) [] rfl ?_
      exact kL_does_J305  _ _ _ w
    · have w := w.2 c16
      refine X_bipush (v := (nI 10)) (show decode cL_does 293 = .ok (.bipush 10, 2) by decide +kernel) (by decide) ?_
      refine X_goto (tgt := 305) (show decode cL_does 295 = .ok (.goto 10, 3) by decide +kernel) (by decide) ?_
      refine X_room (rc' := 1) (rs' := 6) (Nat.le_of_ble_eq_true rfl) (Nat.le_of_ble_eq_true rfl) ?_
      refine X_pick (ls' := []) [] rfl ?_
      exact kL_does_J305  _ _ _ w
  by_cases z2 : x2 = (nI 2)
  · have w := w.2.2.1 z2
    refine X_tableIn (tgt := 309) (show decode cL_does 79 = .ok (.tableswitch 424 0 47 #[205, 205, 230, 230, 230, 230, 241, 241, 241, 241, 241, 250, 257, 264, 274, 274, 274, 274, 274, 274, 274, 274, 283, 283, 283, 283, 283, 283, 290, 290, 290, 424, 424, 424, 424, 424, 424, 424, 424, 424, 424, 424, 424, 424, 424, 424, 297, 297], 205) by decide +kernel) (by rw [z2]; decide) (by rw [z2]; decide) (by rw [z2] <;> rfl) (by decide) ?_
    refine X_aload_n (j := 1) (show decode cL_does 309 = .ok (.aload_n 3, 1) by decide +kernel) rfl rfl ?_
    refine X_iload (j := 7) (show decode cL_does 310 = .ok (.iload 9, 2) by decide +kernel) rfl ?_
    refine X_iload (j := 8) (show decode cL_does 312 = .ok (.iload 10, 2) by decide +kernel) rfl ?_
    refine X_iload (j := 9) (show decode cL_does 314 = .ok (.iload 11, 2) by decide +kernel) rfl ?_
    refine X_sH (rc' := 30) (rs' := 2422) (as := [.ref _, .int _, .int _, .int _]) msh_L_258 (show decode cL_does 316 = .ok (.invokestatic 258, 3) by decide +kernel) (by decide) (Nat.le_of_ble_eq_true rfl) (Nat.le_of_ble_eq_true rfl) rfl rfl (Nat.le_of_ble_eq_true rfl) (kL_addPoint w) (fun r18 h17 w => ?_)
    exact X_iret ⟨(show decode cL_does 319 = .ok (.ireturn, 1) by decide +kernel), .int, rfl, rfl⟩ ⟨_, rfl, w⟩
  by_cases z3 : x2 = (nI 3)
  · have w := w.2.2.2.1 z3
    refine X_tableIn (tgt := 309) (show decode cL_does 79 = .ok (.tableswitch 424 0 47 #[205, 205, 230, 230, 230, 230, 241, 241, 241, 241, 241, 250, 257, 264, 274, 274, 274, 274, 274, 274, 274, 274, 283, 283, 283, 283, 283, 283, 290, 290, 290, 424, 424, 424, 424, 424, 424, 424, 424, 424, 424, 424, 424, 424, 424, 424, 297, 297], 205) by decide +kernel) (by rw [z3]; decide) (by rw [z3]; decide) (by rw [z3] <;> rfl) (by decide) ?_
    refine X_aload_n (j := 1) (show decode cL_does 309 = .ok (.aload_n 3, 1) by decide +kernel) rfl rfl ?_
    refine X_iload (j := 7) (show decode cL_does 310 = .ok (.iload 9, 2) by decide +kernel) rfl ?_
    refine X_iload (j := 8) (show decode cL_does 312 = .ok (.iload 10, 2) by decide +kernel) rfl ?_
    refine X_iload (j := 9) (show decode cL_does 314 = .ok (.iload 11, 2) by decide +kernel) rfl ?_
    refine X_sH (rc' := 30) (rs' := 2422) (as := [.ref _, .int _, .int _, .int _]) msh_L_258 (show decode cL_does 316 = .ok (.invokestatic 258, 3) by decide +kernel) (by decide) (Nat.le_of_ble_eq_true rfl) (Nat.le_of_ble_eq_true rfl) rfl rfl (Nat.le_of_ble_eq_true rfl) (kL_addPoint w) (fun r20 h19 w => ?_)
    exact X_iret ⟨(show decode cL_does 319 = .ok (.ireturn, 1) by decide +kernel), .int, rfl, rfl⟩ ⟨_, rfl, w⟩
  by_cases z4 : x2 = (nI 4)
  · have w := w.2.2.2.2.1 z4
    refine X_tableIn (tgt := 309) (show decode cL_does 79 = .ok (.tableswitch 424 0 47 #[205, 205, 230, 230, 230, 230, 241, 241, 241, 241, 241, 250, 257, 264, 274, 274, 274, 274, 274, 274, 274, 274, 283, 283, 283, 283, 283, 283, 290, 290, 290, 424, 424, 424, 424, 424, 424, 424, 424, 424, 424, 424, 424, 424, 424, 424, 297, 297], 205) by decide +kernel) (by rw [z4]; decide) (by rw [z4]; decide) (by rw [z4] <;> rfl) (by decide) ?_
    refine X_aload_n (j := 1) (show decode cL_does 309 = .ok (.aload_n 3, 1) by decide +kernel) rfl rfl ?_
    refine X_iload (j := 7) (show decode cL_does 310 = .ok (.iload 9, 2) by decide +kernel) rfl ?_
    refine X_iload (j := 8) (show decode cL_does 312 = .ok (.iload 10, 2) by decide +kernel) rfl ?_
    refine X_iload (j := 9) (show decode cL_does 314 = .ok (.iload 11, 2) by decide +kernel) rfl ?_
    refine X_sH (rc' := 30) (rs' := 2422) (as := [.ref _, .int _, .int _, .int _]) msh_L_258 (show decode cL_does 316 = .ok (.invokestatic 258, 3) by decide +kernel) (by decide) (Nat.le_of_ble_eq_true rfl) (Nat.le_of_ble_eq_true rfl) rfl rfl (Nat.le_of_ble_eq_true rfl) (kL_addPoint w) (fun r22 h21 w => ?_)
    exact X_iret ⟨(show decode cL_does 319 = .ok (.ireturn, 1) by decide +kernel), .int, rfl, rfl⟩ ⟨_, rfl, w⟩
  by_cases z5 : x2 = (nI 5)
  · have w := w.2.2.2.2.2.1 z5
    refine X_tableIn (tgt := 309) (show decode cL_does 79 = .ok (.tableswitch 424 0 47 #[205, 205, 230, 230, 230, 230, 241, 241, 241, 241, 241, 250, 257, 264, 274, 274, 274, 274, 274, 274, 274, 274, 283, 283, 283, 283, 283, 283, 290, 290, 290, 424, 424, 424, 424, 424, 424, 424, 424, 424, 424, 424, 424, 424, 424, 424, 297, 297], 205) by decide +kernel) (by rw [z5]; decide) (by rw [z5]; decide) (by rw [z5] <;> rfl) (by decide) ?_
    refine X_aload_n (j := 1) (show decode cL_does 309 = .ok (.aload_n 3, 1) by decide +kernel) rfl rfl ?_
    refine X_iload (j := 7) (show decode cL_does 310 = .ok (.iload 9, 2) by decide +kernel) rfl ?_
    refine X_iload (j := 8) (show decode cL_does 312 = .ok (.iload 10, 2) by decide +kernel) rfl ?_
    refine X_iload (j := 9) (show decode cL_does 314 = .ok (.iload 11, 2) by decide +kernel) rfl ?_
    refine X_sH (rc' := 30) (rs' := 2422) (as := [.ref _, .int _, .int _, .int _]) msh_L_258 (show decode cL_does 316 = .ok (.invokestatic 258, 3) by decide +kernel) (by decide) (Nat.le_of_ble_eq_true rfl) (Nat.le_of_ble_eq_true rfl) rfl rfl (Nat.le_of_ble_eq_true rfl) (kL_addPoint w) (fun r24 h23 w => ?_)
    exact X_iret ⟨(show decode cL_does 319 = .ok (.ireturn, 1) by decide +kernel), .int, rfl, rfl⟩ ⟨_, rfl, w⟩
  by_cases z6 : x2 = (nI 6)
  · have w := w.2.2.2.2.2.2.1 z6
    refine X_tableIn (tgt := 320) (show decode cL_does 79 = .ok (.tableswitch 424 0 47 #[205, 205, 230, 230, 230, 230, 241, 241, 241, 241, 241, 250, 257, 264, 274, 274, 274, 274, 274, 274, 274, 274, 283, 283, 283, 283, 283, 283, 290, 290, 290, 424, 424, 424, 424, 424, 424, 424, 424, 424, 424, 424, 424, 424, 424, 424, 297, 297], 205) by decide +kernel) (by rw [z6]; decide) (by rw [z6]; decide) (by rw [z6] <;> rfl) (by decide) ?_
    refine X_aload_n (j := 1) (show decode cL_does 320 = .ok (.aload_n 3, 1) by decide +kernel) rfl rfl ?_
    refine X_iload (j := 7) (show decode cL_does 321 = .ok (.iload 9, 2) by decide +kernel) rfl ?_
    refine X_iload (j := 8) (show decode cL_does 323 = .ok (.iload 10, 2) by decide +kernel) rfl ?_
    refine X_sH (rc' := 30) (rs' := 2422) (as := [.ref _, .int _, .int _]) msh_L_261 (show decode cL_does 325 = .ok (.invokestatic 261, 3) by decide +kernel) (by decide) (Nat.le_of_ble_eq_true rfl) (Nat.le_of_ble_eq_true rfl) rfl rfl (Nat.le_of_ble_eq_true rfl) (kL_addLink w) (fun r26 h25 w => ?_)
    exact X_iret ⟨(show decode cL_does 328 = .ok (.ireturn, 1) by decide +kernel), .int, rfl, rfl⟩ ⟨_, rfl, w⟩
  by_cases z7 : x2 = (nI 7)
  · have w := w.2.2.2.2.2.2.2.1 z7
    refine X_tableIn (tgt := 320) (show decode cL_does 79 = .ok (.tableswitch 424 0 47 #[205, 205, 230, 230, 230, 230, 241, 241, 241, 241, 241, 250, 257, 264, 274, 274, 274, 274, 274, 274, 274, 274, 283, 283, 283, 283, 283, 283, 290, 290, 290, 424, 424, 424, 424, 424, 424, 424, 424, 424, 424, 424, 424, 424, 424, 424, 297, 297], 205) by decide +kernel) (by rw [z7]; decide) (by rw [z7]; decide) (by rw [z7] <;> rfl) (by decide) ?_
    refine X_aload_n (j := 1) (show decode cL_does 320 = .ok (.aload_n 3, 1) by decide +kernel) rfl rfl ?_
    refine X_iload (j := 7) (show decode cL_does 321 = .ok (.iload 9, 2) by decide +kernel) rfl ?_
    refine X_iload (j := 8) (show decode cL_does 323 = .ok (.iload 10, 2) by decide +kernel) rfl ?_
    refine X_sH (rc' := 30) (rs' := 2422) (as := [.ref _, .int _, .int _]) msh_L_261 (show decode cL_does 325 = .ok (.invokestatic 261, 3) by decide +kernel) (by decide) (Nat.le_of_ble_eq_true rfl) (Nat.le_of_ble_eq_true rfl) rfl rfl (Nat.le_of_ble_eq_true rfl) (kL_addLink w) (fun r28 h27 w => ?_)
    exact X_iret ⟨(show decode cL_does 328 = .ok (.ireturn, 1) by decide +kernel), .int, rfl, rfl⟩ ⟨_, rfl, w⟩
  by_cases z8 : x2 = (nI 8)
  · have w := w.2.2.2.2.2.2.2.2.1 z8
    refine X_tableIn (tgt := 320) (show decode cL_does 79 = .ok (.tableswitch 424 0 47 #[205, 205, 230, 230, 230, 230, 241, 241, 241, 241, 241, 250, 257, 264, 274, 274, 274, 274, 274, 274, 274, 274, 283, 283, 283, 283, 283, 283, 290, 290, 290, 424, 424, 424, 424, 424, 424, 424, 424, 424, 424, 424, 424, 424, 424, 424, 297, 297], 205) by decide +kernel) (by rw [z8]; decide) (by rw [z8]; decide) (by rw [z8] <;> rfl) (by decide) ?_
    refine X_aload_n (j := 1) (show decode cL_does 320 = .ok (.aload_n 3, 1) by decide +kernel) rfl rfl ?_
    refine X_iload (j := 7) (show decode cL_does 321 = .ok (.iload 9, 2) by decide +kernel) rfl ?_
    refine X_iload (j := 8) (show decode cL_does 323 = .ok (.iload 10, 2) by decide +kernel) rfl ?_
    refine X_sH (rc' := 30) (rs' := 2422) (as := [.ref _, .int _, .int _]) msh_L_261 (show decode cL_does 325 = .ok (.invokestatic 261, 3) by decide +kernel) (by decide) (Nat.le_of_ble_eq_true rfl) (Nat.le_of_ble_eq_true rfl) rfl rfl (Nat.le_of_ble_eq_true rfl) (kL_addLink w) (fun r30 h29 w => ?_)
    exact X_iret ⟨(show decode cL_does 328 = .ok (.ireturn, 1) by decide +kernel), .int, rfl, rfl⟩ ⟨_, rfl, w⟩
  by_cases z9 : x2 = (nI 9)
  · have w := w.2.2.2.2.2.2.2.2.2.1 z9
    refine X_tableIn (tgt := 320) (show decode cL_does 79 = .ok (.tableswitch 424 0 47 #[205, 205, 230, 230, 230, 230, 241, 241, 241, 241, 241, 250, 257, 264, 274, 274, 274, 274, 274, 274, 274, 274, 283, 283, 283, 283, 283, 283, 290, 290, 290, 424, 424, 424, 424, 424, 424, 424, 424, 424, 424, 424, 424, 424, 424, 424, 297, 297], 205) by decide +kernel) (by rw [z9]; decide) (by rw [z9]; decide) (by rw [z9] <;> rfl) (by decide) ?_
    refine X_aload_n (j := 1) (show decode cL_does 320 = .ok (.aload_n 3, 1) by decide +kernel) rfl rfl ?_
    refine X_iload (j := 7) (show decode cL_does 321 = .ok (.iload 9, 2) by decide +kernel) rfl ?_
    refine X_iload (j := 8) (show decode cL_does 323 = .ok (.iload 10, 2) by decide +kernel) rfl ?_
    refine X_sH (rc' := 30) (rs' := 2422) (as := [.ref _, .int _, .int _]) msh_L_261 (show decode cL_does 325 = .ok (.invokestatic 261, 3) by decide +kernel) (by decide) (Nat.le_of_ble_eq_true rfl) (Nat.le_of_ble_eq_true rfl) rfl rfl (Nat.le_of_ble_eq_true rfl) (kL_addLink w) (fun r32 h31 w => ?_)
    exact X_iret ⟨(show decode cL_does 328 = .ok (.ireturn, 1) by decide +kernel), .int, rfl, rfl⟩ ⟨_, rfl, w⟩
  by_cases z10 : x2 = (nI 10)
  · have w := w.2.2.2.2.2.2.2.2.2.2.1 z10
    refine X_tableIn (tgt := 320) (show decode cL_does 79 = .ok (.tableswitch 424 0 47 #[205, 205, 230, 230, 230, 230, 241, 241, 241, 241, 241, 250, 257, 264, 274, 274, 274, 274, 274, 274, 274, 274, 283, 283, 283, 283, 283, 283, 290, 290, 290, 424, 424, 424, 424, 424, 424, 424, 424, 424, 424, 424, 424, 424, 424, 424, 297, 297], 205) by decide +kernel) (by rw [z10]; decide) (by rw [z10]; decide) (by rw [z10] <;> rfl) (by decide) ?_
    refine X_aload_n (j := 1) (show decode cL_does 320 = .ok (.aload_n 3, 1) by decide +kernel) rfl rfl ?_
    refine X_iload (j := 7) (show decode cL_does 321 = .ok (.iload 9, 2) by decide +kernel) rfl ?_
    refine X_iload (j := 8) (show decode cL_does 323 = .ok (.iload 10, 2) by decide +kernel) rfl ?_
    refine X_sH (rc' := 30) (rs' := 2422) (as := [.ref _, .int _, .int _]) msh_L_261 (show decode cL_does 325 = .ok (.invokestatic 261, 3) by decide +kernel) (by decide) (Nat.le_of_ble_eq_true rfl) (Nat.le_of_ble_eq_true rfl) rfl rfl (Nat.le_of_ble_eq_true rfl) (kL_addLink w) (fun r34 h33 w => ?_)
    exact X_iret ⟨(show decode cL_does 328 = .ok (.ireturn, 1) by decide +kernel), .int, rfl, rfl⟩ ⟨_, rfl, w⟩
  by_cases z11 : x2 = (nI 11)
  · have w := w.2.2.2.2.2.2.2.2.2.2.2.1 z11
    refine X_tableIn (tgt := 329) (show decode cL_does 79 = .ok (.tableswitch 424 0 47 #[205, 205, 230, 230, 230, 230, 241, 241, 241, 241, 241, 250, 257, 264, 274, 274, 274, 274, 274, 274, 274, 274, 283, 283, 283, 283, 283, 283, 290, 290, 290, 424, 424, 424, 424, 424, 424, 424, 424, 424, 424, 424, 424, 424, 424, 424, 297, 297], 205) by decide +kernel) (by rw [z11]; decide) (by rw [z11]; decide) (by rw [z11] <;> rfl) (by decide) ?_
    refine X_aload_n (j := 1) (show decode cL_does 329 = .ok (.aload_n 3, 1) by decide +kernel) rfl rfl ?_
    refine X_iload (j := 7) (show decode cL_does 330 = .ok (.iload 9, 2) by decide +kernel) rfl ?_
    refine X_sH (rc' := 30) (rs' := 2422) (as := [.ref _, .int _]) msh_L_263 (show decode cL_does 332 = .ok (.invokestatic 263, 3) by decide +kernel) (by decide) (Nat.le_of_ble_eq_true rfl) (Nat.le_of_ble_eq_true rfl) rfl rfl (Nat.le_of_ble_eq_true rfl) (kL_shut w) (fun r36 h35 w => ?_)
    exact X_iret ⟨(show decode cL_does 335 = .ok (.ireturn, 1) by decide +kernel), .int, rfl, rfl⟩ ⟨_, rfl, w⟩
  by_cases z12 : x2 = (nI 12)
  · have w := w.2.2.2.2.2.2.2.2.2.2.2.2.1 z12
    refine X_tableIn (tgt := 336) (show decode cL_does 79 = .ok (.tableswitch 424 0 47 #[205, 205, 230, 230, 230, 230, 241, 241, 241, 241, 241, 250, 257, 264, 274, 274, 274, 274, 274, 274, 274, 274, 283, 283, 283, 283, 283, 283, 290, 290, 290, 424, 424, 424, 424, 424, 424, 424, 424, 424, 424, 424, 424, 424, 424, 424, 297, 297], 205) by decide +kernel) (by rw [z12]; decide) (by rw [z12]; decide) (by rw [z12] <;> rfl) (by decide) ?_
    refine X_aload_n (j := 1) (show decode cL_does 336 = .ok (.aload_n 3, 1) by decide +kernel) rfl rfl ?_
    refine X_iload (j := 7) (show decode cL_does 337 = .ok (.iload 9, 2) by decide +kernel) rfl ?_
    refine X_sH (rc' := 30) (rs' := 2422) (as := [.ref _, .int _]) msh_L_265 (show decode cL_does 339 = .ok (.invokestatic 265, 3) by decide +kernel) (by decide) (Nat.le_of_ble_eq_true rfl) (Nat.le_of_ble_eq_true rfl) rfl rfl (Nat.le_of_ble_eq_true rfl) (kL_open w) (fun r38 h37 w => ?_)
    exact X_iret ⟨(show decode cL_does 342 = .ok (.ireturn, 1) by decide +kernel), .int, rfl, rfl⟩ ⟨_, rfl, w⟩
  by_cases z13 : x2 = (nI 13)
  · have w := w.2.2.2.2.2.2.2.2.2.2.2.2.2.1 z13
    refine X_tableIn (tgt := 343) (show decode cL_does 79 = .ok (.tableswitch 424 0 47 #[205, 205, 230, 230, 230, 230, 241, 241, 241, 241, 241, 250, 257, 264, 274, 274, 274, 274, 274, 274, 274, 274, 283, 283, 283, 283, 283, 283, 290, 290, 290, 424, 424, 424, 424, 424, 424, 424, 424, 424, 424, 424, 424, 424, 424, 424, 297, 297], 205) by decide +kernel) (by rw [z13]; decide) (by rw [z13]; decide) (by rw [z13] <;> rfl) (by decide) ?_
    refine X_aload_n (j := 1) (show decode cL_does 343 = .ok (.aload_n 3, 1) by decide +kernel) rfl rfl ?_
    refine X_iload (j := 4) (show decode cL_does 344 = .ok (.iload 6, 2) by decide +kernel) rfl ?_
    refine X_bipush (v := (nI 8)) (show decode cL_does 346 = .ok (.bipush 8, 2) by decide +kernel) (by decide) ?_
    refine X_irem (show decode cL_does 348 = .ok (.irem, 1) by decide +kernel) (by decide) ?_
    refine X_sH (rc' := 30) (rs' := 2422) (as := [.ref _, .int _]) msh_L_267 (show decode cL_does 349 = .ok (.invokestatic 267, 3) by decide +kernel) (by decide) (Nat.le_of_ble_eq_true rfl) (Nat.le_of_ble_eq_true rfl) rfl rfl (Nat.le_of_ble_eq_true rfl) (kL_throwPoint w) (fun r40 h39 w => ?_)
    exact X_iret ⟨(show decode cL_does 352 = .ok (.ireturn, 1) by decide +kernel), .int, rfl, rfl⟩ ⟨_, rfl, w⟩
  by_cases z14 : x2 = (nI 14)
  · have w := w.2.2.2.2.2.2.2.2.2.2.2.2.2.2.1 z14
    refine X_tableIn (tgt := 353) (show decode cL_does 79 = .ok (.tableswitch 424 0 47 #[205, 205, 230, 230, 230, 230, 241, 241, 241, 241, 241, 250, 257, 264, 274, 274, 274, 274, 274, 274, 274, 274, 283, 283, 283, 283, 283, 283, 290, 290, 290, 424, 424, 424, 424, 424, 424, 424, 424, 424, 424, 424, 424, 424, 424, 424, 297, 297], 205) by decide +kernel) (by rw [z14]; decide) (by rw [z14]; decide) (by rw [z14] <;> rfl) (by decide) ?_
    refine X_aload_n (j := 1) (show decode cL_does 353 = .ok (.aload_n 3, 1) by decide +kernel) rfl rfl ?_
    refine X_iload (j := 7) (show decode cL_does 354 = .ok (.iload 9, 2) by decide +kernel) rfl ?_
    refine X_iload (j := 8) (show decode cL_does 356 = .ok (.iload 10, 2) by decide +kernel) rfl ?_
    refine X_sH (rc' := 30) (rs' := 2422) (as := [.ref _, .int _, .int _]) msh_L_269 (show decode cL_does 358 = .ok (.invokestatic 269, 3) by decide +kernel) (by decide) (Nat.le_of_ble_eq_true rfl) (Nat.le_of_ble_eq_true rfl) rfl rfl (Nat.le_of_ble_eq_true rfl) (kL_addTrain w) (fun r42 h41 w => ?_)
    exact X_iret ⟨(show decode cL_does 361 = .ok (.ireturn, 1) by decide +kernel), .int, rfl, rfl⟩ ⟨_, rfl, w⟩
  by_cases z15 : x2 = (nI 15)
  · have w := w.2.2.2.2.2.2.2.2.2.2.2.2.2.2.2.1 z15
    refine X_tableIn (tgt := 353) (show decode cL_does 79 = .ok (.tableswitch 424 0 47 #[205, 205, 230, 230, 230, 230, 241, 241, 241, 241, 241, 250, 257, 264, 274, 274, 274, 274, 274, 274, 274, 274, 283, 283, 283, 283, 283, 283, 290, 290, 290, 424, 424, 424, 424, 424, 424, 424, 424, 424, 424, 424, 424, 424, 424, 424, 297, 297], 205) by decide +kernel) (by rw [z15]; decide) (by rw [z15]; decide) (by rw [z15] <;> rfl) (by decide) ?_
    refine X_aload_n (j := 1) (show decode cL_does 353 = .ok (.aload_n 3, 1) by decide +kernel) rfl rfl ?_
    refine X_iload (j := 7) (show decode cL_does 354 = .ok (.iload 9, 2) by decide +kernel) rfl ?_
    refine X_iload (j := 8) (show decode cL_does 356 = .ok (.iload 10, 2) by decide +kernel) rfl ?_
    refine X_sH (rc' := 30) (rs' := 2422) (as := [.ref _, .int _, .int _]) msh_L_269 (show decode cL_does 358 = .ok (.invokestatic 269, 3) by decide +kernel) (by decide) (Nat.le_of_ble_eq_true rfl) (Nat.le_of_ble_eq_true rfl) rfl rfl (Nat.le_of_ble_eq_true rfl) (kL_addTrain w) (fun r44 h43 w => ?_)
    exact X_iret ⟨(show decode cL_does 361 = .ok (.ireturn, 1) by decide +kernel), .int, rfl, rfl⟩ ⟨_, rfl, w⟩
  by_cases z16 : x2 = (nI 16)
  · have w := w.2.2.2.2.2.2.2.2.2.2.2.2.2.2.2.2.1 z16
    refine X_tableIn (tgt := 353) (show decode cL_does 79 = .ok (.tableswitch 424 0 47 #[205, 205, 230, 230, 230, 230, 241, 241, 241, 241, 241, 250, 257, 264, 274, 274, 274, 274, 274, 274, 274, 274, 283, 283, 283, 283, 283, 283, 290, 290, 290, 424, 424, 424, 424, 424, 424, 424, 424, 424, 424, 424, 424, 424, 424, 424, 297, 297], 205) by decide +kernel) (by rw [z16]; decide) (by rw [z16]; decide) (by rw [z16] <;> rfl) (by decide) ?_
    refine X_aload_n (j := 1) (show decode cL_does 353 = .ok (.aload_n 3, 1) by decide +kernel) rfl rfl ?_
    refine X_iload (j := 7) (show decode cL_does 354 = .ok (.iload 9, 2) by decide +kernel) rfl ?_
    refine X_iload (j := 8) (show decode cL_does 356 = .ok (.iload 10, 2) by decide +kernel) rfl ?_
    refine X_sH (rc' := 30) (rs' := 2422) (as := [.ref _, .int _, .int _]) msh_L_269 (show decode cL_does 358 = .ok (.invokestatic 269, 3) by decide +kernel) (by decide) (Nat.le_of_ble_eq_true rfl) (Nat.le_of_ble_eq_true rfl) rfl rfl (Nat.le_of_ble_eq_true rfl) (kL_addTrain w) (fun r46 h45 w => ?_)
    exact X_iret ⟨(show decode cL_does 361 = .ok (.ireturn, 1) by decide +kernel), .int, rfl, rfl⟩ ⟨_, rfl, w⟩
  by_cases z17 : x2 = (nI 17)
  · have w := w.2.2.2.2.2.2.2.2.2.2.2.2.2.2.2.2.2.1 z17
    refine X_tableIn (tgt := 353) (show decode cL_does 79 = .ok (.tableswitch 424 0 47 #[205, 205, 230, 230, 230, 230, 241, 241, 241, 241, 241, 250, 257, 264, 274, 274, 274, 274, 274, 274, 274, 274, 283, 283, 283, 283, 283, 283, 290, 290, 290, 424, 424, 424, 424, 424, 424, 424, 424, 424, 424, 424, 424, 424, 424, 424, 297, 297], 205) by decide +kernel) (by rw [z17]; decide) (by rw [z17]; decide) (by rw [z17] <;> rfl) (by decide) ?_
    refine X_aload_n (j := 1) (show decode cL_does 353 = .ok (.aload_n 3, 1) by decide +kernel) rfl rfl ?_
    refine X_iload (j := 7) (show decode cL_does 354 = .ok (.iload 9, 2) by decide +kernel) rfl ?_
    refine X_iload (j := 8) (show decode cL_does 356 = .ok (.iload 10, 2) by decide +kernel) rfl ?_
    refine X_sH (rc' := 30) (rs' := 2422) (as := [.ref _, .int _, .int _]) msh_L_269 (show decode cL_does 358 = .ok (.invokestatic 269, 3) by decide +kernel) (by decide) (Nat.le_of_ble_eq_true rfl) (Nat.le_of_ble_eq_true rfl) rfl rfl (Nat.le_of_ble_eq_true rfl) (kL_addTrain w) (fun r48 h47 w => ?_)
    exact X_iret ⟨(show decode cL_does 361 = .ok (.ireturn, 1) by decide +kernel), .int, rfl, rfl⟩ ⟨_, rfl, w⟩
  by_cases z18 : x2 = (nI 18)
  · have w := w.2.2.2.2.2.2.2.2.2.2.2.2.2.2.2.2.2.2.1 z18
    refine X_tableIn (tgt := 353) (show decode cL_does 79 = .ok (.tableswitch 424 0 47 #[205, 205, 230, 230, 230, 230, 241, 241, 241, 241, 241, 250, 257, 264, 274, 274, 274, 274, 274, 274, 274, 274, 283, 283, 283, 283, 283, 283, 290, 290, 290, 424, 424, 424, 424, 424, 424, 424, 424, 424, 424, 424, 424, 424, 424, 424, 297, 297], 205) by decide +kernel) (by rw [z18]; decide) (by rw [z18]; decide) (by rw [z18] <;> rfl) (by decide) ?_
    refine X_aload_n (j := 1) (show decode cL_does 353 = .ok (.aload_n 3, 1) by decide +kernel) rfl rfl ?_
    refine X_iload (j := 7) (show decode cL_does 354 = .ok (.iload 9, 2) by decide +kernel) rfl ?_
    refine X_iload (j := 8) (show decode cL_does 356 = .ok (.iload 10, 2) by decide +kernel) rfl ?_
    refine X_sH (rc' := 30) (rs' := 2422) (as := [.ref _, .int _, .int _]) msh_L_269 (show decode cL_does 358 = .ok (.invokestatic 269, 3) by decide +kernel) (by decide) (Nat.le_of_ble_eq_true rfl) (Nat.le_of_ble_eq_true rfl) rfl rfl (Nat.le_of_ble_eq_true rfl) (kL_addTrain w) (fun r50 h49 w => ?_)
    exact X_iret ⟨(show decode cL_does 361 = .ok (.ireturn, 1) by decide +kernel), .int, rfl, rfl⟩ ⟨_, rfl, w⟩
  by_cases z19 : x2 = (nI 19)
  · have w := w.2.2.2.2.2.2.2.2.2.2.2.2.2.2.2.2.2.2.2.1 z19
    refine X_tableIn (tgt := 353) (show decode cL_does 79 = .ok (.tableswitch 424 0 47 #[205, 205, 230, 230, 230, 230, 241, 241, 241, 241, 241, 250, 257, 264, 274, 274, 274, 274, 274, 274, 274, 274, 283, 283, 283, 283, 283, 283, 290, 290, 290, 424, 424, 424, 424, 424, 424, 424, 424, 424, 424, 424, 424, 424, 424, 424, 297, 297], 205) by decide +kernel) (by rw [z19]; decide) (by rw [z19]; decide) (by rw [z19] <;> rfl) (by decide) ?_
    refine X_aload_n (j := 1) (show decode cL_does 353 = .ok (.aload_n 3, 1) by decide +kernel) rfl rfl ?_
    refine X_iload (j := 7) (show decode cL_does 354 = .ok (.iload 9, 2) by decide +kernel) rfl ?_
    refine X_iload (j := 8) (show decode cL_does 356 = .ok (.iload 10, 2) by decide +kernel) rfl ?_
    refine X_sH (rc' := 30) (rs' := 2422) (as := [.ref _, .int _, .int _]) msh_L_269 (show decode cL_does 358 = .ok (.invokestatic 269, 3) by decide +kernel) (by decide) (Nat.le_of_ble_eq_true rfl) (Nat.le_of_ble_eq_true rfl) rfl rfl (Nat.le_of_ble_eq_true rfl) (kL_addTrain w) (fun r52 h51 w => ?_)
    exact X_iret ⟨(show decode cL_does 361 = .ok (.ireturn, 1) by decide +kernel), .int, rfl, rfl⟩ ⟨_, rfl, w⟩
  by_cases z20 : x2 = (nI 20)
  · have w := w.2.2.2.2.2.2.2.2.2.2.2.2.2.2.2.2.2.2.2.2.1 z20
    refine X_tableIn (tgt := 353) (show decode cL_does 79 = .ok (.tableswitch 424 0 47 #[205, 205, 230, 230, 230, 230, 241, 241, 241, 241, 241, 250, 257, 264, 274, 274, 274, 274, 274, 274, 274, 274, 283, 283, 283, 283, 283, 283, 290, 290, 290, 424, 424, 424, 424, 424, 424, 424, 424, 424, 424, 424, 424, 424, 424, 424, 297, 297], 205) by decide +kernel) (by rw [z20]; decide) (by rw [z20]; decide) (by rw [z20] <;> rfl) (by decide) ?_
    refine X_aload_n (j := 1) (show decode cL_does 353 = .ok (.aload_n 3, 1) by decide +kernel) rfl rfl ?_
    refine X_iload (j := 7) (show decode cL_does 354 = .ok (.iload 9, 2) by decide +kernel) rfl ?_
    refine X_iload (j := 8) (show decode cL_does 356 = .ok (.iload 10, 2) by decide +kernel) rfl ?_
    refine X_sH (rc' := 30) (rs' := 2422) (as := [.ref _, .int _, .int _]) msh_L_269 (show decode cL_does 358 = .ok (.invokestatic 269, 3) by decide +kernel) (by decide) (Nat.le_of_ble_eq_true rfl) (Nat.le_of_ble_eq_true rfl) rfl rfl (Nat.le_of_ble_eq_true rfl) (kL_addTrain w) (fun r54 h53 w => ?_)
    exact X_iret ⟨(show decode cL_does 361 = .ok (.ireturn, 1) by decide +kernel), .int, rfl, rfl⟩ ⟨_, rfl, w⟩
  by_cases z21 : x2 = (nI 21)
  · have w := w.2.2.2.2.2.2.2.2.2.2.2.2.2.2.2.2.2.2.2.2.2.1 z21
    refine X_tableIn (tgt := 353) (show decode cL_does 79 = .ok (.tableswitch 424 0 47 #[205, 205, 230, 230, 230, 230, 241, 241, 241, 241, 241, 250, 257, 264, 274, 274, 274, 274, 274, 274, 274, 274, 283, 283, 283, 283, 283, 283, 290, 290, 290, 424, 424, 424, 424, 424, 424, 424, 424, 424, 424, 424, 424, 424, 424, 424, 297, 297], 205) by decide +kernel) (by rw [z21]; decide) (by rw [z21]; decide) (by rw [z21] <;> rfl) (by decide) ?_
    refine X_aload_n (j := 1) (show decode cL_does 353 = .ok (.aload_n 3, 1) by decide +kernel) rfl rfl ?_
    refine X_iload (j := 7) (show decode cL_does 354 = .ok (.iload 9, 2) by decide +kernel) rfl ?_
    refine X_iload (j := 8) (show decode cL_does 356 = .ok (.iload 10, 2) by decide +kernel) rfl ?_
    refine X_sH (rc' := 30) (rs' := 2422) (as := [.ref _, .int _, .int _]) msh_L_269 (show decode cL_does 358 = .ok (.invokestatic 269, 3) by decide +kernel) (by decide) (Nat.le_of_ble_eq_true rfl) (Nat.le_of_ble_eq_true rfl) rfl rfl (Nat.le_of_ble_eq_true rfl) (kL_addTrain w) (fun r56 h55 w => ?_)
    exact X_iret ⟨(show decode cL_does 361 = .ok (.ireturn, 1) by decide +kernel), .int, rfl, rfl⟩ ⟨_, rfl, w⟩
  by_cases z22 : x2 = (nI 22)
  · have w := w.2.2.2.2.2.2.2.2.2.2.2.2.2.2.2.2.2.2.2.2.2.2.1 z22
    refine X_tableIn (tgt := 362) (show decode cL_does 79 = .ok (.tableswitch 424 0 47 #[205, 205, 230, 230, 230, 230, 241, 241, 241, 241, 241, 250, 257, 264, 274, 274, 274, 274, 274, 274, 274, 274, 283, 283, 283, 283, 283, 283, 290, 290, 290, 424, 424, 424, 424, 424, 424, 424, 424, 424, 424, 424, 424, 424, 424, 424, 297, 297], 205) by decide +kernel) (by rw [z22]; decide) (by rw [z22]; decide) (by rw [z22] <;> rfl) (by decide) ?_
    refine X_aload_n (j := 1) (show decode cL_does 362 = .ok (.aload_n 3, 1) by decide +kernel) rfl rfl ?_
    refine X_iload (j := 2) (show decode cL_does 363 = .ok (.iload 4, 2) by decide +kernel) rfl ?_
    refine X_sH (rc' := 30) (rs' := 2422) (as := [.ref _, .int _]) msh_L_271 (show decode cL_does 365 = .ok (.invokestatic 271, 3) by decide +kernel) (by decide) (Nat.le_of_ble_eq_true rfl) (Nat.le_of_ble_eq_true rfl) rfl rfl (Nat.le_of_ble_eq_true rfl) (kL_setRoute w) (fun r58 h57 w => ?_)
    exact X_iret ⟨(show decode cL_does 368 = .ok (.ireturn, 1) by decide +kernel), .int, rfl, rfl⟩ ⟨_, rfl, w⟩
  by_cases z23 : x2 = (nI 23)
  · have w := w.2.2.2.2.2.2.2.2.2.2.2.2.2.2.2.2.2.2.2.2.2.2.2.1 z23
    refine X_tableIn (tgt := 362) (show decode cL_does 79 = .ok (.tableswitch 424 0 47 #[205, 205, 230, 230, 230, 230, 241, 241, 241, 241, 241, 250, 257, 264, 274, 274, 274, 274, 274, 274, 274, 274, 283, 283, 283, 283, 283, 283, 290, 290, 290, 424, 424, 424, 424, 424, 424, 424, 424, 424, 424, 424, 424, 424, 424, 424, 297, 297], 205) by decide +kernel) (by rw [z23]; decide) (by rw [z23]; decide) (by rw [z23] <;> rfl) (by decide) ?_
    refine X_aload_n (j := 1) (show decode cL_does 362 = .ok (.aload_n 3, 1) by decide +kernel) rfl rfl ?_
    refine X_iload (j := 2) (show decode cL_does 363 = .ok (.iload 4, 2) by decide +kernel) rfl ?_
    refine X_sH (rc' := 30) (rs' := 2422) (as := [.ref _, .int _]) msh_L_271 (show decode cL_does 365 = .ok (.invokestatic 271, 3) by decide +kernel) (by decide) (Nat.le_of_ble_eq_true rfl) (Nat.le_of_ble_eq_true rfl) rfl rfl (Nat.le_of_ble_eq_true rfl) (kL_setRoute w) (fun r60 h59 w => ?_)
    exact X_iret ⟨(show decode cL_does 368 = .ok (.ireturn, 1) by decide +kernel), .int, rfl, rfl⟩ ⟨_, rfl, w⟩
  by_cases z24 : x2 = (nI 24)
  · have w := w.2.2.2.2.2.2.2.2.2.2.2.2.2.2.2.2.2.2.2.2.2.2.2.2.1 z24
    refine X_tableIn (tgt := 362) (show decode cL_does 79 = .ok (.tableswitch 424 0 47 #[205, 205, 230, 230, 230, 230, 241, 241, 241, 241, 241, 250, 257, 264, 274, 274, 274, 274, 274, 274, 274, 274, 283, 283, 283, 283, 283, 283, 290, 290, 290, 424, 424, 424, 424, 424, 424, 424, 424, 424, 424, 424, 424, 424, 424, 424, 297, 297], 205) by decide +kernel) (by rw [z24]; decide) (by rw [z24]; decide) (by rw [z24] <;> rfl) (by decide) ?_
    refine X_aload_n (j := 1) (show decode cL_does 362 = .ok (.aload_n 3, 1) by decide +kernel) rfl rfl ?_
    refine X_iload (j := 2) (show decode cL_does 363 = .ok (.iload 4, 2) by decide +kernel) rfl ?_
    refine X_sH (rc' := 30) (rs' := 2422) (as := [.ref _, .int _]) msh_L_271 (show decode cL_does 365 = .ok (.invokestatic 271, 3) by decide +kernel) (by decide) (Nat.le_of_ble_eq_true rfl) (Nat.le_of_ble_eq_true rfl) rfl rfl (Nat.le_of_ble_eq_true rfl) (kL_setRoute w) (fun r62 h61 w => ?_)
    exact X_iret ⟨(show decode cL_does 368 = .ok (.ireturn, 1) by decide +kernel), .int, rfl, rfl⟩ ⟨_, rfl, w⟩
  by_cases z25 : x2 = (nI 25)
  · have w := w.2.2.2.2.2.2.2.2.2.2.2.2.2.2.2.2.2.2.2.2.2.2.2.2.2.1 z25
    refine X_tableIn (tgt := 362) (show decode cL_does 79 = .ok (.tableswitch 424 0 47 #[205, 205, 230, 230, 230, 230, 241, 241, 241, 241, 241, 250, 257, 264, 274, 274, 274, 274, 274, 274, 274, 274, 283, 283, 283, 283, 283, 283, 290, 290, 290, 424, 424, 424, 424, 424, 424, 424, 424, 424, 424, 424, 424, 424, 424, 424, 297, 297], 205) by decide +kernel) (by rw [z25]; decide) (by rw [z25]; decide) (by rw [z25] <;> rfl) (by decide) ?_
    refine X_aload_n (j := 1) (show decode cL_does 362 = .ok (.aload_n 3, 1) by decide +kernel) rfl rfl ?_
    refine X_iload (j := 2) (show decode cL_does 363 = .ok (.iload 4, 2) by decide +kernel) rfl ?_
    refine X_sH (rc' := 30) (rs' := 2422) (as := [.ref _, .int _]) msh_L_271 (show decode cL_does 365 = .ok (.invokestatic 271, 3) by decide +kernel) (by decide) (Nat.le_of_ble_eq_true rfl) (Nat.le_of_ble_eq_true rfl) rfl rfl (Nat.le_of_ble_eq_true rfl) (kL_setRoute w) (fun r64 h63 w => ?_)
    exact X_iret ⟨(show decode cL_does 368 = .ok (.ireturn, 1) by decide +kernel), .int, rfl, rfl⟩ ⟨_, rfl, w⟩
  by_cases z26 : x2 = (nI 26)
  · have w := w.2.2.2.2.2.2.2.2.2.2.2.2.2.2.2.2.2.2.2.2.2.2.2.2.2.2.1 z26
    refine X_tableIn (tgt := 362) (show decode cL_does 79 = .ok (.tableswitch 424 0 47 #[205, 205, 230, 230, 230, 230, 241, 241, 241, 241, 241, 250, 257, 264, 274, 274, 274, 274, 274, 274, 274, 274, 283, 283, 283, 283, 283, 283, 290, 290, 290, 424, 424, 424, 424, 424, 424, 424, 424, 424, 424, 424, 424, 424, 424, 424, 297, 297], 205) by decide +kernel) (by rw [z26]; decide) (by rw [z26]; decide) (by rw [z26] <;> rfl) (by decide) ?_
    refine X_aload_n (j := 1) (show decode cL_does 362 = .ok (.aload_n 3, 1) by decide +kernel) rfl rfl ?_
    refine X_iload (j := 2) (show decode cL_does 363 = .ok (.iload 4, 2) by decide +kernel) rfl ?_
    refine X_sH (rc' := 30) (rs' := 2422) (as := [.ref _, .int _]) msh_L_271 (show decode cL_does 365 = .ok (.invokestatic 271, 3) by decide +kernel) (by decide) (Nat.le_of_ble_eq_true rfl) (Nat.le_of_ble_eq_true rfl) rfl rfl (Nat.le_of_ble_eq_true rfl) (kL_setRoute w) (fun r66 h65 w => ?_)
    exact X_iret ⟨(show decode cL_does 368 = .ok (.ireturn, 1) by decide +kernel), .int, rfl, rfl⟩ ⟨_, rfl, w⟩
  by_cases z27 : x2 = (nI 27)
  · have w := w.2.2.2.2.2.2.2.2.2.2.2.2.2.2.2.2.2.2.2.2.2.2.2.2.2.2.2.1 z27
    refine X_tableIn (tgt := 362) (show decode cL_does 79 = .ok (.tableswitch 424 0 47 #[205, 205, 230, 230, 230, 230, 241, 241, 241, 241, 241, 250, 257, 264, 274, 274, 274, 274, 274, 274, 274, 274, 283, 283, 283, 283, 283, 283, 290, 290, 290, 424, 424, 424, 424, 424, 424, 424, 424, 424, 424, 424, 424, 424, 424, 424, 297, 297], 205) by decide +kernel) (by rw [z27]; decide) (by rw [z27]; decide) (by rw [z27] <;> rfl) (by decide) ?_
    refine X_aload_n (j := 1) (show decode cL_does 362 = .ok (.aload_n 3, 1) by decide +kernel) rfl rfl ?_
    refine X_iload (j := 2) (show decode cL_does 363 = .ok (.iload 4, 2) by decide +kernel) rfl ?_
    refine X_sH (rc' := 30) (rs' := 2422) (as := [.ref _, .int _]) msh_L_271 (show decode cL_does 365 = .ok (.invokestatic 271, 3) by decide +kernel) (by decide) (Nat.le_of_ble_eq_true rfl) (Nat.le_of_ble_eq_true rfl) rfl rfl (Nat.le_of_ble_eq_true rfl) (kL_setRoute w) (fun r68 h67 w => ?_)
    exact X_iret ⟨(show decode cL_does 368 = .ok (.ireturn, 1) by decide +kernel), .int, rfl, rfl⟩ ⟨_, rfl, w⟩
  by_cases z28 : x2 = (nI 28)
  · have w := w.2.2.2.2.2.2.2.2.2.2.2.2.2.2.2.2.2.2.2.2.2.2.2.2.2.2.2.2.1 z28
    refine X_tableIn (tgt := 369) (show decode cL_does 79 = .ok (.tableswitch 424 0 47 #[205, 205, 230, 230, 230, 230, 241, 241, 241, 241, 241, 250, 257, 264, 274, 274, 274, 274, 274, 274, 274, 274, 283, 283, 283, 283, 283, 283, 290, 290, 290, 424, 424, 424, 424, 424, 424, 424, 424, 424, 424, 424, 424, 424, 424, 424, 297, 297], 205) by decide +kernel) (by rw [z28]; decide) (by rw [z28]; decide) (by rw [z28] <;> rfl) (by decide) ?_
    refine X_aload_n (j := 1) (show decode cL_does 369 = .ok (.aload_n 3, 1) by decide +kernel) rfl rfl ?_
    refine X_iload (j := 2) (show decode cL_does 370 = .ok (.iload 4, 2) by decide +kernel) rfl ?_
    refine X_sH (rc' := 30) (rs' := 2422) (as := [.ref _, .int _]) msh_L_273 (show decode cL_does 372 = .ok (.invokestatic 273, 3) by decide +kernel) (by decide) (Nat.le_of_ble_eq_true rfl) (Nat.le_of_ble_eq_true rfl) rfl rfl (Nat.le_of_ble_eq_true rfl) (kL_releaseRoute w) (fun r70 h69 w => ?_)
    exact X_iret ⟨(show decode cL_does 375 = .ok (.ireturn, 1) by decide +kernel), .int, rfl, rfl⟩ ⟨_, rfl, w⟩
  by_cases z29 : x2 = (nI 29)
  · have w := w.2.2.2.2.2.2.2.2.2.2.2.2.2.2.2.2.2.2.2.2.2.2.2.2.2.2.2.2.2.1 z29
    refine X_tableIn (tgt := 369) (show decode cL_does 79 = .ok (.tableswitch 424 0 47 #[205, 205, 230, 230, 230, 230, 241, 241, 241, 241, 241, 250, 257, 264, 274, 274, 274, 274, 274, 274, 274, 274, 283, 283, 283, 283, 283, 283, 290, 290, 290, 424, 424, 424, 424, 424, 424, 424, 424, 424, 424, 424, 424, 424, 424, 424, 297, 297], 205) by decide +kernel) (by rw [z29]; decide) (by rw [z29]; decide) (by rw [z29] <;> rfl) (by decide) ?_
    refine X_aload_n (j := 1) (show decode cL_does 369 = .ok (.aload_n 3, 1) by decide +kernel) rfl rfl ?_
    refine X_iload (j := 2) (show decode cL_does 370 = .ok (.iload 4, 2) by decide +kernel) rfl ?_
    refine X_sH (rc' := 30) (rs' := 2422) (as := [.ref _, .int _]) msh_L_273 (show decode cL_does 372 = .ok (.invokestatic 273, 3) by decide +kernel) (by decide) (Nat.le_of_ble_eq_true rfl) (Nat.le_of_ble_eq_true rfl) rfl rfl (Nat.le_of_ble_eq_true rfl) (kL_releaseRoute w) (fun r72 h71 w => ?_)
    exact X_iret ⟨(show decode cL_does 375 = .ok (.ireturn, 1) by decide +kernel), .int, rfl, rfl⟩ ⟨_, rfl, w⟩
  by_cases z30 : x2 = (nI 30)
  · have w := w.2.2.2.2.2.2.2.2.2.2.2.2.2.2.2.2.2.2.2.2.2.2.2.2.2.2.2.2.2.2.1 z30
    refine X_tableIn (tgt := 369) (show decode cL_does 79 = .ok (.tableswitch 424 0 47 #[205, 205, 230, 230, 230, 230, 241, 241, 241, 241, 241, 250, 257, 264, 274, 274, 274, 274, 274, 274, 274, 274, 283, 283, 283, 283, 283, 283, 290, 290, 290, 424, 424, 424, 424, 424, 424, 424, 424, 424, 424, 424, 424, 424, 424, 424, 297, 297], 205) by decide +kernel) (by rw [z30]; decide) (by rw [z30]; decide) (by rw [z30] <;> rfl) (by decide) ?_
    refine X_aload_n (j := 1) (show decode cL_does 369 = .ok (.aload_n 3, 1) by decide +kernel) rfl rfl ?_
    refine X_iload (j := 2) (show decode cL_does 370 = .ok (.iload 4, 2) by decide +kernel) rfl ?_
    refine X_sH (rc' := 30) (rs' := 2422) (as := [.ref _, .int _]) msh_L_273 (show decode cL_does 372 = .ok (.invokestatic 273, 3) by decide +kernel) (by decide) (Nat.le_of_ble_eq_true rfl) (Nat.le_of_ble_eq_true rfl) rfl rfl (Nat.le_of_ble_eq_true rfl) (kL_releaseRoute w) (fun r74 h73 w => ?_)
    exact X_iret ⟨(show decode cL_does 375 = .ok (.ireturn, 1) by decide +kernel), .int, rfl, rfl⟩ ⟨_, rfl, w⟩
  by_cases z46 : x2 = (nI 46)
  · have w := w.2.2.2.2.2.2.2.2.2.2.2.2.2.2.2.2.2.2.2.2.2.2.2.2.2.2.2.2.2.2.2.1 z46
    refine X_tableIn (tgt := 376) (show decode cL_does 79 = .ok (.tableswitch 424 0 47 #[205, 205, 230, 230, 230, 230, 241, 241, 241, 241, 241, 250, 257, 264, 274, 274, 274, 274, 274, 274, 274, 274, 283, 283, 283, 283, 283, 283, 290, 290, 290, 424, 424, 424, 424, 424, 424, 424, 424, 424, 424, 424, 424, 424, 424, 424, 297, 297], 205) by decide +kernel) (by rw [z46]; decide) (by rw [z46]; decide) (by rw [z46] <;> rfl) (by decide) ?_
    refine X_aload_n (j := 1) (show decode cL_does 376 = .ok (.aload_n 3, 1) by decide +kernel) rfl rfl ?_
    refine X_new (rc' := 30) (rs' := 2424) nw_L_275 (show decode cL_does 377 = .ok (.new 275, 3) by decide +kernel) (Nat.le_of_ble_eq_true rfl) (Nat.le_of_ble_eq_true rfl) ?_
    have w := w _ rfl
    refine X_dup (show decode cL_does 380 = .ok (.dup, 1) by decide +kernel) rfl ?_
    obtain ⟨s134, w⟩ := w
    refine X_iV (rc' := 29) (rs' := 2168) (as := []) mi_L_277 (show decode cL_does 381 = .ok (.invokespecial 277, 3) by decide +kernel) (by decide) (Nat.le_of_ble_eq_true rfl) (Nat.le_of_ble_eq_true rfl) rfl rfl (Nat.le_of_ble_eq_true rfl) s134 (kJ4_init_da8c8 w) (fun h76 w => ?_)
    refine X_ldcSW (j := 0) rfl (by decide) rfl (show decode cL_does 384 = .ok (.ldc_w 278, 3) by decide +kernel) ?_
    obtain ⟨s133, w⟩ := w
    refine X_vR (rc' := 28) (rs' := 1912) (as := [.ref _]) mv_L_280 (show decode cL_does 387 = .ok (.invokevirtual 280, 3) by decide +kernel) (by decide) (Nat.le_of_ble_eq_true rfl) (Nat.le_of_ble_eq_true rfl) rfl rfl (Nat.le_of_ble_eq_true rfl) (rcvD s133 (by decide) rfl) (kJ4_append_15ec4 w) (fun E h hk => hk.elim) (fun r79 h78 w => ?_)
    refine X_iload (j := 3) (show decode cL_does 390 = .ok (.iload 5, 2) by decide +kernel) rfl ?_
    obtain ⟨s132, w⟩ := w
    refine X_vR (rc' := 27) (rs' := 1656) (as := [.int _]) mv_L_284 (show decode cL_does 392 = .ok (.invokevirtual 284, 3) by decide +kernel) (by decide) (Nat.le_of_ble_eq_true rfl) (Nat.le_of_ble_eq_true rfl) rfl rfl (Nat.le_of_ble_eq_true rfl) (rcvD s132 (by decide) rfl) (kJ4_append_bf812 w) (fun E h hk => hk.elim) (fun r81 h80 w => ?_)
    refine X_iload (j := 4) (show decode cL_does 395 = .ok (.iload 6, 2) by decide +kernel) rfl ?_
    refine X_iconst (v := (nI 4)) (show decode cL_does 397 = .ok (.iconst 4, 1) by decide +kernel) (by decide) ?_
    refine X_irem (show decode cL_does 398 = .ok (.irem, 1) by decide +kernel) (by decide) ?_
    refine X_if_ne (tgt := 426) (show decode cL_does 399 = .ok (.ifCond .ne 27, 3) by decide +kernel) (by decide) ⟨fun c82 => ?_, fun c82 => ?_⟩
    · have w := w.1 c82
      refine X_iload (j := 4) (show decode cL_does 426 = .ok (.iload 6, 2) by decide +kernel) rfl ?_
      refine X_iconst (v := (nI 4)) (show decode cL_does 428 = .ok (.iconst 4, 1) by decide +kernel) (by decide) ?_
      refine X_irem (show decode cL_does 429 = .ok (.irem, 1) by decide +kernel) (by decide) ?_
      refine X_iconst (v := (nI 1)) (show decode cL_does 430 = .ok (.iconst 1, 1) by decide +kernel) (by decide) ?_
      refine X_icmp_ne (tgt := 458) (show decode cL_does 431 = .ok (.if_icmp .ne 27, 3) by decide +kernel) (by decide) ⟨fun c83 => ?_, fun c83 => ?_⟩
      · have w := w.1 c83
        refine X_iload (j := 4) (show decode cL_does 458 = .ok (.iload 6, 2) by decide +kernel) rfl ?_
        refine X_iconst (v := (nI 4)) (show decode cL_does 460 = .ok (.iconst 4, 1) by decide +kernel) (by decide) ?_
        refine X_irem (show decode cL_does 461 = .ok (.irem, 1) by decide +kernel) (by decide) ?_
        refine X_iconst (v := (nI 2)) (show decode cL_does 462 = .ok (.iconst 2, 1) by decide +kernel) (by decide) ?_
        refine X_icmp_ne (tgt := 490) (show decode cL_does 463 = .ok (.if_icmp .ne 27, 3) by decide +kernel) (by decide) ⟨fun c84 => ?_, fun c84 => ?_⟩
        · have w := w.1 c84
          refine X_ldcSW (j := 4) rfl (by decide) rfl (show decode cL_does 490 = .ok (.ldc_w 297, 3) by decide +kernel) ?_
          refine X_room (rc' := 20) (rs' := 618) (Nat.le_of_ble_eq_true rfl) (Nat.le_of_ble_eq_true rfl) ?_
          refine X_pick (ls' := []) [] rfl ?_
          exact kL_does_J493  _ _ _ _ w
        · have w := w.2 c84
          refine X_new (rc' := 26) (rs' := 1652) nw_L_275 (show decode cL_does 466 = .ok (.new 275, 3) by decide +kernel) (Nat.le_of_ble_eq_true rfl) (Nat.le_of_ble_eq_true rfl) ?_
          have w := w _ rfl
          refine X_dup (show decode cL_does 469 = .ok (.dup, 1) by decide +kernel) rfl ?_
          obtain ⟨s105, w⟩ := w
          refine X_iV (rc' := 25) (rs' := 1396) (as := []) mi_L_277 (show decode cL_does 470 = .ok (.invokespecial 277, 3) by decide +kernel) (by decide) (Nat.le_of_ble_eq_true rfl) (Nat.le_of_ble_eq_true rfl) rfl rfl (Nat.le_of_ble_eq_true rfl) s105 (kJ4_init_da8c8 w) (fun h94 w => ?_)
          refine X_ldcSW (j := 3) rfl (by decide) rfl (show decode cL_does 473 = .ok (.ldc_w 295, 3) by decide +kernel) ?_
          obtain ⟨s104, w⟩ := w
          refine X_vR (rc' := 24) (rs' := 1140) (as := [.ref _]) mv_L_280 (show decode cL_does 476 = .ok (.invokevirtual 280, 3) by decide +kernel) (by decide) (Nat.le_of_ble_eq_true rfl) (Nat.le_of_ble_eq_true rfl) rfl rfl (Nat.le_of_ble_eq_true rfl) (rcvD s104 (by decide) rfl) (kJ4_append_15ec4 w) (fun E h hk => hk.elim) (fun r97 h96 w => ?_)
          refine X_iload (j := 7) (show decode cL_does 479 = .ok (.iload 9, 2) by decide +kernel) rfl ?_
          obtain ⟨s103, w⟩ := w
          refine X_vR (rc' := 23) (rs' := 884) (as := [.int _]) mv_L_284 (show decode cL_does 481 = .ok (.invokevirtual 284, 3) by decide +kernel) (by decide) (Nat.le_of_ble_eq_true rfl) (Nat.le_of_ble_eq_true rfl) rfl rfl (Nat.le_of_ble_eq_true rfl) (rcvD s103 (by decide) rfl) (kJ4_append_bf812 w) (fun E h hk => hk.elim) (fun r99 h98 w => ?_)
          obtain ⟨s102, w⟩ := w
          refine X_vR (rc' := 20) (rs' := 618) (as := []) mv_L_289 (show decode cL_does 484 = .ok (.invokevirtual 289, 3) by decide +kernel) (by decide) (Nat.le_of_ble_eq_true rfl) (Nat.le_of_ble_eq_true rfl) rfl rfl (Nat.le_of_ble_eq_true rfl) (rcvD s102 (by decide) rfl) (kJ4_toString_0e30d w) (fun E h hk => hk.elim) (fun r101 h100 w => ?_)
          refine X_goto (tgt := 493) (show decode cL_does 487 = .ok (.goto 6, 3) by decide +kernel) (by decide) ?_
          refine X_pick (ls' := []) [] rfl ?_
          exact kL_does_J493  _ _ _ _ w
      · have w := w.2 c83
        refine X_new (rc' := 26) (rs' := 1652) nw_L_275 (show decode cL_does 434 = .ok (.new 275, 3) by decide +kernel) (Nat.le_of_ble_eq_true rfl) (Nat.le_of_ble_eq_true rfl) ?_
        have w := w _ rfl
        refine X_dup (show decode cL_does 437 = .ok (.dup, 1) by decide +kernel) rfl ?_
        obtain ⟨s118, w⟩ := w
        refine X_iV (rc' := 25) (rs' := 1396) (as := []) mi_L_277 (show decode cL_does 438 = .ok (.invokespecial 277, 3) by decide +kernel) (by decide) (Nat.le_of_ble_eq_true rfl) (Nat.le_of_ble_eq_true rfl) rfl rfl (Nat.le_of_ble_eq_true rfl) s118 (kJ4_init_da8c8 w) (fun h107 w => ?_)
        refine X_ldcSW (j := 2) rfl (by decide) rfl (show decode cL_does 441 = .ok (.ldc_w 293, 3) by decide +kernel) ?_
        obtain ⟨s117, w⟩ := w
        refine X_vR (rc' := 24) (rs' := 1140) (as := [.ref _]) mv_L_280 (show decode cL_does 444 = .ok (.invokevirtual 280, 3) by decide +kernel) (by decide) (Nat.le_of_ble_eq_true rfl) (Nat.le_of_ble_eq_true rfl) rfl rfl (Nat.le_of_ble_eq_true rfl) (rcvD s117 (by decide) rfl) (kJ4_append_15ec4 w) (fun E h hk => hk.elim) (fun r110 h109 w => ?_)
        refine X_iload (j := 2) (show decode cL_does 447 = .ok (.iload 4, 2) by decide +kernel) rfl ?_
        obtain ⟨s116, w⟩ := w
        refine X_vR (rc' := 23) (rs' := 884) (as := [.int _]) mv_L_284 (show decode cL_does 449 = .ok (.invokevirtual 284, 3) by decide +kernel) (by decide) (Nat.le_of_ble_eq_true rfl) (Nat.le_of_ble_eq_true rfl) rfl rfl (Nat.le_of_ble_eq_true rfl) (rcvD s116 (by decide) rfl) (kJ4_append_bf812 w) (fun E h hk => hk.elim) (fun r112 h111 w => ?_)
        obtain ⟨s115, w⟩ := w
        refine X_vR (rc' := 20) (rs' := 618) (as := []) mv_L_289 (show decode cL_does 452 = .ok (.invokevirtual 289, 3) by decide +kernel) (by decide) (Nat.le_of_ble_eq_true rfl) (Nat.le_of_ble_eq_true rfl) rfl rfl (Nat.le_of_ble_eq_true rfl) (rcvD s115 (by decide) rfl) (kJ4_toString_0e30d w) (fun E h hk => hk.elim) (fun r114 h113 w => ?_)
        refine X_goto (tgt := 493) (show decode cL_does 455 = .ok (.goto 38, 3) by decide +kernel) (by decide) ?_
        refine X_pick (ls' := []) [] rfl ?_
        exact kL_does_J493  _ _ _ _ w
    · have w := w.2 c82
      refine X_new (rc' := 26) (rs' := 1652) nw_L_275 (show decode cL_does 402 = .ok (.new 275, 3) by decide +kernel) (Nat.le_of_ble_eq_true rfl) (Nat.le_of_ble_eq_true rfl) ?_
      have w := w _ rfl
      refine X_dup (show decode cL_does 405 = .ok (.dup, 1) by decide +kernel) rfl ?_
      obtain ⟨s131, w⟩ := w
      refine X_iV (rc' := 25) (rs' := 1396) (as := []) mi_L_277 (show decode cL_does 406 = .ok (.invokespecial 277, 3) by decide +kernel) (by decide) (Nat.le_of_ble_eq_true rfl) (Nat.le_of_ble_eq_true rfl) rfl rfl (Nat.le_of_ble_eq_true rfl) s131 (kJ4_init_da8c8 w) (fun h120 w => ?_)
      refine X_ldcSW (j := 1) rfl (by decide) rfl (show decode cL_does 409 = .ok (.ldc_w 287, 3) by decide +kernel) ?_
      obtain ⟨s130, w⟩ := w
      refine X_vR (rc' := 24) (rs' := 1140) (as := [.ref _]) mv_L_280 (show decode cL_does 412 = .ok (.invokevirtual 280, 3) by decide +kernel) (by decide) (Nat.le_of_ble_eq_true rfl) (Nat.le_of_ble_eq_true rfl) rfl rfl (Nat.le_of_ble_eq_true rfl) (rcvD s130 (by decide) rfl) (kJ4_append_15ec4 w) (fun E h hk => hk.elim) (fun r123 h122 w => ?_)
      refine X_iload (j := 2) (show decode cL_does 415 = .ok (.iload 4, 2) by decide +kernel) rfl ?_
      obtain ⟨s129, w⟩ := w
      refine X_vR (rc' := 23) (rs' := 884) (as := [.int _]) mv_L_284 (show decode cL_does 417 = .ok (.invokevirtual 284, 3) by decide +kernel) (by decide) (Nat.le_of_ble_eq_true rfl) (Nat.le_of_ble_eq_true rfl) rfl rfl (Nat.le_of_ble_eq_true rfl) (rcvD s129 (by decide) rfl) (kJ4_append_bf812 w) (fun E h hk => hk.elim) (fun r125 h124 w => ?_)
      obtain ⟨s128, w⟩ := w
      refine X_vR (rc' := 20) (rs' := 618) (as := []) mv_L_289 (show decode cL_does 420 = .ok (.invokevirtual 289, 3) by decide +kernel) (by decide) (Nat.le_of_ble_eq_true rfl) (Nat.le_of_ble_eq_true rfl) rfl rfl (Nat.le_of_ble_eq_true rfl) (rcvD s128 (by decide) rfl) (kJ4_toString_0e30d w) (fun E h hk => hk.elim) (fun r127 h126 w => ?_)
      refine X_goto (tgt := 493) (show decode cL_does 423 = .ok (.goto 70, 3) by decide +kernel) (by decide) ?_
      refine X_pick (ls' := []) [] rfl ?_
      exact kL_does_J493  _ _ _ _ w
  by_cases z47 : x2 = (nI 47)
  · have w := w.2.2.2.2.2.2.2.2.2.2.2.2.2.2.2.2.2.2.2.2.2.2.2.2.2.2.2.2.2.2.2.2.1 z47
    refine X_tableIn (tgt := 376) (show decode cL_does 79 = .ok (.tableswitch 424 0 47 #[205, 205, 230, 230, 230, 230, 241, 241, 241, 241, 241, 250, 257, 264, 274, 274, 274, 274, 274, 274, 274, 274, 283, 283, 283, 283, 283, 283, 290, 290, 290, 424, 424, 424, 424, 424, 424, 424, 424, 424, 424, 424, 424, 424, 424, 424, 297, 297], 205) by decide +kernel) (by rw [z47]; decide) (by rw [z47]; decide) (by rw [z47] <;> rfl) (by decide) ?_
    refine X_aload_n (j := 1) (show decode cL_does 376 = .ok (.aload_n 3, 1) by decide +kernel) rfl rfl ?_
    refine X_new (rc' := 30) (rs' := 2424) nw_L_275 (show decode cL_does 377 = .ok (.new 275, 3) by decide +kernel) (Nat.le_of_ble_eq_true rfl) (Nat.le_of_ble_eq_true rfl) ?_
    have w := w _ rfl
    refine X_dup (show decode cL_does 380 = .ok (.dup, 1) by decide +kernel) rfl ?_
    obtain ⟨s186, w⟩ := w
    refine X_iV (rc' := 29) (rs' := 2168) (as := []) mi_L_277 (show decode cL_does 381 = .ok (.invokespecial 277, 3) by decide +kernel) (by decide) (Nat.le_of_ble_eq_true rfl) (Nat.le_of_ble_eq_true rfl) rfl rfl (Nat.le_of_ble_eq_true rfl) s186 (kJ4_init_da8c8 w) (fun h136 w => ?_)
    refine X_ldcSW (j := 0) rfl (by decide) rfl (show decode cL_does 384 = .ok (.ldc_w 278, 3) by decide +kernel) ?_
    obtain ⟨s185, w⟩ := w
    refine X_vR (rc' := 28) (rs' := 1912) (as := [.ref _]) mv_L_280 (show decode cL_does 387 = .ok (.invokevirtual 280, 3) by decide +kernel) (by decide) (Nat.le_of_ble_eq_true rfl) (Nat.le_of_ble_eq_true rfl) rfl rfl (Nat.le_of_ble_eq_true rfl) (rcvD s185 (by decide) rfl) (kJ4_append_15ec4 w) (fun E h hk => hk.elim) (fun r139 h138 w => ?_)
    refine X_iload (j := 3) (show decode cL_does 390 = .ok (.iload 5, 2) by decide +kernel) rfl ?_
    obtain ⟨s184, w⟩ := w
    refine X_vR (rc' := 27) (rs' := 1656) (as := [.int _]) mv_L_284 (show decode cL_does 392 = .ok (.invokevirtual 284, 3) by decide +kernel) (by decide) (Nat.le_of_ble_eq_true rfl) (Nat.le_of_ble_eq_true rfl) rfl rfl (Nat.le_of_ble_eq_true rfl) (rcvD s184 (by decide) rfl) (kJ4_append_bf812 w) (fun E h hk => hk.elim) (fun r141 h140 w => ?_)
    refine X_iload (j := 4) (show decode cL_does 395 = .ok (.iload 6, 2) by decide +kernel) rfl ?_
    refine X_iconst (v := (nI 4)) (show decode cL_does 397 = .ok (.iconst 4, 1) by decide +kernel) (by decide) ?_
    refine X_irem (show decode cL_does 398 = .ok (.irem, 1) by decide +kernel) (by decide) ?_
    refine X_if_ne (tgt := 426) (show decode cL_does 399 = .ok (.ifCond .ne 27, 3) by decide +kernel) (by decide) ⟨fun c142 => ?_, fun c142 => ?_⟩
    · have w := w.1 c142
      refine X_iload (j := 4) (show decode cL_does 426 = .ok (.iload 6, 2) by decide +kernel) rfl ?_
      refine X_iconst (v := (nI 4)) (show decode cL_does 428 = .ok (.iconst 4, 1) by decide +kernel) (by decide) ?_
      refine X_irem (show decode cL_does 429 = .ok (.irem, 1) by decide +kernel) (by decide) ?_
      refine X_iconst (v := (nI 1)) (show decode cL_does 430 = .ok (.iconst 1, 1) by decide +kernel) (by decide) ?_
      refine X_icmp_ne (tgt := 458) (show decode cL_does 431 = .ok (.if_icmp .ne 27, 3) by decide +kernel) (by decide) ⟨fun c143 => ?_, fun c143 => ?_⟩
      · have w := w.1 c143
        refine X_iload (j := 4) (show decode cL_does 458 = .ok (.iload 6, 2) by decide +kernel) rfl ?_
        refine X_iconst (v := (nI 4)) (show decode cL_does 460 = .ok (.iconst 4, 1) by decide +kernel) (by decide) ?_
        refine X_irem (show decode cL_does 461 = .ok (.irem, 1) by decide +kernel) (by decide) ?_
        refine X_iconst (v := (nI 2)) (show decode cL_does 462 = .ok (.iconst 2, 1) by decide +kernel) (by decide) ?_
        refine X_icmp_ne (tgt := 490) (show decode cL_does 463 = .ok (.if_icmp .ne 27, 3) by decide +kernel) (by decide) ⟨fun c144 => ?_, fun c144 => ?_⟩
        · have w := w.1 c144
          refine X_ldcSW (j := 4) rfl (by decide) rfl (show decode cL_does 490 = .ok (.ldc_w 297, 3) by decide +kernel) ?_
          refine X_room (rc' := 20) (rs' := 618) (Nat.le_of_ble_eq_true rfl) (Nat.le_of_ble_eq_true rfl) ?_
          refine X_pick (ls' := []) [] rfl ?_
          exact kL_does_J493  _ _ _ _ w
        · have w := w.2 c144
          refine X_new (rc' := 26) (rs' := 1652) nw_L_275 (show decode cL_does 466 = .ok (.new 275, 3) by decide +kernel) (Nat.le_of_ble_eq_true rfl) (Nat.le_of_ble_eq_true rfl) ?_
          have w := w _ rfl
          refine X_dup (show decode cL_does 469 = .ok (.dup, 1) by decide +kernel) rfl ?_
          obtain ⟨s157, w⟩ := w
          refine X_iV (rc' := 25) (rs' := 1396) (as := []) mi_L_277 (show decode cL_does 470 = .ok (.invokespecial 277, 3) by decide +kernel) (by decide) (Nat.le_of_ble_eq_true rfl) (Nat.le_of_ble_eq_true rfl) rfl rfl (Nat.le_of_ble_eq_true rfl) s157 (kJ4_init_da8c8 w) (fun h146 w => ?_)
          refine X_ldcSW (j := 3) rfl (by decide) rfl (show decode cL_does 473 = .ok (.ldc_w 295, 3) by decide +kernel) ?_
          obtain ⟨s156, w⟩ := w
          refine X_vR (rc' := 24) (rs' := 1140) (as := [.ref _]) mv_L_280 (show decode cL_does 476 = .ok (.invokevirtual 280, 3) by decide +kernel) (by decide) (Nat.le_of_ble_eq_true rfl) (Nat.le_of_ble_eq_true rfl) rfl rfl (Nat.le_of_ble_eq_true rfl) (rcvD s156 (by decide) rfl) (kJ4_append_15ec4 w) (fun E h hk => hk.elim) (fun r149 h148 w => ?_)
          refine X_iload (j := 7) (show decode cL_does 479 = .ok (.iload 9, 2) by decide +kernel) rfl ?_
          obtain ⟨s155, w⟩ := w
          refine X_vR (rc' := 23) (rs' := 884) (as := [.int _]) mv_L_284 (show decode cL_does 481 = .ok (.invokevirtual 284, 3) by decide +kernel) (by decide) (Nat.le_of_ble_eq_true rfl) (Nat.le_of_ble_eq_true rfl) rfl rfl (Nat.le_of_ble_eq_true rfl) (rcvD s155 (by decide) rfl) (kJ4_append_bf812 w) (fun E h hk => hk.elim) (fun r151 h150 w => ?_)
          obtain ⟨s154, w⟩ := w
          refine X_vR (rc' := 20) (rs' := 618) (as := []) mv_L_289 (show decode cL_does 484 = .ok (.invokevirtual 289, 3) by decide +kernel) (by decide) (Nat.le_of_ble_eq_true rfl) (Nat.le_of_ble_eq_true rfl) rfl rfl (Nat.le_of_ble_eq_true rfl) (rcvD s154 (by decide) rfl) (kJ4_toString_0e30d w) (fun E h hk => hk.elim) (fun r153 h152 w => ?_)
          refine X_goto (tgt := 493) (show decode cL_does 487 = .ok (.goto 6, 3) by decide +kernel) (by decide) ?_
          refine X_pick (ls' := []) [] rfl ?_
          exact kL_does_J493  _ _ _ _ w
      · have w := w.2 c143
        refine X_new (rc' := 26) (rs' := 1652) nw_L_275 (show decode cL_does 434 = .ok (.new 275, 3) by decide +kernel) (Nat.le_of_ble_eq_true rfl) (Nat.le_of_ble_eq_true rfl) ?_
        have w := w _ rfl
        refine X_dup (show decode cL_does 437 = .ok (.dup, 1) by decide +kernel) rfl ?_
        obtain ⟨s170, w⟩ := w
        refine X_iV (rc' := 25) (rs' := 1396) (as := []) mi_L_277 (show decode cL_does 438 = .ok (.invokespecial 277, 3) by decide +kernel) (by decide) (Nat.le_of_ble_eq_true rfl) (Nat.le_of_ble_eq_true rfl) rfl rfl (Nat.le_of_ble_eq_true rfl) s170 (kJ4_init_da8c8 w) (fun h159 w => ?_)
        refine X_ldcSW (j := 2) rfl (by decide) rfl (show decode cL_does 441 = .ok (.ldc_w 293, 3) by decide +kernel) ?_
        obtain ⟨s169, w⟩ := w
        refine X_vR (rc' := 24) (rs' := 1140) (as := [.ref _]) mv_L_280 (show decode cL_does 444 = .ok (.invokevirtual 280, 3) by decide +kernel) (by decide) (Nat.le_of_ble_eq_true rfl) (Nat.le_of_ble_eq_true rfl) rfl rfl (Nat.le_of_ble_eq_true rfl) (rcvD s169 (by decide) rfl) (kJ4_append_15ec4 w) (fun E h hk => hk.elim) (fun r162 h161 w => ?_)
        refine X_iload (j := 2) (show decode cL_does 447 = .ok (.iload 4, 2) by decide +kernel) rfl ?_
        obtain ⟨s168, w⟩ := w
        refine X_vR (rc' := 23) (rs' := 884) (as := [.int _]) mv_L_284 (show decode cL_does 449 = .ok (.invokevirtual 284, 3) by decide +kernel) (by decide) (Nat.le_of_ble_eq_true rfl) (Nat.le_of_ble_eq_true rfl) rfl rfl (Nat.le_of_ble_eq_true rfl) (rcvD s168 (by decide) rfl) (kJ4_append_bf812 w) (fun E h hk => hk.elim) (fun r164 h163 w => ?_)
        obtain ⟨s167, w⟩ := w
        refine X_vR (rc' := 20) (rs' := 618) (as := []) mv_L_289 (show decode cL_does 452 = .ok (.invokevirtual 289, 3) by decide +kernel) (by decide) (Nat.le_of_ble_eq_true rfl) (Nat.le_of_ble_eq_true rfl) rfl rfl (Nat.le_of_ble_eq_true rfl) (rcvD s167 (by decide) rfl) (kJ4_toString_0e30d w) (fun E h hk => hk.elim) (fun r166 h165 w => ?_)
        refine X_goto (tgt := 493) (show decode cL_does 455 = .ok (.goto 38, 3) by decide +kernel) (by decide) ?_
        refine X_pick (ls' := []) [] rfl ?_
        exact kL_does_J493  _ _ _ _ w
    · have w := w.2 c142
      refine X_new (rc' := 26) (rs' := 1652) nw_L_275 (show decode cL_does 402 = .ok (.new 275, 3) by decide +kernel) (Nat.le_of_ble_eq_true rfl) (Nat.le_of_ble_eq_true rfl) ?_
      have w := w _ rfl
      refine X_dup (show decode cL_does 405 = .ok (.dup, 1) by decide +kernel) rfl ?_
      obtain ⟨s183, w⟩ := w
      refine X_iV (rc' := 25) (rs' := 1396) (as := []) mi_L_277 (show decode cL_does 406 = .ok (.invokespecial 277, 3) by decide +kernel) (by decide) (Nat.le_of_ble_eq_true rfl) (Nat.le_of_ble_eq_true rfl) rfl rfl (Nat.le_of_ble_eq_true rfl) s183 (kJ4_init_da8c8 w) (fun h172 w => ?_)
      refine X_ldcSW (j := 1) rfl (by decide) rfl (show decode cL_does 409 = .ok (.ldc_w 287, 3) by decide +kernel) ?_
      obtain ⟨s182, w⟩ := w
      refine X_vR (rc' := 24) (rs' := 1140) (as := [.ref _]) mv_L_280 (show decode cL_does 412 = .ok (.invokevirtual 280, 3) by decide +kernel) (by decide) (Nat.le_of_ble_eq_true rfl) (Nat.le_of_ble_eq_true rfl) rfl rfl (Nat.le_of_ble_eq_true rfl) (rcvD s182 (by decide) rfl) (kJ4_append_15ec4 w) (fun E h hk => hk.elim) (fun r175 h174 w => ?_)
      refine X_iload (j := 2) (show decode cL_does 415 = .ok (.iload 4, 2) by decide +kernel) rfl ?_
      obtain ⟨s181, w⟩ := w
      refine X_vR (rc' := 23) (rs' := 884) (as := [.int _]) mv_L_284 (show decode cL_does 417 = .ok (.invokevirtual 284, 3) by decide +kernel) (by decide) (Nat.le_of_ble_eq_true rfl) (Nat.le_of_ble_eq_true rfl) rfl rfl (Nat.le_of_ble_eq_true rfl) (rcvD s181 (by decide) rfl) (kJ4_append_bf812 w) (fun E h hk => hk.elim) (fun r177 h176 w => ?_)
      obtain ⟨s180, w⟩ := w
      refine X_vR (rc' := 20) (rs' := 618) (as := []) mv_L_289 (show decode cL_does 420 = .ok (.invokevirtual 289, 3) by decide +kernel) (by decide) (Nat.le_of_ble_eq_true rfl) (Nat.le_of_ble_eq_true rfl) rfl rfl (Nat.le_of_ble_eq_true rfl) (rcvD s180 (by decide) rfl) (kJ4_toString_0e30d w) (fun E h hk => hk.elim) (fun r179 h178 w => ?_)
      refine X_goto (tgt := 493) (show decode cL_does 423 = .ok (.goto 70, 3) by decide +kernel) (by decide) ?_
      refine X_pick (ls' := []) [] rfl ?_
      exact kL_does_J493  _ _ _ _ w
  have w := w.2.2.2.2.2.2.2.2.2.2.2.2.2.2.2.2.2.2.2.2.2.2.2.2.2.2.2.2.2.2.2.2.2 ⟨z0, z1, z2, z3, z4, z5, z6, z7, z8, z9, z10, z11, z12, z13, z14, z15, z16, z17, z18, z19, z20, z21, z22, z23, z24, z25, z26, z27, z28, z29, z30, z46, z47⟩
  refine X_tab (lo := 0) (hi := 47) (tgt := 503) (show decode cL_does 79 = .ok (.tableswitch 424 0 47 #[205, 205, 230, 230, 230, 230, 241, 241, 241, 241, 241, 250, 257, 264, 274, 274, 274, 274, 274, 274, 274, 274, 283, 283, 283, 283, 283, 283, 290, 290, 290, 424, 424, 424, 424, 424, 424, 424, 424, 424, 424, 424, 424, 424, 424, 424, 297, 297], 205) by decide +kernel) (by decide) (fun g1 g2 => ?_) ?_
  · have g3 : (x2).toInt = 0 ∨ (x2).toInt = 1 ∨ (x2).toInt = 2 ∨ (x2).toInt = 3 ∨ (x2).toInt = 4 ∨ (x2).toInt = 5 ∨ (x2).toInt = 6 ∨ (x2).toInt = 7 ∨ (x2).toInt = 8 ∨ (x2).toInt = 9 ∨ (x2).toInt = 10 ∨ (x2).toInt = 11 ∨ (x2).toInt = 12 ∨ (x2).toInt = 13 ∨ (x2).toInt = 14 ∨ (x2).toInt = 15 ∨ (x2).toInt = 16 ∨ (x2).toInt = 17 ∨ (x2).toInt = 18 ∨ (x2).toInt = 19 ∨ (x2).toInt = 20 ∨ (x2).toInt = 21 ∨ (x2).toInt = 22 ∨ (x2).toInt = 23 ∨ (x2).toInt = 24 ∨ (x2).toInt = 25 ∨ (x2).toInt = 26 ∨ (x2).toInt = 27 ∨ (x2).toInt = 28 ∨ (x2).toInt = 29 ∨ (x2).toInt = 30 ∨ (x2).toInt = 31 ∨ (x2).toInt = 32 ∨ (x2).toInt = 33 ∨ (x2).toInt = 34 ∨ (x2).toInt = 35 ∨ (x2).toInt = 36 ∨ (x2).toInt = 37 ∨ (x2).toInt = 38 ∨ (x2).toInt = 39 ∨ (x2).toInt = 40 ∨ (x2).toInt = 41 ∨ (x2).toInt = 42 ∨ (x2).toInt = 43 ∨ (x2).toInt = 44 ∨ (x2).toInt = 45 ∨ (x2).toInt = 46 ∨ (x2).toInt = 47 := by omega
    rcases g3 with g3 | g3 | g3 | g3 | g3 | g3 | g3 | g3 | g3 | g3 | g3 | g3 | g3 | g3 | g3 | g3 | g3 | g3 | g3 | g3 | g3 | g3 | g3 | g3 | g3 | g3 | g3 | g3 | g3 | g3 | g3 | g3 | g3 | g3 | g3 | g3 | g3 | g3 | g3 | g3 | g3 | g3 | g3 | g3 | g3 | g3 | g3 | g3
    · exact absurd (i32_of (k := (nI 0)) (g3.trans (by decide))) z0
    · exact absurd (i32_of (k := (nI 1)) (g3.trans (by decide))) z1
    · exact absurd (i32_of (k := (nI 2)) (g3.trans (by decide))) z2
    · exact absurd (i32_of (k := (nI 3)) (g3.trans (by decide))) z3
    · exact absurd (i32_of (k := (nI 4)) (g3.trans (by decide))) z4
    · exact absurd (i32_of (k := (nI 5)) (g3.trans (by decide))) z5
    · exact absurd (i32_of (k := (nI 6)) (g3.trans (by decide))) z6
    · exact absurd (i32_of (k := (nI 7)) (g3.trans (by decide))) z7
    · exact absurd (i32_of (k := (nI 8)) (g3.trans (by decide))) z8
    · exact absurd (i32_of (k := (nI 9)) (g3.trans (by decide))) z9
    · exact absurd (i32_of (k := (nI 10)) (g3.trans (by decide))) z10
    · exact absurd (i32_of (k := (nI 11)) (g3.trans (by decide))) z11
    · exact absurd (i32_of (k := (nI 12)) (g3.trans (by decide))) z12
    · exact absurd (i32_of (k := (nI 13)) (g3.trans (by decide))) z13
    · exact absurd (i32_of (k := (nI 14)) (g3.trans (by decide))) z14
    · exact absurd (i32_of (k := (nI 15)) (g3.trans (by decide))) z15
    · exact absurd (i32_of (k := (nI 16)) (g3.trans (by decide))) z16
    · exact absurd (i32_of (k := (nI 17)) (g3.trans (by decide))) z17
    · exact absurd (i32_of (k := (nI 18)) (g3.trans (by decide))) z18
    · exact absurd (i32_of (k := (nI 19)) (g3.trans (by decide))) z19
    · exact absurd (i32_of (k := (nI 20)) (g3.trans (by decide))) z20
    · exact absurd (i32_of (k := (nI 21)) (g3.trans (by decide))) z21
    · exact absurd (i32_of (k := (nI 22)) (g3.trans (by decide))) z22
    · exact absurd (i32_of (k := (nI 23)) (g3.trans (by decide))) z23
    · exact absurd (i32_of (k := (nI 24)) (g3.trans (by decide))) z24
    · exact absurd (i32_of (k := (nI 25)) (g3.trans (by decide))) z25
    · exact absurd (i32_of (k := (nI 26)) (g3.trans (by decide))) z26
    · exact absurd (i32_of (k := (nI 27)) (g3.trans (by decide))) z27
    · exact absurd (i32_of (k := (nI 28)) (g3.trans (by decide))) z28
    · exact absurd (i32_of (k := (nI 29)) (g3.trans (by decide))) z29
    · exact absurd (i32_of (k := (nI 30)) (g3.trans (by decide))) z30
    · exact ⟨_, by rw [g3]; rfl, by decide⟩
    · exact ⟨_, by rw [g3]; rfl, by decide⟩
    · exact ⟨_, by rw [g3]; rfl, by decide⟩
    · exact ⟨_, by rw [g3]; rfl, by decide⟩
    · exact ⟨_, by rw [g3]; rfl, by decide⟩
    · exact ⟨_, by rw [g3]; rfl, by decide⟩
    · exact ⟨_, by rw [g3]; rfl, by decide⟩
    · exact ⟨_, by rw [g3]; rfl, by decide⟩
    · exact ⟨_, by rw [g3]; rfl, by decide⟩
    · exact ⟨_, by rw [g3]; rfl, by decide⟩
    · exact ⟨_, by rw [g3]; rfl, by decide⟩
    · exact ⟨_, by rw [g3]; rfl, by decide⟩
    · exact ⟨_, by rw [g3]; rfl, by decide⟩
    · exact ⟨_, by rw [g3]; rfl, by decide⟩
    · exact ⟨_, by rw [g3]; rfl, by decide⟩
    · exact absurd (i32_of (k := (nI 46)) (g3.trans (by decide))) z46
    · exact absurd (i32_of (k := (nI 47)) (g3.trans (by decide))) z47
  · skip
    refine X_aload_n (j := 1) (show decode cL_does 503 = .ok (.aload_n 3, 1) by decide +kernel) rfl rfl ?_
    refine X_iload (j := 3) (show decode cL_does 504 = .ok (.iload 5, 2) by decide +kernel) rfl ?_
    refine X_sH (rc' := 30) (rs' := 2422) (as := [.ref _, .int _]) msh_L_303 (show decode cL_does 506 = .ok (.invokestatic 303, 3) by decide +kernel) (by decide) (Nat.le_of_ble_eq_true rfl) (Nat.le_of_ble_eq_true rfl) rfl rfl (Nat.le_of_ble_eq_true rfl) (kL_pass w) (fun r188 h187 w => ?_)
    exact X_iret ⟨(show decode cL_does 509 = .ok (.ireturn, 1) by decide +kernel), .int, rfl, rfl⟩ ⟨_, rfl, w⟩
set_option maxRecDepth 100000 in
set_option maxHeartbeats 4000000 in
theorem kL_does_J42 {K : Int32 → AH → Prop}   (x2 : Int32) (x3 : Nat) (x4 : Int32) (x5 : Int32) (x6 : Int32) (x7 : Int32) (y0 : Int32) (h : AH) (w : wL_does_J42 K  x2 x3 x4 x5 x6 x7 y0 h) : X mL_does 14 (KI K) T0 31 2428 42 [(2, .int x2), (3, .ref x3), (4, .int x4), (5, .int x5), (6, .int x6), (7, .int x7)] [.int y0] h := by
  unfold wL_does_J42 at w
  refine X_iconst (v := (nI 1)) (show decode cL_does 42 = .ok (.iconst 1, 1) by decide +kernel) (by decide) ?_
  refine X_goto (tgt := 47) (show decode cL_does 43 = .ok (.goto 4, 3) by decide +kernel) (by decide) ?_
  exact kL_does_J47  _ _ _ _ _ _ _ _ _ w
set_option maxRecDepth 100000 in
set_option maxHeartbeats 4000000 in
theorem kL_does {a0 : Nat} {a1 : Int32} {a2 : Int32} {a3 : Nat} {a4 : Int32} {a5 : Int32} {h : AH} {K : Int32 → AH → Prop} (w : wL_does a0 a1 a2 a3 a4 a5 h K) : Cn mL_does (cwd mL_does) 14 31 2428 [.ref a0, .int a1, .int a2, .ref a3, .int a4, .int a5] h (KI K) T0 := by
  refine Cn_of (by decide +kernel) rfl (Nat.le_of_ble_eq_true rfl) ?_
  show X mL_does 14 (KI K) T0 31 2428 0 [(0, .ref a0), (1, .int a1), (2, .int a2), (3, .ref a3), (4, .int a4), (5, .int a5)] [] h
  unfold wL_does at w
  refine X_aload_n (j := 0) (show decode cL_does 0 = .ok (.aload_n 0, 1) by decide +kernel) rfl rfl ?_
  refine X_iload_n (j := 1) (show decode cL_does 1 = .ok (.iload_n 1, 1) by decide +kernel) rfl rfl ?_
  refine X_iconst (v := (nI 3)) (show decode cL_does 2 = .ok (.iconst 3, 1) by decide +kernel) (by decide) ?_
  refine X_iadd (show decode cL_does 3 = .ok (.iadd, 1) by decide +kernel) ?_
  refine X_sipush (v := (nI 1000)) (show decode cL_does 4 = .ok (.sipush 1000, 3) by decide +kernel) (by decide) ?_
  refine X_sI (rc' := 31) (rs' := 2428) (as := [.ref _, .int _, .int _]) ms_L_192 (show decode cL_does 7 = .ok (.invokestatic 192, 3) by decide +kernel) (by decide) (Nat.le_of_ble_eq_true rfl) (Nat.le_of_ble_eq_true rfl) rfl rfl (Nat.le_of_ble_eq_true rfl) (kL_pick w) (fun E h hk => hk.elim) (fun r2 h1 w => ?_)
  refine X_istore (ls' := [(0, .ref _), (1, .int _), (2, .int _), (3, .ref _), (4, .int _), (5, .int _), (6, .int _)]) (show decode cL_does 10 = .ok (.istore 6, 2) by decide +kernel) (by decide) rfl ?_
  refine X_aload_n (j := 0) (show decode cL_does 12 = .ok (.aload_n 0, 1) by decide +kernel) rfl rfl ?_
  refine X_iload_n (j := 1) (show decode cL_does 13 = .ok (.iload_n 1, 1) by decide +kernel) rfl rfl ?_
  refine X_iconst (v := (nI 4)) (show decode cL_does 14 = .ok (.iconst 4, 1) by decide +kernel) (by decide) ?_
  refine X_iadd (show decode cL_does 15 = .ok (.iadd, 1) by decide +kernel) ?_
  refine X_ldc (v := (nI 100000)) (show decode cL_does 16 = .ok (.ldc 255, 2) by decide +kernel) gc_L_255 ?_
  refine X_sI (rc' := 31) (rs' := 2428) (as := [.ref _, .int _, .int _]) ms_L_192 (show decode cL_does 18 = .ok (.invokestatic 192, 3) by decide +kernel) (by decide) (Nat.le_of_ble_eq_true rfl) (Nat.le_of_ble_eq_true rfl) rfl rfl (Nat.le_of_ble_eq_true rfl) (kL_pick w) (fun E h hk => hk.elim) (fun r4 h3 w => ?_)
  refine X_istore (ls' := [(0, .ref _), (1, .int _), (2, .int _), (3, .ref _), (4, .int _), (5, .int _), (6, .int _), (7, .int _)]) (show decode cL_does 21 = .ok (.istore 7, 2) by decide +kernel) (by decide) rfl ?_
  refine X_aload_n (j := 3) (show decode cL_does 23 = .ok (.aload_n 3, 1) by decide +kernel) rfl rfl ?_
  obtain ⟨s193, w⟩ := w
  refine X_vI (rc' := 31) (rs' := 2428) (as := []) mv_L_196 (show decode cL_does 24 = .ok (.invokevirtual 196, 3) by decide +kernel) (by decide) (Nat.le_of_ble_eq_true rfl) (Nat.le_of_ble_eq_true rfl) rfl rfl (Nat.le_of_ble_eq_true rfl) (rcvD s193 (by decide) rfl) (kX9_blocks w) (fun E h hk => hk.elim) (fun r6 h5 w => ?_)
  refine X_iload (j := 6) (show decode cL_does 27 = .ok (.iload 6, 2) by decide +kernel) rfl ?_
  refine X_bipush (v := (nI 23)) (show decode cL_does 29 = .ok (.bipush 23, 2) by decide +kernel) (by decide) ?_
  refine X_irem (show decode cL_does 31 = .ok (.irem, 1) by decide +kernel) (by decide) ?_
  refine X_if_eq (tgt := 42) (show decode cL_does 32 = .ok (.ifCond .eq 10, 3) by decide +kernel) (by decide) ⟨fun c7 => ?_, fun c7 => ?_⟩
  · have w := w.1 c7
    refine X_pick (ls' := [(2, .int _), (3, .ref _), (4, .int _), (5, .int _), (6, .int _), (7, .int _)]) [2, 3, 4, 5, 6, 7] rfl ?_
    exact kL_does_J42  _ _ _ _ _ _ _ _ w
  · have w := w.2 c7
    refine X_aload_n (j := 3) (show decode cL_does 35 = .ok (.aload_n 3, 1) by decide +kernel) rfl rfl ?_
    obtain ⟨s192, w⟩ := w
    refine X_vI (rc' := 31) (rs' := 2428) (as := []) mv_L_196 (show decode cL_does 36 = .ok (.invokevirtual 196, 3) by decide +kernel) (by decide) (Nat.le_of_ble_eq_true rfl) (Nat.le_of_ble_eq_true rfl) rfl rfl (Nat.le_of_ble_eq_true rfl) (rcvD s192 (by decide) rfl) (kX9_blocks w) (fun E h hk => hk.elim) (fun r190 h189 w => ?_)
    refine X_if_ne (tgt := 46) (show decode cL_does 39 = .ok (.ifCond .ne 7, 3) by decide +kernel) (by decide) ⟨fun c191 => ?_, fun c191 => ?_⟩
    · have w := w.1 c191
      refine X_iconst (v := (nI 0)) (show decode cL_does 46 = .ok (.iconst 0, 1) by decide +kernel) (by decide) ?_
      refine X_pick (ls' := [(2, .int _), (3, .ref _), (4, .int _), (5, .int _), (6, .int _), (7, .int _)]) [2, 3, 4, 5, 6, 7] rfl ?_
      exact kL_does_J47  _ _ _ _ _ _ _ _ _ w
    · have w := w.2 c191
      refine X_pick (ls' := [(2, .int _), (3, .ref _), (4, .int _), (5, .int _), (6, .int _), (7, .int _)]) [2, 3, 4, 5, 6, 7] rfl ?_
      exact kL_does_J42  _ _ _ _ _ _ _ _ w
