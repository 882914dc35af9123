set_option maxRecDepth 100000 in
set_option maxHeartbeats 4000000 in
theorem kX10_count_L13 {d : Nat} {rec : Nat → Int32 → Int32 → Int32 → AH → (Int32 → AH → Prop) → Prop} {K : Int32 → AH → Prop} (hrec : ∀ b0 b1 b2 b3 h K, rec b0 b1 b2 b3 h K → Cn mX10_count (cwd mX10_count) (d + 2) 0 0 [.ref b0, .int b1, .int b2, .int b3] h (KI K) T0)    : ∀ (n : Nat) (x0 : Nat) (x1 : Int32) (x2 : Int32) (x3 : Int32) (x4 : Int32) (x5 : Int32) (h : AH), wX10_count_L13 rec K   n x0 x1 x2 x3 x4 x5 h → X mX10_count (d + 3) (KI K) T0 0 0 13 [(0, .ref x0), (1, .int x1), (2, .int x2), (3, .int x3), (4, .int x4), (5, .int x5)] [] h := by
  intro n
  induction n with
  | zero => intro _ _ _ _ _ _ _ w; exact w.elim
  | succ n ih =>
    intro x0 x1 x2 x3 x4 x5 h w
    rw [wX10_count_L13] at w
    refine X_iload (j := 5) (show decode cX10_count 13 = .ok (.iload 5, 2) by decide +kernel) rfl ?_
    refine X_iconst (v := (nI 2)) (show decode cX10_count 15 = .ok (.iconst 2, 1) by decide +kernel) (by decide) ?_
    refine X_icmp_ge (tgt := 71) (show decode cX10_count 16 = .ok (.if_icmp .ge 55, 3) by decide +kernel) (by decide) ⟨fun c2 => ?_, fun c2 => ?_⟩
    · have w := w.1 c2
      refine X_iload (j := 4) (show decode cX10_count 71 = .ok (.iload 4, 2) by decide +kernel) rfl ?_
      exact X_iret ⟨(show decode cX10_count 73 = .ok (.ireturn, 1) by decide +kernel), .int, rfl, rfl⟩ ⟨_, rfl, w⟩
    · have w := w.2 c2
      refine X_aload_n (j := 0) (show decode cX10_count 19 = .ok (.aload_n 0, 1) by decide +kernel) rfl rfl ?_
      refine X_iload_n (j := 1) (show decode cX10_count 20 = .ok (.iload_n 1, 1) by decide +kernel) rfl rfl ?_
      refine X_iload (j := 5) (show decode cX10_count 21 = .ok (.iload 5, 2) by decide +kernel) rfl ?_
      obtain ⟨s10, w⟩ := w
      refine X_vI (rc' := 0) (rs' := 0) (as := [.int _, .int _]) mv_X10_86 (show decode cX10_count 23 = .ok (.invokevirtual 86, 3) by decide +kernel) (by omega) (Nat.le_of_ble_eq_true rfl) (Nat.le_of_ble_eq_true rfl) rfl rfl (Nat.le_of_ble_eq_true rfl) (rcvD s10 (by decide) rfl) (kX10_exit w) (fun E h hk => hk.elim) (fun r4 h3 w => ?_)
      refine X_istore (ls' := [(0, .ref _), (1, .int _), (2, .int _), (3, .int _), (4, .int _), (5, .int _), (6, .int _)]) (show decode cX10_count 26 = .ok (.istore 6, 2) by decide +kernel) (by decide) rfl ?_
      refine X_iload (j := 4) (show decode cX10_count 28 = .ok (.iload 4, 2) by decide +kernel) rfl ?_
      refine X_iload (j := 6) (show decode cX10_count 30 = .ok (.iload 6, 2) by decide +kernel) rfl ?_
      refine X_iconst (v := (-1)) (show decode cX10_count 32 = .ok (.iconst (-1), 1) by decide +kernel) (by decide) ?_
      refine X_icmp_eq (tgt := 61) (show decode cX10_count 33 = .ok (.if_icmp .eq 28, 3) by decide +kernel) (by decide) ⟨fun c5 => ?_, fun c5 => ?_⟩
      · have w := w.1 c5
        refine X_iconst (v := (nI 0)) (show decode cX10_count 61 = .ok (.iconst 0, 1) by decide +kernel) (by decide) ?_
        refine X_iadd (show decode cX10_count 62 = .ok (.iadd, 1) by decide +kernel) ?_
        refine X_istore (ls' := [(0, .ref _), (1, .int _), (2, .int _), (3, .int _), (4, .int _), (5, .int _), (6, .int _)]) (show decode cX10_count 63 = .ok (.istore 4, 2) by decide +kernel) (by decide) rfl ?_
        refine X_iinc (j := 5) (v := _ + (nI 1)) (ls' := [(0, .ref _), (1, .int _), (2, .int _), (3, .int _), (4, .int _), (5, .int _), (6, .int _)]) (show decode cX10_count 65 = .ok (.iinc 5 1, 3) by decide +kernel) rfl rfl (Nat.le_of_ble_eq_true rfl) rfl ?_
        refine X_goto (tgt := 13) (show decode cX10_count 68 = .ok (.goto (-55), 3) by decide +kernel) (by decide) ?_
        refine X_pick (ls' := [(0, .ref _), (1, .int _), (2, .int _), (3, .int _), (4, .int _), (5, .int _)]) [0, 1, 2, 3, 4, 5] rfl ?_
        exact ih _ _ _ _ _ _ _ w
      · have w := w.2 c5
        refine X_iload_n (j := 3) (show decode cX10_count 36 = .ok (.iload_n 3, 1) by decide +kernel) rfl rfl ?_
        refine X_iload (j := 6) (show decode cX10_count 37 = .ok (.iload 6, 2) by decide +kernel) rfl ?_
        refine X_ishr (show decode cX10_count 39 = .ok (.ishr, 1) by decide +kernel) ?_
        refine X_iconst (v := (nI 1)) (show decode cX10_count 40 = .ok (.iconst 1, 1) by decide +kernel) (by decide) ?_
        refine X_iand (show decode cX10_count 41 = .ok (.iand, 1) by decide +kernel) ?_
        refine X_if_ne (tgt := 61) (show decode cX10_count 42 = .ok (.ifCond .ne 19, 3) by decide +kernel) (by decide) ⟨fun c6 => ?_, fun c6 => ?_⟩
        · have w := w.1 c6
          refine X_iconst (v := (nI 0)) (show decode cX10_count 61 = .ok (.iconst 0, 1) by decide +kernel) (by decide) ?_
          refine X_iadd (show decode cX10_count 62 = .ok (.iadd, 1) by decide +kernel) ?_
          refine X_istore (ls' := [(0, .ref _), (1, .int _), (2, .int _), (3, .int _), (4, .int _), (5, .int _), (6, .int _)]) (show decode cX10_count 63 = .ok (.istore 4, 2) by decide +kernel) (by decide) rfl ?_
          refine X_iinc (j := 5) (v := _ + (nI 1)) (ls' := [(0, .ref _), (1, .int _), (2, .int _), (3, .int _), (4, .int _), (5, .int _), (6, .int _)]) (show decode cX10_count 65 = .ok (.iinc 5 1, 3) by decide +kernel) rfl rfl (Nat.le_of_ble_eq_true rfl) rfl ?_
          refine X_goto (tgt := 13) (show decode cX10_count 68 = .ok (.goto (-55), 3) by decide +kernel) (by decide) ?_
          refine X_pick (ls' := [(0, .ref _), (1, .int _), (2, .int _), (3, .int _), (4, .int _), (5, .int _)]) [0, 1, 2, 3, 4, 5] rfl ?_
          exact ih _ _ _ _ _ _ _ w
        · have w := w.2 c6
          refine X_aload_n (j := 0) (show decode cX10_count 45 = .ok (.aload_n 0, 1) by decide +kernel) rfl rfl ?_
          refine X_iload (j := 6) (show decode cX10_count 46 = .ok (.iload 6, 2) by decide +kernel) rfl ?_
          refine X_iload_n (j := 2) (show decode cX10_count 48 = .ok (.iload_n 2, 1) by decide +kernel) rfl rfl ?_
          refine X_iload_n (j := 3) (show decode cX10_count 49 = .ok (.iload_n 3, 1) by decide +kernel) rfl rfl ?_
          refine X_iconst (v := (nI 1)) (show decode cX10_count 50 = .ok (.iconst 1, 1) by decide +kernel) (by decide) ?_
          refine X_iload (j := 6) (show decode cX10_count 51 = .ok (.iload 6, 2) by decide +kernel) rfl ?_
          refine X_ishl (show decode cX10_count 53 = .ok (.ishl, 1) by decide +kernel) ?_
          refine X_ior (show decode cX10_count 54 = .ok (.ior, 1) by decide +kernel) ?_
          obtain ⟨s9, w⟩ := w
          refine X_vI (rc' := 0) (rs' := 0) (as := [.int _, .int _, .int _]) mv_X10_96 (show decode cX10_count 55 = .ok (.invokevirtual 96, 3) by decide +kernel) (Nat.le_refl _) (Nat.le_of_ble_eq_true rfl) (Nat.le_of_ble_eq_true rfl) rfl rfl (Nat.le_of_ble_eq_true rfl) (rcvD s9 (by decide) rfl) (hrec _ _ _ _ _ _ w) (fun E h hk => hk.elim) (fun r8 h7 w => ?_)
          refine X_goto (tgt := 62) (show decode cX10_count 58 = .ok (.goto 4, 3) by decide +kernel) (by decide) ?_
          refine X_iadd (show decode cX10_count 62 = .ok (.iadd, 1) by decide +kernel) ?_
          refine X_istore (ls' := [(0, .ref _), (1, .int _), (2, .int _), (3, .int _), (4, .int _), (5, .int _), (6, .int _)]) (show decode cX10_count 63 = .ok (.istore 4, 2) by decide +kernel) (by decide) rfl ?_
          refine X_iinc (j := 5) (v := _ + (nI 1)) (ls' := [(0, .ref _), (1, .int _), (2, .int _), (3, .int _), (4, .int _), (5, .int _), (6, .int _)]) (show decode cX10_count 65 = .ok (.iinc 5 1, 3) by decide +kernel) rfl rfl (Nat.le_of_ble_eq_true rfl) rfl ?_
          refine X_goto (tgt := 13) (show decode cX10_count 68 = .ok (.goto (-55), 3) by decide +kernel) (by decide) ?_
          refine X_pick (ls' := [(0, .ref _), (1, .int _), (2, .int _), (3, .int _), (4, .int _), (5, .int _)]) [0, 1, 2, 3, 4, 5] rfl ?_
          exact ih _ _ _ _ _ _ _ w
set_option maxRecDepth 100000 in
set_option maxHeartbeats 4000000 in
theorem kX10_count_b {d : Nat} {rec : Nat → Int32 → Int32 → Int32 → AH → (Int32 → AH → Prop) → Prop} (hrec : ∀ b0 b1 b2 b3 h K, rec b0 b1 b2 b3 h K → Cn mX10_count (cwd mX10_count) (d + 2) 0 0 [.ref b0, .int b1, .int b2, .int b3] h (KI K) T0) {a0 : Nat} {a1 : Int32} {a2 : Int32} {a3 : Int32} {h : AH} {K : Int32 → AH → Prop} (w : wX10_count_b rec a0 a1 a2 a3 h K) : Cn mX10_count (cwd mX10_count) (d + 3) 0 0 [.ref a0, .int a1, .int a2, .int a3] h (KI K) T0 := by
  refine Cn_of (by decide +kernel) rfl (Nat.le_of_ble_eq_true rfl) ?_
  show X mX10_count (d + 3) (KI K) T0 0 0 0 [(0, .ref a0), (1, .int a1), (2, .int a2), (3, .int a3)] [] h
  unfold wX10_count_b at w
  refine X_iload_n (j := 1) (show decode cX10_count 0 = .ok (.iload_n 1, 1) by decide +kernel) rfl rfl ?_
  refine X_iload_n (j := 2) (show decode cX10_count 1 = .ok (.iload_n 2, 1) by decide +kernel) rfl rfl ?_
  refine X_icmp_ne (tgt := 7) (show decode cX10_count 2 = .ok (.if_icmp .ne 5, 3) by decide +kernel) (by decide) ⟨fun c1 => ?_, fun c1 => ?_⟩
  · have w := w.1 c1
    refine X_iconst (v := (nI 0)) (show decode cX10_count 7 = .ok (.iconst 0, 1) by decide +kernel) (by decide) ?_
    refine X_istore (ls' := [(0, .ref _), (1, .int _), (2, .int _), (3, .int _), (4, .int _)]) (show decode cX10_count 8 = .ok (.istore 4, 2) by decide +kernel) (by decide) rfl ?_
    refine X_iconst (v := (nI 0)) (show decode cX10_count 10 = .ok (.iconst 0, 1) by decide +kernel) (by decide) ?_
    refine X_istore (ls' := [(0, .ref _), (1, .int _), (2, .int _), (3, .int _), (4, .int _), (5, .int _)]) (show decode cX10_count 11 = .ok (.istore 5, 2) by decide +kernel) (by decide) rfl ?_
    obtain ⟨n11, w⟩ := w
    exact kX10_count_L13 hrec  n11 _ _ _ _ _ _ _ w
  · have w := w.2 c1
    refine X_iconst (v := (nI 1)) (show decode cX10_count 5 = .ok (.iconst 1, 1) by decide +kernel) (by decide) ?_
    exact X_iret ⟨(show decode cX10_count 6 = .ok (.ireturn, 1) by decide +kernel), .int, rfl, rfl⟩ ⟨_, rfl, w⟩
theorem kX10_count : ∀ (d : Nat) (a0 : Nat) (a1 : Int32) (a2 : Int32) (a3 : Int32) (h : AH) (K : Int32 → AH → Prop), wX10_count d a0 a1 a2 a3 h K → Cn mX10_count (cwd mX10_count) (d + 2) 0 0 [.ref a0, .int a1, .int a2, .int a3] h (KI K) T0
  | 0, _, _, _, _, _, _, w => w.elim
  | d + 1, a0, a1, a2, a3, h, K, w => by
    have := kX10_count_b (d := d) (kX10_count d) w
    rw [show d + 1 + 2 = d + 3 by omega]
    exact this
set_option maxRecDepth 100000 in
set_option maxHeartbeats 4000000 in
theorem kX10_hindered_L24 {K : Int32 → AH → Prop}    : ∀ (n : Nat) (x0 : Nat) (x2 : Int32) (h : AH), wX10_hindered_L24 K   n x0 x2 h → X mX10_hindered 5 (KI K) T0 0 0 24 [(0, .ref x0), (2, .int x2)] [] h := by
  intro n
  induction n with
  | zero => intro _ _ _ w; exact w.elim
  | succ n ih =>
    intro x0 x2 h w
    rw [wX10_hindered_L24] at w
    refine X_iload_n (j := 1) (show decode cX10_hindered 24 = .ok (.iload_n 2, 1) by decide +kernel) rfl rfl ?_
    refine X_aload_n (j := 0) (show decode cX10_hindered 25 = .ok (.aload_n 0, 1) by decide +kernel) rfl rfl ?_
    obtain ⟨s8, w⟩ := w
    refine X_getI fl_X10_93 (show decode cX10_hindered 26 = .ok (.getfield 93, 3) by decide +kernel) s8 ?_
    refine X_icmp_ge (tgt := 55) (show decode cX10_hindered 29 = .ok (.if_icmp .ge 26, 3) by decide +kernel) (by decide) ⟨fun c9 => ?_, fun c9 => ?_⟩
    · have w := w.1 c9
      refine X_iconst (v := (-1)) (show decode cX10_hindered 55 = .ok (.iconst (-1), 1) by decide +kernel) (by decide) ?_
      exact X_iret ⟨(show decode cX10_hindered 56 = .ok (.ireturn, 1) by decide +kernel), .int, rfl, rfl⟩ ⟨_, rfl, w⟩
    · have w := w.2 c9
      refine X_aload_n (j := 0) (show decode cX10_hindered 32 = .ok (.aload_n 0, 1) by decide +kernel) rfl rfl ?_
      refine X_aload_n (j := 0) (show decode cX10_hindered 33 = .ok (.aload_n 0, 1) by decide +kernel) rfl rfl ?_
      refine X_getR fl_X10_37 (show decode cX10_hindered 34 = .ok (.getfield 37, 3) by decide +kernel) s8 ?_
      refine X_iload_n (j := 1) (show decode cX10_hindered 37 = .ok (.iload_n 2, 1) by decide +kernel) rfl rfl ?_
      obtain ⟨s10, w⟩ := w
      obtain ⟨s11, w⟩ := w
      refine X_iald (show decode cX10_hindered 38 = .ok (.iaload, 1) by decide +kernel) (isA_eq s10) s11 ?_
      refine X_vI (rc' := 0) (rs' := 0) (as := [.int _]) mv_X10_103 (show decode cX10_hindered 39 = .ok (.invokevirtual 103, 3) by decide +kernel) (by decide) (Nat.le_of_ble_eq_true rfl) (Nat.le_of_ble_eq_true rfl) rfl rfl (Nat.le_of_ble_eq_true rfl) (rcvD s8 (by decide) rfl) (kX10_look w) (fun E h hk => hk.elim) (fun r13 h12 w => ?_)
      refine X_bipush (v := (nI 102)) (show decode cX10_hindered 42 = .ok (.bipush 102, 2) by decide +kernel) (by decide) ?_
      refine X_icmp_eq (tgt := 49) (show decode cX10_hindered 44 = .ok (.if_icmp .eq 5, 3) by decide +kernel) (by decide) ⟨fun c14 => ?_, fun c14 => ?_⟩
      · have w := w.1 c14
        refine X_iinc (j := 1) (v := _ + (nI 1)) (ls' := [(0, .ref _), (2, .int _)]) (show decode cX10_hindered 49 = .ok (.iinc 2 1, 3) by decide +kernel) rfl rfl (Nat.le_of_ble_eq_true rfl) rfl ?_
        refine X_goto (tgt := 24) (show decode cX10_hindered 52 = .ok (.goto (-28), 3) by decide +kernel) (by decide) ?_
        exact ih _ _ _ w
      · have w := w.2 c14
        refine X_iload_n (j := 1) (show decode cX10_hindered 47 = .ok (.iload_n 2, 1) by decide +kernel) rfl rfl ?_
        exact X_iret ⟨(show decode cX10_hindered 48 = .ok (.ireturn, 1) by decide +kernel), .int, rfl, rfl⟩ ⟨_, rfl, w⟩
set_option maxRecDepth 100000 in
set_option maxHeartbeats 4000000 in
theorem kX10_hindered {a0 : Nat} {a1 : Int32} {h : AH} {K : Int32 → AH → Prop} (w : wX10_hindered a0 a1 h K) : Cn mX10_hindered (cwd mX10_hindered) 5 0 0 [.ref a0, .int a1] h (KI K) T0 := by
  refine Cn_of (by decide +kernel) rfl (Nat.le_of_ble_eq_true rfl) ?_
  show X mX10_hindered 5 (KI K) T0 0 0 0 [(0, .ref a0), (1, .int a1)] [] h
  unfold wX10_hindered at w
  refine X_aload_n (j := 0) (show decode cX10_hindered 0 = .ok (.aload_n 0, 1) by decide +kernel) rfl rfl ?_
  refine X_aload_n (j := 0) (show decode cX10_hindered 1 = .ok (.aload_n 0, 1) by decide +kernel) rfl rfl ?_
  refine X_iload_n (j := 1) (show decode cX10_hindered 2 = .ok (.iload_n 1, 1) by decide +kernel) rfl rfl ?_
  refine X_iconst (v := (nI 1)) (show decode cX10_hindered 3 = .ok (.iconst 1, 1) by decide +kernel) (by decide) ?_
  obtain ⟨s18, w⟩ := w
  refine X_vI (rc' := 0) (rs' := 0) (as := [.int _, .int _]) mv_X10_76 (show decode cX10_hindered 4 = .ok (.invokevirtual 76, 3) by decide +kernel) (by decide) (Nat.le_of_ble_eq_true rfl) (Nat.le_of_ble_eq_true rfl) rfl rfl (Nat.le_of_ble_eq_true rfl) (rcvD s18 (by decide) rfl) (kX10_train w) (fun E h hk => hk.elim) (fun r2 h1 w => ?_)
  refine X_aload_n (j := 0) (show decode cX10_hindered 7 = .ok (.aload_n 0, 1) by decide +kernel) rfl rfl ?_
  refine X_iload_n (j := 1) (show decode cX10_hindered 8 = .ok (.iload_n 1, 1) by decide +kernel) rfl rfl ?_
  refine X_iconst (v := (nI 2)) (show decode cX10_hindered 9 = .ok (.iconst 2, 1) by decide +kernel) (by decide) ?_
  obtain ⟨s17, w⟩ := w
  refine X_vI (rc' := 0) (rs' := 0) (as := [.int _, .int _]) mv_X10_76 (show decode cX10_hindered 10 = .ok (.invokevirtual 76, 3) by decide +kernel) (by decide) (Nat.le_of_ble_eq_true rfl) (Nat.le_of_ble_eq_true rfl) rfl rfl (Nat.le_of_ble_eq_true rfl) (rcvD s17 (by decide) rfl) (kX10_train w) (fun E h hk => hk.elim) (fun r4 h3 w => ?_)
  obtain ⟨s16, w⟩ := w
  refine X_vI (rc' := 0) (rs' := 0) (as := [.int _, .int _]) mv_X10_100 (show decode cX10_hindered 13 = .ok (.invokevirtual 100, 3) by decide +kernel) (by decide) (Nat.le_of_ble_eq_true rfl) (Nat.le_of_ble_eq_true rfl) rfl rfl (Nat.le_of_ble_eq_true rfl) (rcvD s16 (by decide) rfl) (kX10_leads w) (fun E h hk => hk.elim) (fun r6 h5 w => ?_)
  refine X_iconst (v := (-1)) (show decode cX10_hindered 16 = .ok (.iconst (-1), 1) by decide +kernel) (by decide) ?_
  refine X_icmp_ne (tgt := 22) (show decode cX10_hindered 17 = .ok (.if_icmp .ne 5, 3) by decide +kernel) (by decide) ⟨fun c7 => ?_, fun c7 => ?_⟩
  · have w := w.1 c7
    refine X_iconst (v := (nI 1)) (show decode cX10_hindered 22 = .ok (.iconst 1, 1) by decide +kernel) (by decide) ?_
    refine X_istore_n (ls' := [(0, .ref _), (1, .int _), (2, .int _)]) (show decode cX10_hindered 23 = .ok (.istore_n 2, 1) by decide +kernel) rfl (by decide) rfl ?_
    refine X_pick (ls' := [(0, .ref _), (2, .int _)]) [0, 2] rfl ?_
    obtain ⟨n15, w⟩ := w
    exact kX10_hindered_L24  n15 _ _ _ w
  · have w := w.2 c7
    refine X_iconst (v := (nI 0)) (show decode cX10_hindered 20 = .ok (.iconst 0, 1) by decide +kernel) (by decide) ?_
    exact X_iret ⟨(show decode cX10_hindered 21 = .ok (.ireturn, 1) by decide +kernel), .int, rfl, rfl⟩ ⟨_, rfl, w⟩
set_option maxRecDepth 100000 in
set_option maxHeartbeats 4000000 in
theorem kX10_isFree {a0 : Nat} {a1 : Int32} {h : AH} {K : Int32 → AH → Prop} (w : wX10_isFree a0 a1 h K) : Cn mX10_isFree (cwd mX10_isFree) 6 0 0 [.ref a0, .int a1] h (KI K) T0 := by
  refine Cn_of (by decide +kernel) rfl (Nat.le_of_ble_eq_true rfl) ?_
  show X mX10_isFree 6 (KI K) T0 0 0 0 [(0, .ref a0), (1, .int a1)] [] h
  unfold wX10_isFree at w
  refine X_aload_n (j := 0) (show decode cX10_isFree 0 = .ok (.aload_n 0, 1) by decide +kernel) rfl rfl ?_
  refine X_iload_n (j := 1) (show decode cX10_isFree 1 = .ok (.iload_n 1, 1) by decide +kernel) rfl rfl ?_
  refine X_iconst (v := (nI 3)) (show decode cX10_isFree 2 = .ok (.iconst 3, 1) by decide +kernel) (by decide) ?_
  obtain ⟨s8, w⟩ := w
  refine X_vI (rc' := 0) (rs' := 0) (as := [.int _, .int _]) mv_X10_76 (show decode cX10_isFree 3 = .ok (.invokevirtual 76, 3) by decide +kernel) (by decide) (Nat.le_of_ble_eq_true rfl) (Nat.le_of_ble_eq_true rfl) rfl rfl (Nat.le_of_ble_eq_true rfl) (rcvD s8 (by decide) rfl) (kX10_train w) (fun E h hk => hk.elim) (fun r2 h1 w => ?_)
  refine X_if_ne (tgt := 22) (show decode cX10_isFree 6 = .ok (.ifCond .ne 16, 3) by decide +kernel) (by decide) ⟨fun c3 => ?_, fun c3 => ?_⟩
  · have w := w.1 c3
    refine X_iconst (v := (nI 0)) (show decode cX10_isFree 22 = .ok (.iconst 0, 1) by decide +kernel) (by decide) ?_
    exact X_iret ⟨(show decode cX10_isFree 23 = .ok (.ireturn, 1) by decide +kernel), .boolean, rfl, (by decide)⟩ ⟨_, rfl, w⟩
  · have w := w.2 c3
    refine X_aload_n (j := 0) (show decode cX10_isFree 9 = .ok (.aload_n 0, 1) by decide +kernel) rfl rfl ?_
    refine X_iload_n (j := 1) (show decode cX10_isFree 10 = .ok (.iload_n 1, 1) by decide +kernel) rfl rfl ?_
    obtain ⟨s7, w⟩ := w
    refine X_vI (rc' := 0) (rs' := 0) (as := [.int _]) mv_X10_106 (show decode cX10_isFree 11 = .ok (.invokevirtual 106, 3) by decide +kernel) (by decide) (Nat.le_of_ble_eq_true rfl) (Nat.le_of_ble_eq_true rfl) rfl rfl (Nat.le_of_ble_eq_true rfl) (rcvD s7 (by decide) rfl) (kX10_hindered w) (fun E h hk => hk.elim) (fun r5 h4 w => ?_)
    refine X_iconst (v := (-1)) (show decode cX10_isFree 14 = .ok (.iconst (-1), 1) by decide +kernel) (by decide) ?_
    refine X_icmp_ne (tgt := 22) (show decode cX10_isFree 15 = .ok (.if_icmp .ne 7, 3) by decide +kernel) (by decide) ⟨fun c6 => ?_, fun c6 => ?_⟩
    · have w := w.1 c6
      refine X_iconst (v := (nI 0)) (show decode cX10_isFree 22 = .ok (.iconst 0, 1) by decide +kernel) (by decide) ?_
      exact X_iret ⟨(show decode cX10_isFree 23 = .ok (.ireturn, 1) by decide +kernel), .boolean, rfl, (by decide)⟩ ⟨_, rfl, w⟩
    · have w := w.2 c6
      refine X_iconst (v := (nI 1)) (show decode cX10_isFree 18 = .ok (.iconst 1, 1) by decide +kernel) (by decide) ?_
      refine X_goto (tgt := 23) (show decode cX10_isFree 19 = .ok (.goto 4, 3) by decide +kernel) (by decide) ?_
      exact X_iret ⟨(show decode cX10_isFree 23 = .ok (.ireturn, 1) by decide +kernel), .boolean, rfl, (by decide)⟩ ⟨_, rfl, w⟩
set_option maxRecDepth 100000 in
set_option maxHeartbeats 4000000 in
theorem kX10_pointAt {a0 : Nat} {a1 : Int32} {h : AH} {K : Int32 → AH → Prop} (w : wX10_pointAt a0 a1 h K) : Cn mX10_pointAt (cwd mX10_pointAt) 2 0 0 [.ref a0, .int a1] h (KI K) T0 := by
  refine Cn_of (by decide +kernel) rfl (Nat.le_of_ble_eq_true rfl) ?_
  show X mX10_pointAt 2 (KI K) T0 0 0 0 [(0, .ref a0), (1, .int a1)] [] h
  unfold wX10_pointAt at w
  refine X_aload_n (j := 0) (show decode cX10_pointAt 0 = .ok (.aload_n 0, 1) by decide +kernel) rfl rfl ?_
  refine X_iload_n (j := 1) (show decode cX10_pointAt 1 = .ok (.iload_n 1, 1) by decide +kernel) rfl rfl ?_
  refine X_iconst (v := (nI 3)) (show decode cX10_pointAt 2 = .ok (.iconst 3, 1) by decide +kernel) (by decide) ?_
  obtain ⟨s3, w⟩ := w
  refine X_vI (rc' := 0) (rs' := 0) (as := [.int _, .int _]) mv_X10_80 (show decode cX10_pointAt 3 = .ok (.invokevirtual 80, 3) by decide +kernel) (by decide) (Nat.le_of_ble_eq_true rfl) (Nat.le_of_ble_eq_true rfl) rfl rfl (Nat.le_of_ble_eq_true rfl) (rcvD s3 (by decide) rfl) (kX10_block w) (fun E h hk => hk.elim) (fun r2 h1 w => ?_)
  refine X_iconst (v := (nI 1)) (show decode cX10_pointAt 6 = .ok (.iconst 1, 1) by decide +kernel) (by decide) ?_
  refine X_isub (show decode cX10_pointAt 7 = .ok (.isub, 1) by decide +kernel) ?_
  exact X_iret ⟨(show decode cX10_pointAt 8 = .ok (.ireturn, 1) by decide +kernel), .int, rfl, rfl⟩ ⟨_, rfl, w⟩
set_option maxRecDepth 100000 in
set_option maxHeartbeats 4000000 in
theorem kX10_unqueues_L2 {K : AH → Prop} {c22 : Nat → Int32 → AH → Prop} (hc22 : ∀ x0 x2 h, c22 x0 x2 h → X mX10_unqueues 1 (KV K) T0 0 0 22 [(0, .ref x0), (2, .int x2)] [] h)  : ∀ (n : Nat) (x0 : Nat) (x1 : Int32) (x2 : Int32) (h : AH), wX10_unqueues_L2 K c22  n x0 x1 x2 h → X mX10_unqueues 1 (KV K) T0 0 0 2 [(0, .ref x0), (1, .int x1), (2, .int x2)] [] h := by
  intro n
  induction n with
  | zero => intro _ _ _ _ w; exact w.elim
  | succ n ih =>
    intro x0 x1 x2 h w
    rw [wX10_unqueues_L2] at w
    refine X_aload_n (j := 0) (show decode cX10_unqueues 2 = .ok (.aload_n 0, 1) by decide +kernel) rfl rfl ?_
    obtain ⟨s1, w⟩ := w
    refine X_getR fl_X10_7 (show decode cX10_unqueues 3 = .ok (.getfield 7, 3) by decide +kernel) s1 ?_
    refine X_sipush (v := (nI 273)) (show decode cX10_unqueues 6 = .ok (.sipush 273, 3) by decide +kernel) (by decide) ?_
    refine X_iload_n (j := 2) (show decode cX10_unqueues 9 = .ok (.iload_n 2, 1) by decide +kernel) rfl rfl ?_
    refine X_iadd (show decode cX10_unqueues 10 = .ok (.iadd, 1) by decide +kernel) ?_
    obtain ⟨s2, w⟩ := w
    obtain ⟨s3, w⟩ := w
    refine X_iald (show decode cX10_unqueues 11 = .ok (.iaload, 1) by decide +kernel) (isA_eq s2) s3 ?_
    refine X_iload_n (j := 1) (show decode cX10_unqueues 12 = .ok (.iload_n 1, 1) by decide +kernel) rfl rfl ?_
    refine X_icmp_eq (tgt := 22) (show decode cX10_unqueues 13 = .ok (.if_icmp .eq 9, 3) by decide +kernel) (by decide) ⟨fun c4 => ?_, fun c4 => ?_⟩
    · have w := w.1 c4
      refine X_pick (ls' := [(0, .ref _), (2, .int _)]) [0, 2] rfl ?_
      exact hc22 _ _ _ w
    · have w := w.2 c4
      refine X_iinc (j := 2) (v := _ + (nI 1)) (ls' := [(0, .ref _), (1, .int _), (2, .int _)]) (show decode cX10_unqueues 16 = .ok (.iinc 2 1, 3) by decide +kernel) rfl rfl (Nat.le_of_ble_eq_true rfl) rfl ?_
      refine X_goto (tgt := 2) (show decode cX10_unqueues 19 = .ok (.goto (-17), 3) by decide +kernel) (by decide) ?_
      exact ih _ _ _ _ w
set_option maxRecDepth 100000 in
set_option maxHeartbeats 4000000 in
theorem kX10_unqueues_L24 {K : AH → Prop}    : ∀ (n : Nat) (x0 : Nat) (x3 : Int32) (h : AH), wX10_unqueues_L24 K   n x0 x3 h → X mX10_unqueues 1 (KV K) T0 0 0 24 [(0, .ref x0), (3, .int x3)] [] h := by
  intro n
  induction n with
  | zero => intro _ _ _ w; exact w.elim
  | succ n ih =>
    intro x0 x3 h w
    rw [wX10_unqueues_L24] at w
    refine X_iload_n (j := 1) (show decode cX10_unqueues 24 = .ok (.iload_n 3, 1) by decide +kernel) rfl rfl ?_
    refine X_aload_n (j := 0) (show decode cX10_unqueues 25 = .ok (.aload_n 0, 1) by decide +kernel) rfl rfl ?_
    obtain ⟨s8, w⟩ := w
    refine X_getR fl_X10_7 (show decode cX10_unqueues 26 = .ok (.getfield 7, 3) by decide +kernel) s8 ?_
    refine X_iconst (v := (nI 5)) (show decode cX10_unqueues 29 = .ok (.iconst 5, 1) by decide +kernel) (by decide) ?_
    obtain ⟨s9, w⟩ := w
    obtain ⟨s10, w⟩ := w
    refine X_iald (show decode cX10_unqueues 30 = .ok (.iaload, 1) by decide +kernel) (isA_eq s9) s10 ?_
    refine X_iconst (v := (nI 1)) (show decode cX10_unqueues 31 = .ok (.iconst 1, 1) by decide +kernel) (by decide) ?_
    refine X_isub (show decode cX10_unqueues 32 = .ok (.isub, 1) by decide +kernel) ?_
    refine X_icmp_ge (tgt := 64) (show decode cX10_unqueues 33 = .ok (.if_icmp .ge 31, 3) by decide +kernel) (by decide) ⟨fun c11 => ?_, fun c11 => ?_⟩
    · have w := w.1 c11
      refine X_aload_n (j := 0) (show decode cX10_unqueues 64 = .ok (.aload_n 0, 1) by decide +kernel) rfl rfl ?_
      refine X_getR fl_X10_7 (show decode cX10_unqueues 65 = .ok (.getfield 7, 3) by decide +kernel) s8 ?_
      refine X_iconst (v := (nI 5)) (show decode cX10_unqueues 68 = .ok (.iconst 5, 1) by decide +kernel) (by decide) ?_
      refine X_dup2 (show decode cX10_unqueues 69 = .ok (.dup2, 1) by decide +kernel) rfl rfl ?_
      refine X_iald (show decode cX10_unqueues 70 = .ok (.iaload, 1) by decide +kernel) (isA_eq s9) s10 ?_
      refine X_iconst (v := (nI 1)) (show decode cX10_unqueues 71 = .ok (.iconst 1, 1) by decide +kernel) (by decide) ?_
      refine X_isub (show decode cX10_unqueues 72 = .ok (.isub, 1) by decide +kernel) ?_
      obtain ⟨s12, w⟩ := w
      refine X_iast (show decode cX10_unqueues 73 = .ok (.iastore, 1) by decide +kernel) (isA_eq s9) s12 s10 ?_
      have w := w _ rfl
      refine X_aload_n (j := 0) (show decode cX10_unqueues 74 = .ok (.aload_n 0, 1) by decide +kernel) rfl rfl ?_
      refine X_getR fl_X10_7 (show decode cX10_unqueues 75 = .ok (.getfield 7, 3) by decide +kernel) s8 ?_
      refine X_sipush (v := (nI 273)) (show decode cX10_unqueues 78 = .ok (.sipush 273, 3) by decide +kernel) (by decide) ?_
      refine X_aload_n (j := 0) (show decode cX10_unqueues 81 = .ok (.aload_n 0, 1) by decide +kernel) rfl rfl ?_
      refine X_getR fl_X10_7 (show decode cX10_unqueues 82 = .ok (.getfield 7, 3) by decide +kernel) s8 ?_
      refine X_iconst (v := (nI 5)) (show decode cX10_unqueues 85 = .ok (.iconst 5, 1) by decide +kernel) (by decide) ?_
      refine X_iald (show decode cX10_unqueues 86 = .ok (.iaload, 1) by decide +kernel) (isA_eq s9) s10 ?_
      refine X_iadd (show decode cX10_unqueues 87 = .ok (.iadd, 1) by decide +kernel) ?_
      refine X_iconst (v := (nI 0)) (show decode cX10_unqueues 88 = .ok (.iconst 0, 1) by decide +kernel) (by decide) ?_
      obtain ⟨s14, w⟩ := w
      refine X_iast (show decode cX10_unqueues 89 = .ok (.iastore, 1) by decide +kernel) (isA_eq s9) s12 s14 ?_
      have w := w _ rfl
      exact X_vret ⟨(show decode cX10_unqueues 90 = .ok (.return_, 1) by decide +kernel), rfl⟩ ⟨rfl, w⟩
    · have w := w.2 c11
      refine X_aload_n (j := 0) (show decode cX10_unqueues 36 = .ok (.aload_n 0, 1) by decide +kernel) rfl rfl ?_
      refine X_getR fl_X10_7 (show decode cX10_unqueues 37 = .ok (.getfield 7, 3) by decide +kernel) s8 ?_
      refine X_sipush (v := (nI 273)) (show decode cX10_unqueues 40 = .ok (.sipush 273, 3) by decide +kernel) (by decide) ?_
      refine X_iload_n (j := 1) (show decode cX10_unqueues 43 = .ok (.iload_n 3, 1) by decide +kernel) rfl rfl ?_
      refine X_iadd (show decode cX10_unqueues 44 = .ok (.iadd, 1) by decide +kernel) ?_
      refine X_aload_n (j := 0) (show decode cX10_unqueues 45 = .ok (.aload_n 0, 1) by decide +kernel) rfl rfl ?_
      refine X_getR fl_X10_7 (show decode cX10_unqueues 46 = .ok (.getfield 7, 3) by decide +kernel) s8 ?_
      refine X_sipush (v := (nI 273)) (show decode cX10_unqueues 49 = .ok (.sipush 273, 3) by decide +kernel) (by decide) ?_
      refine X_iload_n (j := 1) (show decode cX10_unqueues 52 = .ok (.iload_n 3, 1) by decide +kernel) rfl rfl ?_
      refine X_iadd (show decode cX10_unqueues 53 = .ok (.iadd, 1) by decide +kernel) ?_
      refine X_iconst (v := (nI 1)) (show decode cX10_unqueues 54 = .ok (.iconst 1, 1) by decide +kernel) (by decide) ?_
      refine X_iadd (show decode cX10_unqueues 55 = .ok (.iadd, 1) by decide +kernel) ?_
      obtain ⟨s16, w⟩ := w
      refine X_iald (show decode cX10_unqueues 56 = .ok (.iaload, 1) by decide +kernel) (isA_eq s9) s16 ?_
      obtain ⟨s17, w⟩ := w
      obtain ⟨s18, w⟩ := w
      refine X_iast (show decode cX10_unqueues 57 = .ok (.iastore, 1) by decide +kernel) (isA_eq s9) s17 s18 ?_
      have w := w _ rfl
      refine X_iinc (j := 1) (v := _ + (nI 1)) (ls' := [(0, .ref _), (3, .int _)]) (show decode cX10_unqueues 58 = .ok (.iinc 3 1, 3) by decide +kernel) rfl rfl (Nat.le_of_ble_eq_true rfl) rfl ?_
      refine X_goto (tgt := 24) (show decode cX10_unqueues 61 = .ok (.goto (-37), 3) by decide +kernel) (by decide) ?_
      exact ih _ _ _ w
set_option maxRecDepth 100000 in
set_option maxHeartbeats 4000000 in
theorem kX10_unqueues {a0 : Nat} {a1 : Int32} {h : AH} {K : AH → Prop} (w : wX10_unqueues a0 a1 h K) : Cn mX10_unqueues (cwd mX10_unqueues) 1 0 0 [.ref a0, .int a1] h (KV K) T0 := by
  refine Cn_of (by decide +kernel) rfl (Nat.le_of_ble_eq_true rfl) ?_
  show X mX10_unqueues 1 (KV K) T0 0 0 0 [(0, .ref a0), (1, .int a1)] [] h
  unfold wX10_unqueues at w
  refine X_iconst (v := (nI 0)) (show decode cX10_unqueues 0 = .ok (.iconst 0, 1) by decide +kernel) (by decide) ?_
  refine X_istore_n (ls' := [(0, .ref _), (1, .int _), (2, .int _)]) (show decode cX10_unqueues 1 = .ok (.istore_n 2, 1) by decide +kernel) rfl (by decide) rfl ?_
  obtain ⟨n21, w⟩ := w
  refine kX10_unqueues_L2 ?_ n21 _ _ _ _ w
  · intro x0_5 x2_6 h7 w
    refine X_iload_n (j := 1) (show decode cX10_unqueues 22 = .ok (.iload_n 2, 1) by decide +kernel) rfl rfl ?_
    refine X_istore_n (ls' := [(0, .ref _), (2, .int _), (3, .int _)]) (show decode cX10_unqueues 23 = .ok (.istore_n 3, 1) by decide +kernel) rfl (by decide) rfl ?_
    refine X_pick (ls' := [(0, .ref _), (3, .int _)]) [0, 2] rfl ?_
    obtain ⟨n20, w⟩ := w
    exact kX10_unqueues_L24  n20 _ _ _ w
set_option maxRecDepth 100000 in
set_option maxHeartbeats 4000000 in
theorem kX10_enqueues {a0 : Nat} {a1 : Int32} {h : AH} {K : AH → Prop} (w : wX10_enqueues a0 a1 h K) : Cn mX10_enqueues (cwd mX10_enqueues) 1 0 0 [.ref a0, .int a1] h (KV K) T0 := by
  refine Cn_of (by decide +kernel) rfl (Nat.le_of_ble_eq_true rfl) ?_
  show X mX10_enqueues 1 (KV K) T0 0 0 0 [(0, .ref a0), (1, .int a1)] [] h
  unfold wX10_enqueues at w
  refine X_aload_n (j := 0) (show decode cX10_enqueues 0 = .ok (.aload_n 0, 1) by decide +kernel) rfl rfl ?_
  obtain ⟨s1, w⟩ := w
  refine X_getR fl_X10_7 (show decode cX10_enqueues 1 = .ok (.getfield 7, 3) by decide +kernel) s1 ?_
  refine X_sipush (v := (nI 273)) (show decode cX10_enqueues 4 = .ok (.sipush 273, 3) by decide +kernel) (by decide) ?_
  refine X_aload_n (j := 0) (show decode cX10_enqueues 7 = .ok (.aload_n 0, 1) by decide +kernel) rfl rfl ?_
  refine X_getR fl_X10_7 (show decode cX10_enqueues 8 = .ok (.getfield 7, 3) by decide +kernel) s1 ?_
  refine X_iconst (v := (nI 5)) (show decode cX10_enqueues 11 = .ok (.iconst 5, 1) by decide +kernel) (by decide) ?_
  obtain ⟨s2, w⟩ := w
  obtain ⟨s3, w⟩ := w
  refine X_iald (show decode cX10_enqueues 12 = .ok (.iaload, 1) by decide +kernel) (isA_eq s2) s3 ?_
  refine X_iadd (show decode cX10_enqueues 13 = .ok (.iadd, 1) by decide +kernel) ?_
  refine X_iload_n (j := 1) (show decode cX10_enqueues 14 = .ok (.iload_n 1, 1) by decide +kernel) rfl rfl ?_
  obtain ⟨s4, w⟩ := w
  obtain ⟨s5, w⟩ := w
  refine X_iast (show decode cX10_enqueues 15 = .ok (.iastore, 1) by decide +kernel) (isA_eq s2) s4 s5 ?_
  have w := w _ rfl
  refine X_aload_n (j := 0) (show decode cX10_enqueues 16 = .ok (.aload_n 0, 1) by decide +kernel) rfl rfl ?_
  refine X_getR fl_X10_7 (show decode cX10_enqueues 17 = .ok (.getfield 7, 3) by decide +kernel) s1 ?_
  refine X_iconst (v := (nI 5)) (show decode cX10_enqueues 20 = .ok (.iconst 5, 1) by decide +kernel) (by decide) ?_
  refine X_dup2 (show decode cX10_enqueues 21 = .ok (.dup2, 1) by decide +kernel) rfl rfl ?_
  refine X_iald (show decode cX10_enqueues 22 = .ok (.iaload, 1) by decide +kernel) (isA_eq s2) s3 ?_
  refine X_iconst (v := (nI 1)) (show decode cX10_enqueues 23 = .ok (.iconst 1, 1) by decide +kernel) (by decide) ?_
  refine X_iadd (show decode cX10_enqueues 24 = .ok (.iadd, 1) by decide +kernel) ?_
  refine X_iast (show decode cX10_enqueues 25 = .ok (.iastore, 1) by decide +kernel) (isA_eq s2) s4 s3 ?_
  have w := w _ rfl
  exact X_vret ⟨(show decode cX10_enqueues 26 = .ok (.return_, 1) by decide +kernel), rfl⟩ ⟨rfl, w⟩
set_option maxRecDepth 100000 in
set_option maxHeartbeats 4000000 in
theorem kX10_sets_J143 {K : Int32 → AH → Prop} {c27 : Nat → Int32 → Int32 → Int32 → Int32 → AH → Prop} (hc27 : ∀ x0 x1 x2 x3 x4 h, c27 x0 x1 x2 x3 x4 h → X mX10_sets 5 (KI K) T0 0 0 27 [(0, .ref x0), (1, .int x1), (2, .int x2), (3, .int x3), (4, .int x4)] [] h) (x0 : Nat) (x1 : Int32) (x2 : Int32) (x3 : Int32) (x4 : Int32) (x5 : Int32) (y0 : Nat) (y1 : Int32) (y2 : Int32) (h : AH) (w : wX10_sets_J143 K c27 x0 x1 x2 x3 x4 x5 y0 y1 y2 h) : X mX10_sets 5 (KI K) T0 0 0 143 [(0, .ref x0), (1, .int x1), (2, .int x2), (3, .int x3), (4, .int x4), (5, .int x5)] [.int y2, .int y1, .ref y0] h := by
  unfold wX10_sets_J143 at w
  obtain ⟨s48, w⟩ := w
  obtain ⟨s49, w⟩ := w
  obtain ⟨s50, w⟩ := w
  refine X_iast (show decode cX10_sets 143 = .ok (.iastore, 1) by decide +kernel) (isA_eq s48) s49 s50 ?_
  have w := w _ rfl
  refine X_aload_n (j := 0) (show decode cX10_sets 144 = .ok (.aload_n 0, 1) by decide +kernel) rfl rfl ?_
  obtain ⟨s52, w⟩ := w
  refine X_getR fl_X10_7 (show decode cX10_sets 145 = .ok (.getfield 7, 3) by decide +kernel) s52 ?_
  refine X_bipush (v := (nI 81)) (show decode cX10_sets 148 = .ok (.bipush 81, 2) by decide +kernel) (by decide) ?_
  refine X_iconst (v := (nI 5)) (show decode cX10_sets 150 = .ok (.iconst 5, 1) by decide +kernel) (by decide) ?_
  refine X_iload (j := 5) (show decode cX10_sets 151 = .ok (.iload 5, 2) by decide +kernel) rfl ?_
  refine X_imul (show decode cX10_sets 153 = .ok (.imul, 1) by decide +kernel) ?_
  refine X_iadd (show decode cX10_sets 154 = .ok (.iadd, 1) by decide +kernel) ?_
  refine X_iconst (v := (nI 4)) (show decode cX10_sets 155 = .ok (.iconst 4, 1) by decide +kernel) (by decide) ?_
  refine X_iadd (show decode cX10_sets 156 = .ok (.iadd, 1) by decide +kernel) ?_
  refine X_iload_n (j := 3) (show decode cX10_sets 157 = .ok (.iload_n 3, 1) by decide +kernel) rfl rfl ?_
  refine X_iconst (v := (nI 1)) (show decode cX10_sets 158 = .ok (.iconst 1, 1) by decide +kernel) (by decide) ?_
  refine X_iadd (show decode cX10_sets 159 = .ok (.iadd, 1) by decide +kernel) ?_
  obtain ⟨s53, w⟩ := w
  obtain ⟨s54, w⟩ := w
  obtain ⟨s55, w⟩ := w
  refine X_iast (show decode cX10_sets 160 = .ok (.iastore, 1) by decide +kernel) (isA_eq s53) s54 s55 ?_
  have w := w _ rfl
  refine X_iinc (j := 4) (v := _ + (nI 1)) (ls' := [(0, .ref _), (1, .int _), (2, .int _), (3, .int _), (4, .int _), (5, .int _)]) (show decode cX10_sets 161 = .ok (.iinc 4 1, 3) by decide +kernel) rfl rfl (Nat.le_of_ble_eq_true rfl) rfl ?_
  refine X_goto (tgt := 27) (show decode cX10_sets 164 = .ok (.goto (-137), 3) by decide +kernel) (by decide) ?_
  refine X_pick (ls' := [(0, .ref _), (1, .int _), (2, .int _), (3, .int _), (4, .int _)]) [0, 1, 2, 3, 4] rfl ?_
  exact hc27 _ _ _ _ _ _ w
set_option maxRecDepth 100000 in
set_option maxHeartbeats 4000000 in
theorem kX10_sets_J73 {K : Int32 → AH → Prop} {c27 : Nat → Int32 → Int32 → Int32 → Int32 → AH → Prop} (hc27 : ∀ x0 x1 x2 x3 x4 h, c27 x0 x1 x2 x3 x4 h → X mX10_sets 5 (KI K) T0 0 0 27 [(0, .ref x0), (1, .int x1), (2, .int x2), (3, .int x3), (4, .int x4)] [] h) (x0 : Nat) (x1 : Int32) (x2 : Int32) (x3 : Int32) (x4 : Int32) (h : AH) (w : wX10_sets_J73 K c27 x0 x1 x2 x3 x4 h) : X mX10_sets 5 (KI K) T0 0 0 73 [(0, .ref x0), (1, .int x1), (2, .int x2), (3, .int x3), (4, .int x4)] [] h := by
  unfold wX10_sets_J73 at w
  refine X_aload_n (j := 0) (show decode cX10_sets 73 = .ok (.aload_n 0, 1) by decide +kernel) rfl rfl ?_
  refine X_aload_n (j := 0) (show decode cX10_sets 74 = .ok (.aload_n 0, 1) by decide +kernel) rfl rfl ?_
  obtain ⟨s34, w⟩ := w
  refine X_getR fl_X10_37 (show decode cX10_sets 75 = .ok (.getfield 37, 3) by decide +kernel) s34 ?_
  refine X_iload (j := 4) (show decode cX10_sets 78 = .ok (.iload 4, 2) by decide +kernel) rfl ?_
  obtain ⟨s35, w⟩ := w
  obtain ⟨s36, w⟩ := w
  refine X_iald (show decode cX10_sets 80 = .ok (.iaload, 1) by decide +kernel) (isA_eq s35) s36 ?_
  refine X_vI (rc' := 0) (rs' := 0) (as := [.int _]) mv_X10_116 (show decode cX10_sets 81 = .ok (.invokevirtual 116, 3) by decide +kernel) (by decide) (Nat.le_of_ble_eq_true rfl) (Nat.le_of_ble_eq_true rfl) rfl rfl (Nat.le_of_ble_eq_true rfl) (rcvD s34 (by decide) rfl) (kX10_pointAt w) (fun E h hk => hk.elim) (fun r38 h37 w => ?_)
  refine X_istore (ls' := [(0, .ref _), (1, .int _), (2, .int _), (3, .int _), (4, .int _), (5, .int _)]) (show decode cX10_sets 84 = .ok (.istore 5, 2) by decide +kernel) (by decide) rfl ?_
  refine X_iload (j := 4) (show decode cX10_sets 86 = .ok (.iload 4, 2) by decide +kernel) rfl ?_
  refine X_aload_n (j := 0) (show decode cX10_sets 88 = .ok (.aload_n 0, 1) by decide +kernel) rfl rfl ?_
  obtain ⟨s39, w⟩ := w
  refine X_getI fl_X10_93 (show decode cX10_sets 89 = .ok (.getfield 93, 3) by decide +kernel) s39 ?_
  refine X_iconst (v := (nI 1)) (show decode cX10_sets 92 = .ok (.iconst 1, 1) by decide +kernel) (by decide) ?_
  refine X_isub (show decode cX10_sets 93 = .ok (.isub, 1) by decide +kernel) ?_
  refine X_icmp_eq (tgt := 161) (show decode cX10_sets 94 = .ok (.if_icmp .eq 67, 3) by decide +kernel) (by decide) ⟨fun c40 => ?_, fun c40 => ?_⟩
  · have w := w.1 c40
    refine X_iinc (j := 4) (v := _ + (nI 1)) (ls' := [(0, .ref _), (1, .int _), (2, .int _), (3, .int _), (4, .int _), (5, .int _)]) (show decode cX10_sets 161 = .ok (.iinc 4 1, 3) by decide +kernel) rfl rfl (Nat.le_of_ble_eq_true rfl) rfl ?_
    refine X_goto (tgt := 27) (show decode cX10_sets 164 = .ok (.goto (-137), 3) by decide +kernel) (by decide) ?_
    refine X_pick (ls' := [(0, .ref _), (1, .int _), (2, .int _), (3, .int _), (4, .int _)]) [0, 1, 2, 3, 4] rfl ?_
    exact hc27 _ _ _ _ _ _ w
  · have w := w.2 c40
    refine X_iload (j := 5) (show decode cX10_sets 97 = .ok (.iload 5, 2) by decide +kernel) rfl ?_
    refine X_iconst (v := (-1)) (show decode cX10_sets 99 = .ok (.iconst (-1), 1) by decide +kernel) (by decide) ?_
    refine X_icmp_ne (tgt := 106) (show decode cX10_sets 100 = .ok (.if_icmp .ne 6, 3) by decide +kernel) (by decide) ⟨fun c41 => ?_, fun c41 => ?_⟩
    · have w := w.1 c41
      refine X_aload_n (j := 0) (show decode cX10_sets 106 = .ok (.aload_n 0, 1) by decide +kernel) rfl rfl ?_
      refine X_getR fl_X10_7 (show decode cX10_sets 107 = .ok (.getfield 7, 3) by decide +kernel) s39 ?_
      refine X_bipush (v := (nI 81)) (show decode cX10_sets 110 = .ok (.bipush 81, 2) by decide +kernel) (by decide) ?_
      refine X_iconst (v := (nI 5)) (show decode cX10_sets 112 = .ok (.iconst 5, 1) by decide +kernel) (by decide) ?_
      refine X_iload (j := 5) (show decode cX10_sets 113 = .ok (.iload 5, 2) by decide +kernel) rfl ?_
      refine X_imul (show decode cX10_sets 115 = .ok (.imul, 1) by decide +kernel) ?_
      refine X_iadd (show decode cX10_sets 116 = .ok (.iadd, 1) by decide +kernel) ?_
      refine X_iconst (v := (nI 3)) (show decode cX10_sets 117 = .ok (.iconst 3, 1) by decide +kernel) (by decide) ?_
      refine X_iadd (show decode cX10_sets 118 = .ok (.iadd, 1) by decide +kernel) ?_
      refine X_aload_n (j := 0) (show decode cX10_sets 119 = .ok (.aload_n 0, 1) by decide +kernel) rfl rfl ?_
      refine X_iload (j := 5) (show decode cX10_sets 120 = .ok (.iload 5, 2) by decide +kernel) rfl ?_
      refine X_iconst (v := (nI 1)) (show decode cX10_sets 122 = .ok (.iconst 1, 1) by decide +kernel) (by decide) ?_
      refine X_vI (rc' := 0) (rs' := 0) (as := [.int _, .int _]) mv_X10_83 (show decode cX10_sets 123 = .ok (.invokevirtual 83, 3) by decide +kernel) (by decide) (Nat.le_of_ble_eq_true rfl) (Nat.le_of_ble_eq_true rfl) rfl rfl (Nat.le_of_ble_eq_true rfl) (rcvD s39 (by decide) rfl) (kX10_point w) (fun E h hk => hk.elim) (fun r43 h42 w => ?_)
      refine X_aload_n (j := 0) (show decode cX10_sets 126 = .ok (.aload_n 0, 1) by decide +kernel) rfl rfl ?_
      obtain ⟨s44, w⟩ := w
      refine X_getR fl_X10_37 (show decode cX10_sets 127 = .ok (.getfield 37, 3) by decide +kernel) s44 ?_
      refine X_iload (j := 4) (show decode cX10_sets 130 = .ok (.iload 4, 2) by decide +kernel) rfl ?_
      refine X_iconst (v := (nI 1)) (show decode cX10_sets 132 = .ok (.iconst 1, 1) by decide +kernel) (by decide) ?_
      refine X_iadd (show decode cX10_sets 133 = .ok (.iadd, 1) by decide +kernel) ?_
      obtain ⟨s45, w⟩ := w
      obtain ⟨s46, w⟩ := w
      refine X_iald (show decode cX10_sets 134 = .ok (.iaload, 1) by decide +kernel) (isA_eq s45) s46 ?_
      refine X_icmp_ne (tgt := 142) (show decode cX10_sets 135 = .ok (.if_icmp .ne 7, 3) by decide +kernel) (by decide) ⟨fun c47 => ?_, fun c47 => ?_⟩
      · have w := w.1 c47
        refine X_iconst (v := (nI 1)) (show decode cX10_sets 142 = .ok (.iconst 1, 1) by decide +kernel) (by decide) ?_
        exact kX10_sets_J143 hc27 _ _ _ _ _ _ _ _ _ _ w
      · have w := w.2 c47
        refine X_iconst (v := (nI 0)) (show decode cX10_sets 138 = .ok (.iconst 0, 1) by decide +kernel) (by decide) ?_
        refine X_goto (tgt := 143) (show decode cX10_sets 139 = .ok (.goto 4, 3) by decide +kernel) (by decide) ?_
        exact kX10_sets_J143 hc27 _ _ _ _ _ _ _ _ _ _ w
    · have w := w.2 c41
      refine X_goto (tgt := 161) (show decode cX10_sets 103 = .ok (.goto 58, 3) by decide +kernel) (by decide) ?_
      refine X_iinc (j := 4) (v := _ + (nI 1)) (ls' := [(0, .ref _), (1, .int _), (2, .int _), (3, .int _), (4, .int _), (5, .int _)]) (show decode cX10_sets 161 = .ok (.iinc 4 1, 3) by decide +kernel) rfl rfl (Nat.le_of_ble_eq_true rfl) rfl ?_
      refine X_goto (tgt := 27) (show decode cX10_sets 164 = .ok (.goto (-137), 3) by decide +kernel) (by decide) ?_
      refine X_pick (ls' := [(0, .ref _), (1, .int _), (2, .int _), (3, .int _), (4, .int _)]) [0, 1, 2, 3, 4] rfl ?_
      exact hc27 _ _ _ _ _ _ w
set_option maxRecDepth 100000 in
set_option maxHeartbeats 4000000 in
theorem kX10_sets_L27 {K : Int32 → AH → Prop}    : ∀ (n : Nat) (x0 : Nat) (x1 : Int32) (x2 : Int32) (x3 : Int32) (x4 : Int32) (h : AH), wX10_sets_L27 K   n x0 x1 x2 x3 x4 h → X mX10_sets 5 (KI K) T0 0 0 27 [(0, .ref x0), (1, .int x1), (2, .int x2), (3, .int x3), (4, .int x4)] [] h := by
  intro n
  induction n with
  | zero => intro _ _ _ _ _ _ w; exact w.elim
  | succ n ih =>
    intro x0 x1 x2 x3 x4 h w
    rw [wX10_sets_L27] at w
    refine X_iload (j := 4) (show decode cX10_sets 27 = .ok (.iload 4, 2) by decide +kernel) rfl ?_
    refine X_aload_n (j := 0) (show decode cX10_sets 29 = .ok (.aload_n 0, 1) by decide +kernel) rfl rfl ?_
    obtain ⟨s9, w⟩ := w
    refine X_getI fl_X10_93 (show decode cX10_sets 30 = .ok (.getfield 93, 3) by decide +kernel) s9 ?_
    refine X_icmp_ge (tgt := 167) (show decode cX10_sets 33 = .ok (.if_icmp .ge 134, 3) by decide +kernel) (by decide) ⟨fun c10 => ?_, fun c10 => ?_⟩
    · have w := w.1 c10
      refine X_aload_n (j := 0) (show decode cX10_sets 167 = .ok (.aload_n 0, 1) by decide +kernel) rfl rfl ?_
      refine X_iload_n (j := 1) (show decode cX10_sets 168 = .ok (.iload_n 1, 1) by decide +kernel) rfl rfl ?_
      refine X_bipush (v := (nI 6)) (show decode cX10_sets 169 = .ok (.bipush 6, 2) by decide +kernel) (by decide) ?_
      refine X_aload_n (j := 0) (show decode cX10_sets 171 = .ok (.aload_n 0, 1) by decide +kernel) rfl rfl ?_
      refine X_getI fl_X10_93 (show decode cX10_sets 172 = .ok (.getfield 93, 3) by decide +kernel) s9 ?_
      refine X_vV (rc' := 0) (rs' := 0) (as := [.int _, .int _, .int _]) mv_X10_109 (show decode cX10_sets 175 = .ok (.invokevirtual 109, 3) by decide +kernel) (by decide) (Nat.le_of_ble_eq_true rfl) (Nat.le_of_ble_eq_true rfl) rfl rfl (Nat.le_of_ble_eq_true rfl) (rcvD s9 (by decide) rfl) (kX10_tells w) (fun E h hk => hk.elim) (fun h11 w => ?_)
      refine X_aload_n (j := 0) (show decode cX10_sets 178 = .ok (.aload_n 0, 1) by decide +kernel) rfl rfl ?_
      refine X_iload_n (j := 1) (show decode cX10_sets 179 = .ok (.iload_n 1, 1) by decide +kernel) rfl rfl ?_
      refine X_iconst (v := (nI 3)) (show decode cX10_sets 180 = .ok (.iconst 3, 1) by decide +kernel) (by decide) ?_
      refine X_iconst (v := (nI 1)) (show decode cX10_sets 181 = .ok (.iconst 1, 1) by decide +kernel) (by decide) ?_
      obtain ⟨s28, w⟩ := w
      refine X_vV (rc' := 0) (rs' := 0) (as := [.int _, .int _, .int _]) mv_X10_109 (show decode cX10_sets 182 = .ok (.invokevirtual 109, 3) by decide +kernel) (by decide) (Nat.le_of_ble_eq_true rfl) (Nat.le_of_ble_eq_true rfl) rfl rfl (Nat.le_of_ble_eq_true rfl) (rcvD s28 (by decide) rfl) (kX10_tells w) (fun E h hk => hk.elim) (fun h13 w => ?_)
      refine X_aload_n (j := 0) (show decode cX10_sets 185 = .ok (.aload_n 0, 1) by decide +kernel) rfl rfl ?_
      refine X_iload_n (j := 1) (show decode cX10_sets 186 = .ok (.iload_n 1, 1) by decide +kernel) rfl rfl ?_
      refine X_iconst (v := (nI 4)) (show decode cX10_sets 187 = .ok (.iconst 4, 1) by decide +kernel) (by decide) ?_
      refine X_aload_n (j := 0) (show decode cX10_sets 188 = .ok (.aload_n 0, 1) by decide +kernel) rfl rfl ?_
      obtain ⟨s15, w⟩ := w
      refine X_getR fl_X10_7 (show decode cX10_sets 189 = .ok (.getfield 7, 3) by decide +kernel) s15 ?_
      refine X_bipush (v := (nI 6)) (show decode cX10_sets 192 = .ok (.bipush 6, 2) by decide +kernel) (by decide) ?_
      obtain ⟨s16, w⟩ := w
      obtain ⟨s17, w⟩ := w
      refine X_iald (show decode cX10_sets 194 = .ok (.iaload, 1) by decide +kernel) (isA_eq s16) s17 ?_
      refine X_aload_n (j := 0) (show decode cX10_sets 195 = .ok (.aload_n 0, 1) by decide +kernel) rfl rfl ?_
      refine X_aload_n (j := 0) (show decode cX10_sets 196 = .ok (.aload_n 0, 1) by decide +kernel) rfl rfl ?_
      refine X_getR fl_X10_37 (show decode cX10_sets 197 = .ok (.getfield 37, 3) by decide +kernel) s15 ?_
      refine X_iconst (v := (nI 1)) (show decode cX10_sets 200 = .ok (.iconst 1, 1) by decide +kernel) (by decide) ?_
      obtain ⟨s18, w⟩ := w
      obtain ⟨s19, w⟩ := w
      refine X_iald (show decode cX10_sets 201 = .ok (.iaload, 1) by decide +kernel) (isA_eq s18) s19 ?_
      refine X_iconst (v := (nI 0)) (show decode cX10_sets 202 = .ok (.iconst 0, 1) by decide +kernel) (by decide) ?_
      refine X_vI (rc' := 0) (rs' := 0) (as := [.int _, .int _]) mv_X10_80 (show decode cX10_sets 203 = .ok (.invokevirtual 80, 3) by decide +kernel) (by decide) (Nat.le_of_ble_eq_true rfl) (Nat.le_of_ble_eq_true rfl) rfl rfl (Nat.le_of_ble_eq_true rfl) (rcvD s15 (by decide) rfl) (kX10_block w) (fun E h hk => hk.elim) (fun r21 h20 w => ?_)
      refine X_iadd (show decode cX10_sets 206 = .ok (.iadd, 1) by decide +kernel) ?_
      obtain ⟨s27, w⟩ := w
      refine X_vV (rc' := 0) (rs' := 0) (as := [.int _, .int _, .int _]) mv_X10_109 (show decode cX10_sets 207 = .ok (.invokevirtual 109, 3) by decide +kernel) (by decide) (Nat.le_of_ble_eq_true rfl) (Nat.le_of_ble_eq_true rfl) rfl rfl (Nat.le_of_ble_eq_true rfl) (rcvD s27 (by decide) rfl) (kX10_tells w) (fun E h hk => hk.elim) (fun h22 w => ?_)
      refine X_aload_n (j := 0) (show decode cX10_sets 210 = .ok (.aload_n 0, 1) by decide +kernel) rfl rfl ?_
      refine X_iload_n (j := 3) (show decode cX10_sets 211 = .ok (.iload_n 3, 1) by decide +kernel) rfl rfl ?_
      obtain ⟨s26, w⟩ := w
      refine X_vV (rc' := 0) (rs' := 0) (as := [.int _]) mv_X10_119 (show decode cX10_sets 212 = .ok (.invokevirtual 119, 3) by decide +kernel) (by decide) (Nat.le_of_ble_eq_true rfl) (Nat.le_of_ble_eq_true rfl) rfl rfl (Nat.le_of_ble_eq_true rfl) (rcvD s26 (by decide) rfl) (kX10_unqueues w) (fun E h hk => hk.elim) (fun h24 w => ?_)
      refine X_iload_n (j := 2) (show decode cX10_sets 215 = .ok (.iload_n 2, 1) by decide +kernel) rfl rfl ?_
      exact X_iret ⟨(show decode cX10_sets 216 = .ok (.ireturn, 1) by decide +kernel), .int, rfl, rfl⟩ ⟨_, rfl, w⟩
    · have w := w.2 c10
      refine X_aload_n (j := 0) (show decode cX10_sets 36 = .ok (.aload_n 0, 1) by decide +kernel) rfl rfl ?_
      refine X_iload_n (j := 1) (show decode cX10_sets 37 = .ok (.iload_n 1, 1) by decide +kernel) rfl rfl ?_
      refine X_bipush (v := (nI 7)) (show decode cX10_sets 38 = .ok (.bipush 7, 2) by decide +kernel) (by decide) ?_
      refine X_iload (j := 4) (show decode cX10_sets 40 = .ok (.iload 4, 2) by decide +kernel) rfl ?_
      refine X_iadd (show decode cX10_sets 42 = .ok (.iadd, 1) by decide +kernel) ?_
      refine X_aload_n (j := 0) (show decode cX10_sets 43 = .ok (.aload_n 0, 1) by decide +kernel) rfl rfl ?_
      refine X_getR fl_X10_37 (show decode cX10_sets 44 = .ok (.getfield 37, 3) by decide +kernel) s9 ?_
      refine X_iload (j := 4) (show decode cX10_sets 47 = .ok (.iload 4, 2) by decide +kernel) rfl ?_
      obtain ⟨s29, w⟩ := w
      obtain ⟨s30, w⟩ := w
      refine X_iald (show decode cX10_sets 49 = .ok (.iaload, 1) by decide +kernel) (isA_eq s29) s30 ?_
      refine X_vV (rc' := 0) (rs' := 0) (as := [.int _, .int _, .int _]) mv_X10_109 (show decode cX10_sets 50 = .ok (.invokevirtual 109, 3) by decide +kernel) (by decide) (Nat.le_of_ble_eq_true rfl) (Nat.le_of_ble_eq_true rfl) rfl rfl (Nat.le_of_ble_eq_true rfl) (rcvD s9 (by decide) rfl) (kX10_tells w) (fun E h hk => hk.elim) (fun h31 w => ?_)
      refine X_iload (j := 4) (show decode cX10_sets 53 = .ok (.iload 4, 2) by decide +kernel) rfl ?_
      refine X_if_le (tgt := 73) (show decode cX10_sets 55 = .ok (.ifCond .le 18, 3) by decide +kernel) (by decide) ⟨fun c33 => ?_, fun c33 => ?_⟩
      · have w := w.1 c33
        exact kX10_sets_J73 ih _ _ _ _ _ _ w
      · have w := w.2 c33
        refine X_aload_n (j := 0) (show decode cX10_sets 58 = .ok (.aload_n 0, 1) by decide +kernel) rfl rfl ?_
        refine X_aload_n (j := 0) (show decode cX10_sets 59 = .ok (.aload_n 0, 1) by decide +kernel) rfl rfl ?_
        obtain ⟨s57, w⟩ := w
        refine X_getR fl_X10_37 (show decode cX10_sets 60 = .ok (.getfield 37, 3) by decide +kernel) s57 ?_
        refine X_iload (j := 4) (show decode cX10_sets 63 = .ok (.iload 4, 2) by decide +kernel) rfl ?_
        obtain ⟨s58, w⟩ := w
        obtain ⟨s59, w⟩ := w
        refine X_iald (show decode cX10_sets 65 = .ok (.iaload, 1) by decide +kernel) (isA_eq s58) s59 ?_
        refine X_iconst (v := (nI 5)) (show decode cX10_sets 66 = .ok (.iconst 5, 1) by decide +kernel) (by decide) ?_
        refine X_iload_n (j := 3) (show decode cX10_sets 67 = .ok (.iload_n 3, 1) by decide +kernel) rfl rfl ?_
        refine X_iconst (v := (nI 1)) (show decode cX10_sets 68 = .ok (.iconst 1, 1) by decide +kernel) (by decide) ?_
        refine X_iadd (show decode cX10_sets 69 = .ok (.iadd, 1) by decide +kernel) ?_
        refine X_vV (rc' := 0) (rs' := 0) (as := [.int _, .int _, .int _]) mv_X10_113 (show decode cX10_sets 70 = .ok (.invokevirtual 113, 3) by decide +kernel) (by decide) (Nat.le_of_ble_eq_true rfl) (Nat.le_of_ble_eq_true rfl) rfl rfl (Nat.le_of_ble_eq_true rfl) (rcvD s57 (by decide) rfl) (kX10_puts w) (fun E h hk => hk.elim) (fun h60 w => ?_)
        exact kX10_sets_J73 ih _ _ _ _ _ _ w
set_option maxRecDepth 100000 in
set_option maxHeartbeats 4000000 in
theorem kX10_sets {a0 : Nat} {a1 : Int32} {h : AH} {K : Int32 → AH → Prop} (w : wX10_sets a0 a1 h K) : Cn mX10_sets (cwd mX10_sets) 5 0 0 [.ref a0, .int a1] h (KI K) T0 := by
  refine Cn_of (by decide +kernel) rfl (Nat.le_of_ble_eq_true rfl) ?_
  show X mX10_sets 5 (KI K) T0 0 0 0 [(0, .ref a0), (1, .int a1)] [] h
  unfold wX10_sets at w
  refine X_aload_n (j := 0) (show decode cX10_sets 0 = .ok (.aload_n 0, 1) by decide +kernel) rfl rfl ?_
  refine X_aload_n (j := 0) (show decode cX10_sets 1 = .ok (.aload_n 0, 1) by decide +kernel) rfl rfl ?_
  refine X_iload_n (j := 1) (show decode cX10_sets 2 = .ok (.iload_n 1, 1) by decide +kernel) rfl rfl ?_
  refine X_iconst (v := (nI 1)) (show decode cX10_sets 3 = .ok (.iconst 1, 1) by decide +kernel) (by decide) ?_
  obtain ⟨s66, w⟩ := w
  refine X_vI (rc' := 0) (rs' := 0) (as := [.int _, .int _]) mv_X10_76 (show decode cX10_sets 4 = .ok (.invokevirtual 76, 3) by decide +kernel) (by decide) (Nat.le_of_ble_eq_true rfl) (Nat.le_of_ble_eq_true rfl) rfl rfl (Nat.le_of_ble_eq_true rfl) (rcvD s66 (by decide) rfl) (kX10_train w) (fun E h hk => hk.elim) (fun r2 h1 w => ?_)
  refine X_aload_n (j := 0) (show decode cX10_sets 7 = .ok (.aload_n 0, 1) by decide +kernel) rfl rfl ?_
  refine X_iload_n (j := 1) (show decode cX10_sets 8 = .ok (.iload_n 1, 1) by decide +kernel) rfl rfl ?_
  refine X_iconst (v := (nI 2)) (show decode cX10_sets 9 = .ok (.iconst 2, 1) by decide +kernel) (by decide) ?_
  obtain ⟨s65, w⟩ := w
  refine X_vI (rc' := 0) (rs' := 0) (as := [.int _, .int _]) mv_X10_76 (show decode cX10_sets 10 = .ok (.invokevirtual 76, 3) by decide +kernel) (by decide) (Nat.le_of_ble_eq_true rfl) (Nat.le_of_ble_eq_true rfl) rfl rfl (Nat.le_of_ble_eq_true rfl) (rcvD s65 (by decide) rfl) (kX10_train w) (fun E h hk => hk.elim) (fun r4 h3 w => ?_)
  obtain ⟨s64, w⟩ := w
  refine X_vI (rc' := 0) (rs' := 0) (as := [.int _, .int _]) mv_X10_100 (show decode cX10_sets 13 = .ok (.invokevirtual 100, 3) by decide +kernel) (by decide) (Nat.le_of_ble_eq_true rfl) (Nat.le_of_ble_eq_true rfl) rfl rfl (Nat.le_of_ble_eq_true rfl) (rcvD s64 (by decide) rfl) (kX10_leads w) (fun E h hk => hk.elim) (fun r6 h5 w => ?_)
  refine X_istore_n (ls' := [(0, .ref _), (1, .int _), (2, .int _)]) (show decode cX10_sets 16 = .ok (.istore_n 2, 1) by decide +kernel) rfl (by decide) rfl ?_
  refine X_aload_n (j := 0) (show decode cX10_sets 17 = .ok (.aload_n 0, 1) by decide +kernel) rfl rfl ?_
  refine X_iload_n (j := 1) (show decode cX10_sets 18 = .ok (.iload_n 1, 1) by decide +kernel) rfl rfl ?_
  refine X_iconst (v := (nI 0)) (show decode cX10_sets 19 = .ok (.iconst 0, 1) by decide +kernel) (by decide) ?_
  obtain ⟨s63, w⟩ := w
  refine X_vI (rc' := 0) (rs' := 0) (as := [.int _, .int _]) mv_X10_76 (show decode cX10_sets 20 = .ok (.invokevirtual 76, 3) by decide +kernel) (by decide) (Nat.le_of_ble_eq_true rfl) (Nat.le_of_ble_eq_true rfl) rfl rfl (Nat.le_of_ble_eq_true rfl) (rcvD s63 (by decide) rfl) (kX10_train w) (fun E h hk => hk.elim) (fun r8 h7 w => ?_)
  refine X_istore_n (ls' := [(0, .ref _), (1, .int _), (2, .int _), (3, .int _)]) (show decode cX10_sets 23 = .ok (.istore_n 3, 1) by decide +kernel) rfl (by decide) rfl ?_
  refine X_iconst (v := (nI 0)) (show decode cX10_sets 24 = .ok (.iconst 0, 1) by decide +kernel) (by decide) ?_
  refine X_istore (ls' := [(0, .ref _), (1, .int _), (2, .int _), (3, .int _), (4, .int _)]) (show decode cX10_sets 25 = .ok (.istore 4, 2) by decide +kernel) (by decide) rfl ?_
  obtain ⟨n62, w⟩ := w
  exact kX10_sets_L27  n62 _ _ _ _ _ _ w
set_option maxRecDepth 100000 in
set_option maxHeartbeats 4000000 in
theorem kX10_unlocks {a0 : Nat} {a1 : Int32} {h : AH} {K : AH → Prop} (w : wX10_unlocks a0 a1 h K) : Cn mX10_unlocks (cwd mX10_unlocks) 3 0 0 [.ref a0, .int a1] h (KV K) T0 := by
  refine Cn_of (by decide +kernel) rfl (Nat.le_of_ble_eq_true rfl) ?_
  show X mX10_unlocks 3 (KV K) T0 0 0 0 [(0, .ref a0), (1, .int a1)] [] h
  unfold wX10_unlocks at w
  refine X_aload_n (j := 0) (show decode cX10_unlocks 0 = .ok (.aload_n 0, 1) by decide +kernel) rfl rfl ?_
  refine X_iload_n (j := 1) (show decode cX10_unlocks 1 = .ok (.iload_n 1, 1) by decide +kernel) rfl rfl ?_
  obtain ⟨s11, w⟩ := w
  refine X_vI (rc' := 0) (rs' := 0) (as := [.int _]) mv_X10_116 (show decode cX10_unlocks 2 = .ok (.invokevirtual 116, 3) by decide +kernel) (by decide) (Nat.le_of_ble_eq_true rfl) (Nat.le_of_ble_eq_true rfl) rfl rfl (Nat.le_of_ble_eq_true rfl) (rcvD s11 (by decide) rfl) (kX10_pointAt w) (fun E h hk => hk.elim) (fun r2 h1 w => ?_)
  refine X_iconst (v := (-1)) (show decode cX10_unlocks 5 = .ok (.iconst (-1), 1) by decide +kernel) (by decide) ?_
  refine X_icmp_eq (tgt := 27) (show decode cX10_unlocks 6 = .ok (.if_icmp .eq 21, 3) by decide +kernel) (by decide) ⟨fun c3 => ?_, fun c3 => ?_⟩
  · have w := w.1 c3
    exact X_vret ⟨(show decode cX10_unlocks 27 = .ok (.return_, 1) by decide +kernel), rfl⟩ ⟨rfl, w⟩
  · have w := w.2 c3
    refine X_aload_n (j := 0) (show decode cX10_unlocks 9 = .ok (.aload_n 0, 1) by decide +kernel) rfl rfl ?_
    obtain ⟨s4, w⟩ := w
    refine X_getR fl_X10_7 (show decode cX10_unlocks 10 = .ok (.getfield 7, 3) by decide +kernel) s4 ?_
    refine X_bipush (v := (nI 81)) (show decode cX10_unlocks 13 = .ok (.bipush 81, 2) by decide +kernel) (by decide) ?_
    refine X_iconst (v := (nI 5)) (show decode cX10_unlocks 15 = .ok (.iconst 5, 1) by decide +kernel) (by decide) ?_
    refine X_aload_n (j := 0) (show decode cX10_unlocks 16 = .ok (.aload_n 0, 1) by decide +kernel) rfl rfl ?_
    refine X_iload_n (j := 1) (show decode cX10_unlocks 17 = .ok (.iload_n 1, 1) by decide +kernel) rfl rfl ?_
    refine X_vI (rc' := 0) (rs' := 0) (as := [.int _]) mv_X10_116 (show decode cX10_unlocks 18 = .ok (.invokevirtual 116, 3) by decide +kernel) (by decide) (Nat.le_of_ble_eq_true rfl) (Nat.le_of_ble_eq_true rfl) rfl rfl (Nat.le_of_ble_eq_true rfl) (rcvD s4 (by decide) rfl) (kX10_pointAt w) (fun E h hk => hk.elim) (fun r6 h5 w => ?_)
    refine X_imul (show decode cX10_unlocks 21 = .ok (.imul, 1) by decide +kernel) ?_
    refine X_iadd (show decode cX10_unlocks 22 = .ok (.iadd, 1) by decide +kernel) ?_
    refine X_iconst (v := (nI 4)) (show decode cX10_unlocks 23 = .ok (.iconst 4, 1) by decide +kernel) (by decide) ?_
    refine X_iadd (show decode cX10_unlocks 24 = .ok (.iadd, 1) by decide +kernel) ?_
    refine X_iconst (v := (nI 0)) (show decode cX10_unlocks 25 = .ok (.iconst 0, 1) by decide +kernel) (by decide) ?_
    obtain ⟨s7, w⟩ := w
    obtain ⟨s8, w⟩ := w
    obtain ⟨s9, w⟩ := w
    refine X_iast (show decode cX10_unlocks 26 = .ok (.iastore, 1) by decide +kernel) (isA_eq s7) s8 s9 ?_
    have w := w _ rfl
    exact X_vret ⟨(show decode cX10_unlocks 27 = .ok (.return_, 1) by decide +kernel), rfl⟩ ⟨rfl, w⟩
set_option maxRecDepth 100000 in
set_option maxHeartbeats 4000000 in
theorem kX10_enters_L70 {K : Int32 → AH → Prop}    : ∀ (n : Nat) (x0 : Nat) (x1 : Int32) (x4 : Int32) (h : AH), wX10_enters_L70 K   n x0 x1 x4 h → X mX10_enters 4 (KI K) T0 0 0 70 [(0, .ref x0), (1, .int x1), (4, .int x4)] [] h := by
  intro n
  induction n with
  | zero => intro _ _ _ _ w; exact w.elim
  | succ n ih =>
    intro x0 x1 x4 h w
    rw [wX10_enters_L70] at w
    refine X_iload (j := 2) (show decode cX10_enters 70 = .ok (.iload 4, 2) by decide +kernel) rfl ?_
    refine X_iconst (v := (nI 1)) (show decode cX10_enters 72 = .ok (.iconst 1, 1) by decide +kernel) (by decide) ?_
    refine X_iadd (show decode cX10_enters 73 = .ok (.iadd, 1) by decide +kernel) ?_
    refine X_aload_n (j := 0) (show decode cX10_enters 74 = .ok (.aload_n 0, 1) by decide +kernel) rfl rfl ?_
    refine X_iload_n (j := 1) (show decode cX10_enters 75 = .ok (.iload_n 1, 1) by decide +kernel) rfl rfl ?_
    refine X_bipush (v := (nI 6)) (show decode cX10_enters 76 = .ok (.bipush 6, 2) by decide +kernel) (by decide) ?_
    obtain ⟨s46, w⟩ := w
    refine X_vI (rc' := 0) (rs' := 0) (as := [.int _, .int _]) mv_X10_76 (show decode cX10_enters 78 = .ok (.invokevirtual 76, 3) by decide +kernel) (by decide) (Nat.le_of_ble_eq_true rfl) (Nat.le_of_ble_eq_true rfl) rfl rfl (Nat.le_of_ble_eq_true rfl) (rcvD s46 (by decide) rfl) (kX10_train w) (fun E h hk => hk.elim) (fun r21 h20 w => ?_)
    refine X_icmp_ge (tgt := 112) (show decode cX10_enters 81 = .ok (.if_icmp .ge 31, 3) by decide +kernel) (by decide) ⟨fun c22 => ?_, fun c22 => ?_⟩
    · have w := w.1 c22
      refine X_aload_n (j := 0) (show decode cX10_enters 112 = .ok (.aload_n 0, 1) by decide +kernel) rfl rfl ?_
      refine X_iload_n (j := 1) (show decode cX10_enters 113 = .ok (.iload_n 1, 1) by decide +kernel) rfl rfl ?_
      refine X_bipush (v := (nI 6)) (show decode cX10_enters 114 = .ok (.bipush 6, 2) by decide +kernel) (by decide) ?_
      refine X_aload_n (j := 0) (show decode cX10_enters 116 = .ok (.aload_n 0, 1) by decide +kernel) rfl rfl ?_
      refine X_iload_n (j := 1) (show decode cX10_enters 117 = .ok (.iload_n 1, 1) by decide +kernel) rfl rfl ?_
      refine X_bipush (v := (nI 6)) (show decode cX10_enters 118 = .ok (.bipush 6, 2) by decide +kernel) (by decide) ?_
      obtain ⟨s39, w⟩ := w
      refine X_vI (rc' := 0) (rs' := 0) (as := [.int _, .int _]) mv_X10_76 (show decode cX10_enters 120 = .ok (.invokevirtual 76, 3) by decide +kernel) (by decide) (Nat.le_of_ble_eq_true rfl) (Nat.le_of_ble_eq_true rfl) rfl rfl (Nat.le_of_ble_eq_true rfl) (rcvD s39 (by decide) rfl) (kX10_train w) (fun E h hk => hk.elim) (fun r24 h23 w => ?_)
      refine X_iconst (v := (nI 1)) (show decode cX10_enters 123 = .ok (.iconst 1, 1) by decide +kernel) (by decide) ?_
      refine X_isub (show decode cX10_enters 124 = .ok (.isub, 1) by decide +kernel) ?_
      obtain ⟨s38, w⟩ := w
      refine X_vV (rc' := 0) (rs' := 0) (as := [.int _, .int _, .int _]) mv_X10_109 (show decode cX10_enters 125 = .ok (.invokevirtual 109, 3) by decide +kernel) (by decide) (Nat.le_of_ble_eq_true rfl) (Nat.le_of_ble_eq_true rfl) rfl rfl (Nat.le_of_ble_eq_true rfl) (rcvD s38 (by decide) rfl) (kX10_tells w) (fun E h hk => hk.elim) (fun h25 w => ?_)
      refine X_aload_n (j := 0) (show decode cX10_enters 128 = .ok (.aload_n 0, 1) by decide +kernel) rfl rfl ?_
      refine X_iload_n (j := 1) (show decode cX10_enters 129 = .ok (.iload_n 1, 1) by decide +kernel) rfl rfl ?_
      refine X_iconst (v := (nI 4)) (show decode cX10_enters 130 = .ok (.iconst 4, 1) by decide +kernel) (by decide) ?_
      refine X_aload_n (j := 0) (show decode cX10_enters 131 = .ok (.aload_n 0, 1) by decide +kernel) rfl rfl ?_
      obtain ⟨s27, w⟩ := w
      refine X_getR fl_X10_7 (show decode cX10_enters 132 = .ok (.getfield 7, 3) by decide +kernel) s27 ?_
      refine X_bipush (v := (nI 6)) (show decode cX10_enters 135 = .ok (.bipush 6, 2) by decide +kernel) (by decide) ?_
      obtain ⟨s28, w⟩ := w
      obtain ⟨s29, w⟩ := w
      refine X_iald (show decode cX10_enters 137 = .ok (.iaload, 1) by decide +kernel) (isA_eq s28) s29 ?_
      refine X_aload_n (j := 0) (show decode cX10_enters 138 = .ok (.aload_n 0, 1) by decide +kernel) rfl rfl ?_
      refine X_aload_n (j := 0) (show decode cX10_enters 139 = .ok (.aload_n 0, 1) by decide +kernel) rfl rfl ?_
      refine X_iload_n (j := 1) (show decode cX10_enters 140 = .ok (.iload_n 1, 1) by decide +kernel) rfl rfl ?_
      refine X_bipush (v := (nI 8)) (show decode cX10_enters 141 = .ok (.bipush 8, 2) by decide +kernel) (by decide) ?_
      refine X_vI (rc' := 0) (rs' := 0) (as := [.int _, .int _]) mv_X10_76 (show decode cX10_enters 143 = .ok (.invokevirtual 76, 3) by decide +kernel) (by decide) (Nat.le_of_ble_eq_true rfl) (Nat.le_of_ble_eq_true rfl) rfl rfl (Nat.le_of_ble_eq_true rfl) (rcvD s27 (by decide) rfl) (kX10_train w) (fun E h hk => hk.elim) (fun r31 h30 w => ?_)
      refine X_iconst (v := (nI 0)) (show decode cX10_enters 146 = .ok (.iconst 0, 1) by decide +kernel) (by decide) ?_
      obtain ⟨s37, w⟩ := w
      refine X_vI (rc' := 0) (rs' := 0) (as := [.int _, .int _]) mv_X10_80 (show decode cX10_enters 147 = .ok (.invokevirtual 80, 3) by decide +kernel) (by decide) (Nat.le_of_ble_eq_true rfl) (Nat.le_of_ble_eq_true rfl) rfl rfl (Nat.le_of_ble_eq_true rfl) (rcvD s37 (by decide) rfl) (kX10_block w) (fun E h hk => hk.elim) (fun r33 h32 w => ?_)
      refine X_iadd (show decode cX10_enters 150 = .ok (.iadd, 1) by decide +kernel) ?_
      obtain ⟨s36, w⟩ := w
      refine X_vV (rc' := 0) (rs' := 0) (as := [.int _, .int _, .int _]) mv_X10_109 (show decode cX10_enters 151 = .ok (.invokevirtual 109, 3) by decide +kernel) (by decide) (Nat.le_of_ble_eq_true rfl) (Nat.le_of_ble_eq_true rfl) rfl rfl (Nat.le_of_ble_eq_true rfl) (rcvD s36 (by decide) rfl) (kX10_tells w) (fun E h hk => hk.elim) (fun h34 w => ?_)
      refine X_iconst (v := (nI 0)) (show decode cX10_enters 154 = .ok (.iconst 0, 1) by decide +kernel) (by decide) ?_
      exact X_iret ⟨(show decode cX10_enters 155 = .ok (.ireturn, 1) by decide +kernel), .boolean, rfl, (by decide)⟩ ⟨_, rfl, w⟩
    · have w := w.2 c22
      refine X_aload_n (j := 0) (show decode cX10_enters 84 = .ok (.aload_n 0, 1) by decide +kernel) rfl rfl ?_
      refine X_iload_n (j := 1) (show decode cX10_enters 85 = .ok (.iload_n 1, 1) by decide +kernel) rfl rfl ?_
      refine X_bipush (v := (nI 7)) (show decode cX10_enters 86 = .ok (.bipush 7, 2) by decide +kernel) (by decide) ?_
      refine X_iload (j := 2) (show decode cX10_enters 88 = .ok (.iload 4, 2) by decide +kernel) rfl ?_
      refine X_iadd (show decode cX10_enters 90 = .ok (.iadd, 1) by decide +kernel) ?_
      refine X_aload_n (j := 0) (show decode cX10_enters 91 = .ok (.aload_n 0, 1) by decide +kernel) rfl rfl ?_
      refine X_iload_n (j := 1) (show decode cX10_enters 92 = .ok (.iload_n 1, 1) by decide +kernel) rfl rfl ?_
      refine X_bipush (v := (nI 7)) (show decode cX10_enters 93 = .ok (.bipush 7, 2) by decide +kernel) (by decide) ?_
      refine X_iload (j := 2) (show decode cX10_enters 95 = .ok (.iload 4, 2) by decide +kernel) rfl ?_
      refine X_iadd (show decode cX10_enters 97 = .ok (.iadd, 1) by decide +kernel) ?_
      refine X_iconst (v := (nI 1)) (show decode cX10_enters 98 = .ok (.iconst 1, 1) by decide +kernel) (by decide) ?_
      refine X_iadd (show decode cX10_enters 99 = .ok (.iadd, 1) by decide +kernel) ?_
      obtain ⟨s45, w⟩ := w
      refine X_vI (rc' := 0) (rs' := 0) (as := [.int _, .int _]) mv_X10_76 (show decode cX10_enters 100 = .ok (.invokevirtual 76, 3) by decide +kernel) (by decide) (Nat.le_of_ble_eq_true rfl) (Nat.le_of_ble_eq_true rfl) rfl rfl (Nat.le_of_ble_eq_true rfl) (rcvD s45 (by decide) rfl) (kX10_train w) (fun E h hk => hk.elim) (fun r41 h40 w => ?_)
      obtain ⟨s44, w⟩ := w
      refine X_vV (rc' := 0) (rs' := 0) (as := [.int _, .int _, .int _]) mv_X10_109 (show decode cX10_enters 103 = .ok (.invokevirtual 109, 3) by decide +kernel) (by decide) (Nat.le_of_ble_eq_true rfl) (Nat.le_of_ble_eq_true rfl) rfl rfl (Nat.le_of_ble_eq_true rfl) (rcvD s44 (by decide) rfl) (kX10_tells w) (fun E h hk => hk.elim) (fun h42 w => ?_)
      refine X_iinc (j := 2) (v := _ + (nI 1)) (ls' := [(0, .ref _), (1, .int _), (4, .int _)]) (show decode cX10_enters 106 = .ok (.iinc 4 1, 3) by decide +kernel) rfl rfl (Nat.le_of_ble_eq_true rfl) rfl ?_
      refine X_goto (tgt := 70) (show decode cX10_enters 109 = .ok (.goto (-39), 3) by decide +kernel) (by decide) ?_
      exact ih _ _ _ _ w
set_option maxRecDepth 100000 in
set_option maxHeartbeats 4000000 in
theorem kX10_enters {a0 : Nat} {a1 : Int32} {h : AH} {K : Int32 → AH → Prop} (w : wX10_enters a0 a1 h K) : Cn mX10_enters (cwd mX10_enters) 4 0 0 [.ref a0, .int a1] h (KI K) T0 := by
  refine Cn_of (by decide +kernel) rfl (Nat.le_of_ble_eq_true rfl) ?_
  show X mX10_enters 4 (KI K) T0 0 0 0 [(0, .ref a0), (1, .int a1)] [] h
  unfold wX10_enters at w
  refine X_aload_n (j := 0) (show decode cX10_enters 0 = .ok (.aload_n 0, 1) by decide +kernel) rfl rfl ?_
  refine X_iload_n (j := 1) (show decode cX10_enters 1 = .ok (.iload_n 1, 1) by decide +kernel) rfl rfl ?_
  refine X_iconst (v := (nI 1)) (show decode cX10_enters 2 = .ok (.iconst 1, 1) by decide +kernel) (by decide) ?_
  obtain ⟨s56, w⟩ := w
  refine X_vI (rc' := 0) (rs' := 0) (as := [.int _, .int _]) mv_X10_76 (show decode cX10_enters 3 = .ok (.invokevirtual 76, 3) by decide +kernel) (by decide) (Nat.le_of_ble_eq_true rfl) (Nat.le_of_ble_eq_true rfl) rfl rfl (Nat.le_of_ble_eq_true rfl) (rcvD s56 (by decide) rfl) (kX10_train w) (fun E h hk => hk.elim) (fun r2 h1 w => ?_)
  refine X_istore_n (ls' := [(0, .ref _), (1, .int _), (2, .int _)]) (show decode cX10_enters 6 = .ok (.istore_n 2, 1) by decide +kernel) rfl (by decide) rfl ?_
  refine X_aload_n (j := 0) (show decode cX10_enters 7 = .ok (.aload_n 0, 1) by decide +kernel) rfl rfl ?_
  refine X_iload_n (j := 1) (show decode cX10_enters 8 = .ok (.iload_n 1, 1) by decide +kernel) rfl rfl ?_
  refine X_bipush (v := (nI 8)) (show decode cX10_enters 9 = .ok (.bipush 8, 2) by decide +kernel) (by decide) ?_
  obtain ⟨s55, w⟩ := w
  refine X_vI (rc' := 0) (rs' := 0) (as := [.int _, .int _]) mv_X10_76 (show decode cX10_enters 11 = .ok (.invokevirtual 76, 3) by decide +kernel) (by decide) (Nat.le_of_ble_eq_true rfl) (Nat.le_of_ble_eq_true rfl) rfl rfl (Nat.le_of_ble_eq_true rfl) (rcvD s55 (by decide) rfl) (kX10_train w) (fun E h hk => hk.elim) (fun r4 h3 w => ?_)
  refine X_istore_n (ls' := [(0, .ref _), (1, .int _), (2, .int _), (3, .int _)]) (show decode cX10_enters 14 = .ok (.istore_n 3, 1) by decide +kernel) rfl (by decide) rfl ?_
  refine X_aload_n (j := 0) (show decode cX10_enters 15 = .ok (.aload_n 0, 1) by decide +kernel) rfl rfl ?_
  refine X_iload_n (j := 2) (show decode cX10_enters 16 = .ok (.iload_n 2, 1) by decide +kernel) rfl rfl ?_
  refine X_iconst (v := (nI 4)) (show decode cX10_enters 17 = .ok (.iconst 4, 1) by decide +kernel) (by decide) ?_
  refine X_iconst (v := (nI 0)) (show decode cX10_enters 18 = .ok (.iconst 0, 1) by decide +kernel) (by decide) ?_
  obtain ⟨s54, w⟩ := w
  refine X_vV (rc' := 0) (rs' := 0) (as := [.int _, .int _, .int _]) mv_X10_113 (show decode cX10_enters 19 = .ok (.invokevirtual 113, 3) by decide +kernel) (by decide) (Nat.le_of_ble_eq_true rfl) (Nat.le_of_ble_eq_true rfl) rfl rfl (Nat.le_of_ble_eq_true rfl) (rcvD s54 (by decide) rfl) (kX10_puts w) (fun E h hk => hk.elim) (fun h5 w => ?_)
  refine X_aload_n (j := 0) (show decode cX10_enters 22 = .ok (.aload_n 0, 1) by decide +kernel) rfl rfl ?_
  refine X_iload_n (j := 2) (show decode cX10_enters 23 = .ok (.iload_n 2, 1) by decide +kernel) rfl rfl ?_
  obtain ⟨s53, w⟩ := w
  refine X_vV (rc' := 0) (rs' := 0) (as := [.int _]) mv_X10_122 (show decode cX10_enters 24 = .ok (.invokevirtual 122, 3) by decide +kernel) (by decide) (Nat.le_of_ble_eq_true rfl) (Nat.le_of_ble_eq_true rfl) rfl rfl (Nat.le_of_ble_eq_true rfl) (rcvD s53 (by decide) rfl) (kX10_unlocks w) (fun E h hk => hk.elim) (fun h7 w => ?_)
  refine X_aload_n (j := 0) (show decode cX10_enters 27 = .ok (.aload_n 0, 1) by decide +kernel) rfl rfl ?_
  refine X_iload_n (j := 3) (show decode cX10_enters 28 = .ok (.iload_n 3, 1) by decide +kernel) rfl rfl ?_
  refine X_iconst (v := (nI 5)) (show decode cX10_enters 29 = .ok (.iconst 5, 1) by decide +kernel) (by decide) ?_
  refine X_iconst (v := (nI 0)) (show decode cX10_enters 30 = .ok (.iconst 0, 1) by decide +kernel) (by decide) ?_
  obtain ⟨s52, w⟩ := w
  refine X_vV (rc' := 0) (rs' := 0) (as := [.int _, .int _, .int _]) mv_X10_113 (show decode cX10_enters 31 = .ok (.invokevirtual 113, 3) by decide +kernel) (by decide) (Nat.le_of_ble_eq_true rfl) (Nat.le_of_ble_eq_true rfl) rfl rfl (Nat.le_of_ble_eq_true rfl) (rcvD s52 (by decide) rfl) (kX10_puts w) (fun E h hk => hk.elim) (fun h9 w => ?_)
  refine X_iload_n (j := 3) (show decode cX10_enters 34 = .ok (.iload_n 3, 1) by decide +kernel) rfl rfl ?_
  refine X_aload_n (j := 0) (show decode cX10_enters 35 = .ok (.aload_n 0, 1) by decide +kernel) rfl rfl ?_
  refine X_iload_n (j := 1) (show decode cX10_enters 36 = .ok (.iload_n 1, 1) by decide +kernel) rfl rfl ?_
  refine X_iconst (v := (nI 2)) (show decode cX10_enters 37 = .ok (.iconst 2, 1) by decide +kernel) (by decide) ?_
  obtain ⟨s51, w⟩ := w
  refine X_vI (rc' := 0) (rs' := 0) (as := [.int _, .int _]) mv_X10_76 (show decode cX10_enters 38 = .ok (.invokevirtual 76, 3) by decide +kernel) (by decide) (Nat.le_of_ble_eq_true rfl) (Nat.le_of_ble_eq_true rfl) rfl rfl (Nat.le_of_ble_eq_true rfl) (rcvD s51 (by decide) rfl) (kX10_train w) (fun E h hk => hk.elim) (fun r12 h11 w => ?_)
  refine X_icmp_ne (tgt := 46) (show decode cX10_enters 41 = .ok (.if_icmp .ne 5, 3) by decide +kernel) (by decide) ⟨fun c13 => ?_, fun c13 => ?_⟩
  · have w := w.1 c13
    refine X_aload_n (j := 0) (show decode cX10_enters 46 = .ok (.aload_n 0, 1) by decide +kernel) rfl rfl ?_
    refine X_iload_n (j := 3) (show decode cX10_enters 47 = .ok (.iload_n 3, 1) by decide +kernel) rfl rfl ?_
    refine X_iconst (v := (nI 4)) (show decode cX10_enters 48 = .ok (.iconst 4, 1) by decide +kernel) (by decide) ?_
    refine X_aload_n (j := 0) (show decode cX10_enters 49 = .ok (.aload_n 0, 1) by decide +kernel) rfl rfl ?_
    refine X_iload_n (j := 1) (show decode cX10_enters 50 = .ok (.iload_n 1, 1) by decide +kernel) rfl rfl ?_
    refine X_iconst (v := (nI 0)) (show decode cX10_enters 51 = .ok (.iconst 0, 1) by decide +kernel) (by decide) ?_
    obtain ⟨s50, w⟩ := w
    refine X_vI (rc' := 0) (rs' := 0) (as := [.int _, .int _]) mv_X10_76 (show decode cX10_enters 52 = .ok (.invokevirtual 76, 3) by decide +kernel) (by decide) (Nat.le_of_ble_eq_true rfl) (Nat.le_of_ble_eq_true rfl) rfl rfl (Nat.le_of_ble_eq_true rfl) (rcvD s50 (by decide) rfl) (kX10_train w) (fun E h hk => hk.elim) (fun r15 h14 w => ?_)
    refine X_iconst (v := (nI 1)) (show decode cX10_enters 55 = .ok (.iconst 1, 1) by decide +kernel) (by decide) ?_
    refine X_iadd (show decode cX10_enters 56 = .ok (.iadd, 1) by decide +kernel) ?_
    obtain ⟨s49, w⟩ := w
    refine X_vV (rc' := 0) (rs' := 0) (as := [.int _, .int _, .int _]) mv_X10_113 (show decode cX10_enters 57 = .ok (.invokevirtual 113, 3) by decide +kernel) (by decide) (Nat.le_of_ble_eq_true rfl) (Nat.le_of_ble_eq_true rfl) rfl rfl (Nat.le_of_ble_eq_true rfl) (rcvD s49 (by decide) rfl) (kX10_puts w) (fun E h hk => hk.elim) (fun h16 w => ?_)
    refine X_aload_n (j := 0) (show decode cX10_enters 60 = .ok (.aload_n 0, 1) by decide +kernel) rfl rfl ?_
    refine X_iload_n (j := 1) (show decode cX10_enters 61 = .ok (.iload_n 1, 1) by decide +kernel) rfl rfl ?_
    refine X_iconst (v := (nI 1)) (show decode cX10_enters 62 = .ok (.iconst 1, 1) by decide +kernel) (by decide) ?_
    refine X_iload_n (j := 3) (show decode cX10_enters 63 = .ok (.iload_n 3, 1) by decide +kernel) rfl rfl ?_
    obtain ⟨s48, w⟩ := w
    refine X_vV (rc' := 0) (rs' := 0) (as := [.int _, .int _, .int _]) mv_X10_109 (show decode cX10_enters 64 = .ok (.invokevirtual 109, 3) by decide +kernel) (by decide) (Nat.le_of_ble_eq_true rfl) (Nat.le_of_ble_eq_true rfl) rfl rfl (Nat.le_of_ble_eq_true rfl) (rcvD s48 (by decide) rfl) (kX10_tells w) (fun E h hk => hk.elim) (fun h18 w => ?_)
    refine X_iconst (v := (nI 0)) (show decode cX10_enters 67 = .ok (.iconst 0, 1) by decide +kernel) (by decide) ?_
    refine X_istore (ls' := [(0, .ref _), (1, .int _), (2, .int _), (3, .int _), (4, .int _)]) (show decode cX10_enters 68 = .ok (.istore 4, 2) by decide +kernel) (by decide) rfl ?_
    refine X_pick (ls' := [(0, .ref _), (1, .int _), (4, .int _)]) [0, 1, 4] rfl ?_
    obtain ⟨n47, w⟩ := w
    exact kX10_enters_L70  n47 _ _ _ _ w
  · have w := w.2 c13
    refine X_iconst (v := (nI 1)) (show decode cX10_enters 44 = .ok (.iconst 1, 1) by decide +kernel) (by decide) ?_
    exact X_iret ⟨(show decode cX10_enters 45 = .ok (.ireturn, 1) by decide +kernel), .boolean, rfl, (by decide)⟩ ⟨_, rfl, w⟩
set_option maxRecDepth 100000 in
set_option maxHeartbeats 4000000 in
theorem kX10_leaves_L14 {K : AH → Prop} {c49 : Nat → Int32 → AH → Prop} (hc49 : ∀ x0 x2 h, c49 x0 x2 h → X mX10_leaves 1 (KV K) T0 0 0 49 [(0, .ref x0), (2, .int x2)] [] h)  : ∀ (n : Nat) (x0 : Nat) (x2 : Int32) (x3 : Int32) (h : AH), wX10_leaves_L14 K c49  n x0 x2 x3 h → X mX10_leaves 1 (KV K) T0 0 0 14 [(0, .ref x0), (2, .int x2), (3, .int x3)] [] h := by
  intro n
  induction n with
  | zero => intro _ _ _ _ w; exact w.elim
  | succ n ih =>
    intro x0 x2 x3 h w
    rw [wX10_leaves_L14] at w
    refine X_iload_n (j := 2) (show decode cX10_leaves 14 = .ok (.iload_n 3, 1) by decide +kernel) rfl rfl ?_
    refine X_bipush (v := (nI 19)) (show decode cX10_leaves 15 = .ok (.bipush 19, 2) by decide +kernel) (by decide) ?_
    refine X_iload_n (j := 1) (show decode cX10_leaves 17 = .ok (.iload_n 2, 1) by decide +kernel) rfl rfl ?_
    refine X_imul (show decode cX10_leaves 18 = .ok (.imul, 1) by decide +kernel) ?_
    refine X_icmp_ge (tgt := 49) (show decode cX10_leaves 19 = .ok (.if_icmp .ge 30, 3) by decide +kernel) (by decide) ⟨fun c6 => ?_, fun c6 => ?_⟩
    · have w := w.1 c6
      refine X_pick (ls' := [(0, .ref _), (2, .int _)]) [0, 1] rfl ?_
      exact hc49 _ _ _ w
    · have w := w.2 c6
      refine X_aload_n (j := 0) (show decode cX10_leaves 22 = .ok (.aload_n 0, 1) by decide +kernel) rfl rfl ?_
      obtain ⟨s7, w⟩ := w
      refine X_getR fl_X10_7 (show decode cX10_leaves 23 = .ok (.getfield 7, 3) by decide +kernel) s7 ?_
      refine X_bipush (v := (nI 121)) (show decode cX10_leaves 26 = .ok (.bipush 121, 2) by decide +kernel) (by decide) ?_
      refine X_iload_n (j := 2) (show decode cX10_leaves 28 = .ok (.iload_n 3, 1) by decide +kernel) rfl rfl ?_
      refine X_iadd (show decode cX10_leaves 29 = .ok (.iadd, 1) by decide +kernel) ?_
      refine X_aload_n (j := 0) (show decode cX10_leaves 30 = .ok (.aload_n 0, 1) by decide +kernel) rfl rfl ?_
      refine X_getR fl_X10_7 (show decode cX10_leaves 31 = .ok (.getfield 7, 3) by decide +kernel) s7 ?_
      refine X_bipush (v := (nI 121)) (show decode cX10_leaves 34 = .ok (.bipush 121, 2) by decide +kernel) (by decide) ?_
      refine X_iload_n (j := 2) (show decode cX10_leaves 36 = .ok (.iload_n 3, 1) by decide +kernel) rfl rfl ?_
      refine X_iadd (show decode cX10_leaves 37 = .ok (.iadd, 1) by decide +kernel) ?_
      refine X_bipush (v := (nI 19)) (show decode cX10_leaves 38 = .ok (.bipush 19, 2) by decide +kernel) (by decide) ?_
      refine X_iadd (show decode cX10_leaves 40 = .ok (.iadd, 1) by decide +kernel) ?_
      obtain ⟨s8, w⟩ := w
      obtain ⟨s9, w⟩ := w
      refine X_iald (show decode cX10_leaves 41 = .ok (.iaload, 1) by decide +kernel) (isA_eq s8) s9 ?_
      obtain ⟨s10, w⟩ := w
      obtain ⟨s11, w⟩ := w
      refine X_iast (show decode cX10_leaves 42 = .ok (.iastore, 1) by decide +kernel) (isA_eq s8) s10 s11 ?_
      have w := w _ rfl
      refine X_iinc (j := 2) (v := _ + (nI 1)) (ls' := [(0, .ref _), (2, .int _), (3, .int _)]) (show decode cX10_leaves 43 = .ok (.iinc 3 1, 3) by decide +kernel) rfl rfl (Nat.le_of_ble_eq_true rfl) rfl ?_
      refine X_goto (tgt := 14) (show decode cX10_leaves 46 = .ok (.goto (-32), 3) by decide +kernel) (by decide) ?_
      exact ih _ _ _ _ w
set_option maxRecDepth 100000 in
set_option maxHeartbeats 4000000 in
theorem kX10_leaves_L51 {K : AH → Prop}    : ∀ (n : Nat) (x0 : Nat) (x2 : Int32) (x3 : Int32) (h : AH), wX10_leaves_L51 K   n x0 x2 x3 h → X mX10_leaves 1 (KV K) T0 0 0 51 [(0, .ref x0), (2, .int x2), (3, .int x3)] [] h := by
  intro n
  induction n with
  | zero => intro _ _ _ _ w; exact w.elim
  | succ n ih =>
    intro x0 x2 x3 h w
    rw [wX10_leaves_L51] at w
    refine X_iload_n (j := 2) (show decode cX10_leaves 51 = .ok (.iload_n 3, 1) by decide +kernel) rfl rfl ?_
    refine X_bipush (v := (nI 19)) (show decode cX10_leaves 52 = .ok (.bipush 19, 2) by decide +kernel) (by decide) ?_
    refine X_icmp_ge (tgt := 78) (show decode cX10_leaves 54 = .ok (.if_icmp .ge 24, 3) by decide +kernel) (by decide) ⟨fun c16 => ?_, fun c16 => ?_⟩
    · have w := w.1 c16
      refine X_aload_n (j := 0) (show decode cX10_leaves 78 = .ok (.aload_n 0, 1) by decide +kernel) rfl rfl ?_
      obtain ⟨s17, w⟩ := w
      refine X_getR fl_X10_7 (show decode cX10_leaves 79 = .ok (.getfield 7, 3) by decide +kernel) s17 ?_
      refine X_iconst (v := (nI 4)) (show decode cX10_leaves 82 = .ok (.iconst 4, 1) by decide +kernel) (by decide) ?_
      refine X_iload_n (j := 1) (show decode cX10_leaves 83 = .ok (.iload_n 2, 1) by decide +kernel) rfl rfl ?_
      obtain ⟨s18, w⟩ := w
      obtain ⟨s19, w⟩ := w
      obtain ⟨s20, w⟩ := w
      refine X_iast (show decode cX10_leaves 84 = .ok (.iastore, 1) by decide +kernel) (isA_eq s18) s19 s20 ?_
      have w := w _ rfl
      refine X_aload_n (j := 0) (show decode cX10_leaves 85 = .ok (.aload_n 0, 1) by decide +kernel) rfl rfl ?_
      refine X_getR fl_X10_7 (show decode cX10_leaves 86 = .ok (.getfield 7, 3) by decide +kernel) s17 ?_
      refine X_bipush (v := (nI 7)) (show decode cX10_leaves 89 = .ok (.bipush 7, 2) by decide +kernel) (by decide) ?_
      refine X_dup2 (show decode cX10_leaves 91 = .ok (.dup2, 1) by decide +kernel) rfl rfl ?_
      obtain ⟨s22, w⟩ := w
      refine X_iald (show decode cX10_leaves 92 = .ok (.iaload, 1) by decide +kernel) (isA_eq s18) s22 ?_
      refine X_iconst (v := (nI 1)) (show decode cX10_leaves 93 = .ok (.iconst 1, 1) by decide +kernel) (by decide) ?_
      refine X_iadd (show decode cX10_leaves 94 = .ok (.iadd, 1) by decide +kernel) ?_
      refine X_iast (show decode cX10_leaves 95 = .ok (.iastore, 1) by decide +kernel) (isA_eq s18) s19 s22 ?_
      have w := w _ rfl
      exact X_vret ⟨(show decode cX10_leaves 96 = .ok (.return_, 1) by decide +kernel), rfl⟩ ⟨rfl, w⟩
    · have w := w.2 c16
      refine X_aload_n (j := 0) (show decode cX10_leaves 57 = .ok (.aload_n 0, 1) by decide +kernel) rfl rfl ?_
      obtain ⟨s24, w⟩ := w
      refine X_getR fl_X10_7 (show decode cX10_leaves 58 = .ok (.getfield 7, 3) by decide +kernel) s24 ?_
      refine X_bipush (v := (nI 121)) (show decode cX10_leaves 61 = .ok (.bipush 121, 2) by decide +kernel) (by decide) ?_
      refine X_bipush (v := (nI 19)) (show decode cX10_leaves 63 = .ok (.bipush 19, 2) by decide +kernel) (by decide) ?_
      refine X_iload_n (j := 1) (show decode cX10_leaves 65 = .ok (.iload_n 2, 1) by decide +kernel) rfl rfl ?_
      refine X_imul (show decode cX10_leaves 66 = .ok (.imul, 1) by decide +kernel) ?_
      refine X_iadd (show decode cX10_leaves 67 = .ok (.iadd, 1) by decide +kernel) ?_
      refine X_iload_n (j := 2) (show decode cX10_leaves 68 = .ok (.iload_n 3, 1) by decide +kernel) rfl rfl ?_
      refine X_iadd (show decode cX10_leaves 69 = .ok (.iadd, 1) by decide +kernel) ?_
      refine X_iconst (v := (nI 0)) (show decode cX10_leaves 70 = .ok (.iconst 0, 1) by decide +kernel) (by decide) ?_
      obtain ⟨s25, w⟩ := w
      obtain ⟨s26, w⟩ := w
      obtain ⟨s27, w⟩ := w
      refine X_iast (show decode cX10_leaves 71 = .ok (.iastore, 1) by decide +kernel) (isA_eq s25) s26 s27 ?_
      have w := w _ rfl
      refine X_iinc (j := 2) (v := _ + (nI 1)) (ls' := [(0, .ref _), (2, .int _), (3, .int _)]) (show decode cX10_leaves 72 = .ok (.iinc 3 1, 3) by decide +kernel) rfl rfl (Nat.le_of_ble_eq_true rfl) rfl ?_
      refine X_goto (tgt := 51) (show decode cX10_leaves 75 = .ok (.goto (-24), 3) by decide +kernel) (by decide) ?_
      exact ih _ _ _ _ w
set_option maxRecDepth 100000 in
set_option maxHeartbeats 4000000 in
theorem kX10_leaves {a0 : Nat} {a1 : Int32} {h : AH} {K : AH → Prop} (w : wX10_leaves a0 a1 h K) : Cn mX10_leaves (cwd mX10_leaves) 1 0 0 [.ref a0, .int a1] h (KV K) T0 := by
  refine Cn_of (by decide +kernel) rfl (Nat.le_of_ble_eq_true rfl) ?_
  show X mX10_leaves 1 (KV K) T0 0 0 0 [(0, .ref a0), (1, .int a1)] [] h
  unfold wX10_leaves at w
  refine X_aload_n (j := 0) (show decode cX10_leaves 0 = .ok (.aload_n 0, 1) by decide +kernel) rfl rfl ?_
  obtain ⟨s1, w⟩ := w
  refine X_getR fl_X10_7 (show decode cX10_leaves 1 = .ok (.getfield 7, 3) by decide +kernel) s1 ?_
  refine X_iconst (v := (nI 4)) (show decode cX10_leaves 4 = .ok (.iconst 4, 1) by decide +kernel) (by decide) ?_
  obtain ⟨s2, w⟩ := w
  obtain ⟨s3, w⟩ := w
  refine X_iald (show decode cX10_leaves 5 = .ok (.iaload, 1) by decide +kernel) (isA_eq s2) s3 ?_
  refine X_iconst (v := (nI 1)) (show decode cX10_leaves 6 = .ok (.iconst 1, 1) by decide +kernel) (by decide) ?_
  refine X_isub (show decode cX10_leaves 7 = .ok (.isub, 1) by decide +kernel) ?_
  refine X_topi (fun v4 e5 => ?_)
  have w := w v4 e5
  refine X_istore_n (ls' := [(0, .ref _), (1, .int _), (2, .int _)]) (show decode cX10_leaves 8 = .ok (.istore_n 2, 1) by decide +kernel) rfl (by decide) rfl ?_
  refine X_bipush (v := (nI 19)) (show decode cX10_leaves 9 = .ok (.bipush 19, 2) by decide +kernel) (by decide) ?_
  refine X_iload_n (j := 1) (show decode cX10_leaves 11 = .ok (.iload_n 1, 1) by decide +kernel) rfl rfl ?_
  refine X_imul (show decode cX10_leaves 12 = .ok (.imul, 1) by decide +kernel) ?_
  refine X_istore_n (ls' := [(0, .ref _), (1, .int _), (2, .int _), (3, .int _)]) (show decode cX10_leaves 13 = .ok (.istore_n 3, 1) by decide +kernel) rfl (by decide) rfl ?_
  refine X_pick (ls' := [(0, .ref _), (2, .int _), (3, .int _)]) [0, 2, 3] rfl ?_
  obtain ⟨n30, w⟩ := w
  refine kX10_leaves_L14 ?_ n30 _ _ _ _ w
  · intro x0_13 x2_14 h15 w
    refine X_iconst (v := (nI 0)) (show decode cX10_leaves 49 = .ok (.iconst 0, 1) by decide +kernel) (by decide) ?_
    refine X_istore_n (ls' := [(0, .ref _), (2, .int _), (3, .int _)]) (show decode cX10_leaves 50 = .ok (.istore_n 3, 1) by decide +kernel) rfl (by decide) rfl ?_
    obtain ⟨n29, w⟩ := w
    exact kX10_leaves_L51  n29 _ _ _ _ w
set_option maxRecDepth 100000 in
set_option maxHeartbeats 4000000 in
theorem kX10_oneMinute_L13 {K : AH → Prop} {c71 : Nat → AH → Prop} (hc71 : ∀ x0 h, c71 x0 h → X mX10_oneMinute 7 (KV K) T0 0 0 71 [(0, .ref x0)] [] h)  : ∀ (n : Nat) (x0 : Nat) (x1 : Int32) (h : AH), wX10_oneMinute_L13 K c71  n x0 x1 h → X mX10_oneMinute 7 (KV K) T0 0 0 13 [(0, .ref x0), (1, .int x1)] [] h := by
  intro n
  induction n with
  | zero => intro _ _ _ w; exact w.elim
  | succ n ih =>
    intro x0 x1 h w
    rw [wX10_oneMinute_L13] at w
    refine X_iload_n (j := 1) (show decode cX10_oneMinute 13 = .ok (.iload_n 1, 1) by decide +kernel) rfl rfl ?_
    refine X_aload_n (j := 0) (show decode cX10_oneMinute 14 = .ok (.aload_n 0, 1) by decide +kernel) rfl rfl ?_
    obtain ⟨s6, w⟩ := w
    refine X_getR fl_X10_7 (show decode cX10_oneMinute 15 = .ok (.getfield 7, 3) by decide +kernel) s6 ?_
    refine X_iconst (v := (nI 4)) (show decode cX10_oneMinute 18 = .ok (.iconst 4, 1) by decide +kernel) (by decide) ?_
    obtain ⟨s7, w⟩ := w
    obtain ⟨s8, w⟩ := w
    refine X_iald (show decode cX10_oneMinute 19 = .ok (.iaload, 1) by decide +kernel) (isA_eq s7) s8 ?_
    refine X_icmp_ge (tgt := 71) (show decode cX10_oneMinute 20 = .ok (.if_icmp .ge 51, 3) by decide +kernel) (by decide) ⟨fun c9 => ?_, fun c9 => ?_⟩
    · have w := w.1 c9
      refine X_pick (ls' := [(0, .ref _)]) [0] rfl ?_
      exact hc71 _ _ w
    · have w := w.2 c9
      refine X_aload_n (j := 0) (show decode cX10_oneMinute 23 = .ok (.aload_n 0, 1) by decide +kernel) rfl rfl ?_
      refine X_iload_n (j := 1) (show decode cX10_oneMinute 24 = .ok (.iload_n 1, 1) by decide +kernel) rfl rfl ?_
      refine X_iconst (v := (nI 3)) (show decode cX10_oneMinute 25 = .ok (.iconst 3, 1) by decide +kernel) (by decide) ?_
      refine X_vI (rc' := 0) (rs' := 0) (as := [.int _, .int _]) mv_X10_76 (show decode cX10_oneMinute 26 = .ok (.invokevirtual 76, 3) by decide +kernel) (by decide) (Nat.le_of_ble_eq_true rfl) (Nat.le_of_ble_eq_true rfl) rfl rfl (Nat.le_of_ble_eq_true rfl) (rcvD s6 (by decide) rfl) (kX10_train w) (fun E h hk => hk.elim) (fun r11 h10 w => ?_)
      refine X_iconst (v := (nI 1)) (show decode cX10_oneMinute 29 = .ok (.iconst 1, 1) by decide +kernel) (by decide) ?_
      refine X_icmp_ne (tgt := 65) (show decode cX10_oneMinute 30 = .ok (.if_icmp .ne 35, 3) by decide +kernel) (by decide) ⟨fun c12 => ?_, fun c12 => ?_⟩
      · have w := w.1 c12
        refine X_iinc (j := 1) (v := _ + (nI 1)) (ls' := [(0, .ref _), (1, .int _)]) (show decode cX10_oneMinute 65 = .ok (.iinc 1 1, 3) by decide +kernel) rfl rfl (Nat.le_of_ble_eq_true rfl) rfl ?_
        refine X_goto (tgt := 13) (show decode cX10_oneMinute 68 = .ok (.goto (-55), 3) by decide +kernel) (by decide) ?_
        exact ih _ _ _ w
      · have w := w.2 c12
        refine X_aload_n (j := 0) (show decode cX10_oneMinute 33 = .ok (.aload_n 0, 1) by decide +kernel) rfl rfl ?_
        refine X_iload_n (j := 1) (show decode cX10_oneMinute 34 = .ok (.iload_n 1, 1) by decide +kernel) rfl rfl ?_
        refine X_iconst (v := (nI 4)) (show decode cX10_oneMinute 35 = .ok (.iconst 4, 1) by decide +kernel) (by decide) ?_
        obtain ⟨s25, w⟩ := w
        refine X_vI (rc' := 0) (rs' := 0) (as := [.int _, .int _]) mv_X10_76 (show decode cX10_oneMinute 36 = .ok (.invokevirtual 76, 3) by decide +kernel) (by decide) (Nat.le_of_ble_eq_true rfl) (Nat.le_of_ble_eq_true rfl) rfl rfl (Nat.le_of_ble_eq_true rfl) (rcvD s25 (by decide) rfl) (kX10_train w) (fun E h hk => hk.elim) (fun r14 h13 w => ?_)
        refine X_aload_n (j := 0) (show decode cX10_oneMinute 39 = .ok (.aload_n 0, 1) by decide +kernel) rfl rfl ?_
        obtain ⟨s15, w⟩ := w
        refine X_getR fl_X10_7 (show decode cX10_oneMinute 40 = .ok (.getfield 7, 3) by decide +kernel) s15 ?_
        refine X_bipush (v := (nI 6)) (show decode cX10_oneMinute 43 = .ok (.bipush 6, 2) by decide +kernel) (by decide) ?_
        obtain ⟨s16, w⟩ := w
        obtain ⟨s17, w⟩ := w
        refine X_iald (show decode cX10_oneMinute 45 = .ok (.iaload, 1) by decide +kernel) (isA_eq s16) s17 ?_
        refine X_icmp_ne (tgt := 65) (show decode cX10_oneMinute 46 = .ok (.if_icmp .ne 19, 3) by decide +kernel) (by decide) ⟨fun c18 => ?_, fun c18 => ?_⟩
        · have w := w.1 c18
          refine X_iinc (j := 1) (v := _ + (nI 1)) (ls' := [(0, .ref _), (1, .int _)]) (show decode cX10_oneMinute 65 = .ok (.iinc 1 1, 3) by decide +kernel) rfl rfl (Nat.le_of_ble_eq_true rfl) rfl ?_
          refine X_goto (tgt := 13) (show decode cX10_oneMinute 68 = .ok (.goto (-55), 3) by decide +kernel) (by decide) ?_
          exact ih _ _ _ w
        · have w := w.2 c18
          refine X_aload_n (j := 0) (show decode cX10_oneMinute 49 = .ok (.aload_n 0, 1) by decide +kernel) rfl rfl ?_
          refine X_iload_n (j := 1) (show decode cX10_oneMinute 50 = .ok (.iload_n 1, 1) by decide +kernel) rfl rfl ?_
          refine X_vI (rc' := 0) (rs' := 0) (as := [.int _]) mv_X10_125 (show decode cX10_oneMinute 51 = .ok (.invokevirtual 125, 3) by decide +kernel) (by decide) (Nat.le_of_ble_eq_true rfl) (Nat.le_of_ble_eq_true rfl) rfl rfl (Nat.le_of_ble_eq_true rfl) (rcvD s15 (by decide) rfl) (kX10_enters w) (fun E h hk => hk.elim) (fun r20 h19 w => ?_)
          refine X_if_eq (tgt := 65) (show decode cX10_oneMinute 54 = .ok (.ifCond .eq 11, 3) by decide +kernel) (by decide) ⟨fun c21 => ?_, fun c21 => ?_⟩
          · have w := w.1 c21
            refine X_iinc (j := 1) (v := _ + (nI 1)) (ls' := [(0, .ref _), (1, .int _)]) (show decode cX10_oneMinute 65 = .ok (.iinc 1 1, 3) by decide +kernel) rfl rfl (Nat.le_of_ble_eq_true rfl) rfl ?_
            refine X_goto (tgt := 13) (show decode cX10_oneMinute 68 = .ok (.goto (-55), 3) by decide +kernel) (by decide) ?_
            exact ih _ _ _ w
          · have w := w.2 c21
            refine X_aload_n (j := 0) (show decode cX10_oneMinute 57 = .ok (.aload_n 0, 1) by decide +kernel) rfl rfl ?_
            refine X_iload_n (j := 1) (show decode cX10_oneMinute 58 = .ok (.iload_n 1, 1) by decide +kernel) rfl rfl ?_
            obtain ⟨s24, w⟩ := w
            refine X_vV (rc' := 0) (rs' := 0) (as := [.int _]) mv_X10_129 (show decode cX10_oneMinute 59 = .ok (.invokevirtual 129, 3) by decide +kernel) (by decide) (Nat.le_of_ble_eq_true rfl) (Nat.le_of_ble_eq_true rfl) rfl rfl (Nat.le_of_ble_eq_true rfl) (rcvD s24 (by decide) rfl) (kX10_leaves w) (fun E h hk => hk.elim) (fun h22 w => ?_)
            refine X_goto (tgt := 13) (show decode cX10_oneMinute 62 = .ok (.goto (-49), 3) by decide +kernel) (by decide) ?_
            exact ih _ _ _ w
set_option maxRecDepth 100000 in
set_option maxHeartbeats 4000000 in
theorem kX10_oneMinute_L73 {K : AH → Prop}    : ∀ (n : Nat) (x0 : Nat) (x2 : Int32) (h : AH), wX10_oneMinute_L73 K   n x0 x2 h → X mX10_oneMinute 7 (KV K) T0 0 0 73 [(0, .ref x0), (2, .int x2)] [] h := by
  intro n
  induction n with
  | zero => intro _ _ _ w; exact w.elim
  | succ n ih =>
    intro x0 x2 h w
    rw [wX10_oneMinute_L73] at w
    refine X_iload_n (j := 1) (show decode cX10_oneMinute 73 = .ok (.iload_n 2, 1) by decide +kernel) rfl rfl ?_
    refine X_aload_n (j := 0) (show decode cX10_oneMinute 74 = .ok (.aload_n 0, 1) by decide +kernel) rfl rfl ?_
    obtain ⟨s28, w⟩ := w
    refine X_getR fl_X10_7 (show decode cX10_oneMinute 75 = .ok (.getfield 7, 3) by decide +kernel) s28 ?_
    refine X_iconst (v := (nI 5)) (show decode cX10_oneMinute 78 = .ok (.iconst 5, 1) by decide +kernel) (by decide) ?_
    obtain ⟨s29, w⟩ := w
    obtain ⟨s30, w⟩ := w
    refine X_iald (show decode cX10_oneMinute 79 = .ok (.iaload, 1) by decide +kernel) (isA_eq s29) s30 ?_
    refine X_icmp_ge (tgt := 147) (show decode cX10_oneMinute 80 = .ok (.if_icmp .ge 67, 3) by decide +kernel) (by decide) ⟨fun c31 => ?_, fun c31 => ?_⟩
    · have w := w.1 c31
      exact X_vret ⟨(show decode cX10_oneMinute 147 = .ok (.return_, 1) by decide +kernel), rfl⟩ ⟨rfl, w⟩
    · have w := w.2 c31
      refine X_aload_n (j := 0) (show decode cX10_oneMinute 83 = .ok (.aload_n 0, 1) by decide +kernel) rfl rfl ?_
      refine X_aload_n (j := 0) (show decode cX10_oneMinute 84 = .ok (.aload_n 0, 1) by decide +kernel) rfl rfl ?_
      refine X_getR fl_X10_7 (show decode cX10_oneMinute 85 = .ok (.getfield 7, 3) by decide +kernel) s28 ?_
      refine X_sipush (v := (nI 273)) (show decode cX10_oneMinute 88 = .ok (.sipush 273, 3) by decide +kernel) (by decide) ?_
      refine X_iload_n (j := 1) (show decode cX10_oneMinute 91 = .ok (.iload_n 2, 1) by decide +kernel) rfl rfl ?_
      refine X_iadd (show decode cX10_oneMinute 92 = .ok (.iadd, 1) by decide +kernel) ?_
      obtain ⟨s32, w⟩ := w
      refine X_iald (show decode cX10_oneMinute 93 = .ok (.iaload, 1) by decide +kernel) (isA_eq s29) s32 ?_
      refine X_vI (rc' := 0) (rs' := 0) (as := [.int _]) mv_X10_132 (show decode cX10_oneMinute 94 = .ok (.invokevirtual 132, 3) by decide +kernel) (by decide) (Nat.le_of_ble_eq_true rfl) (Nat.le_of_ble_eq_true rfl) rfl rfl (Nat.le_of_ble_eq_true rfl) (rcvD s28 (by decide) rfl) (kX10_placeOf w) (fun E h hk => hk.elim) (fun r34 h33 w => ?_)
      refine X_istore_n (ls' := [(0, .ref _), (2, .int _), (3, .int _)]) (show decode cX10_oneMinute 97 = .ok (.istore_n 3, 1) by decide +kernel) rfl (by decide) rfl ?_
      refine X_aload_n (j := 0) (show decode cX10_oneMinute 98 = .ok (.aload_n 0, 1) by decide +kernel) rfl rfl ?_
      refine X_iload_n (j := 2) (show decode cX10_oneMinute 99 = .ok (.iload_n 3, 1) by decide +kernel) rfl rfl ?_
      obtain ⟨s52, w⟩ := w
      refine X_vI (rc' := 0) (rs' := 0) (as := [.int _]) mv_X10_135 (show decode cX10_oneMinute 100 = .ok (.invokevirtual 135, 3) by decide +kernel) (by decide) (Nat.le_of_ble_eq_true rfl) (Nat.le_of_ble_eq_true rfl) rfl rfl (Nat.le_of_ble_eq_true rfl) (rcvD s52 (by decide) rfl) (kX10_isFree w) (fun E h hk => hk.elim) (fun r36 h35 w => ?_)
      refine X_if_eq (tgt := 116) (show decode cX10_oneMinute 103 = .ok (.ifCond .eq 13, 3) by decide +kernel) (by decide) ⟨fun c37 => ?_, fun c37 => ?_⟩
      · have w := w.1 c37
        refine X_aload_n (j := 0) (show decode cX10_oneMinute 116 = .ok (.aload_n 0, 1) by decide +kernel) rfl rfl ?_
        refine X_iload_n (j := 2) (show decode cX10_oneMinute 117 = .ok (.iload_n 3, 1) by decide +kernel) rfl rfl ?_
        refine X_iconst (v := (nI 5)) (show decode cX10_oneMinute 118 = .ok (.iconst 5, 1) by decide +kernel) (by decide) ?_
        refine X_aload_n (j := 0) (show decode cX10_oneMinute 119 = .ok (.aload_n 0, 1) by decide +kernel) rfl rfl ?_
        refine X_iload_n (j := 2) (show decode cX10_oneMinute 120 = .ok (.iload_n 3, 1) by decide +kernel) rfl rfl ?_
        refine X_iconst (v := (nI 5)) (show decode cX10_oneMinute 121 = .ok (.iconst 5, 1) by decide +kernel) (by decide) ?_
        obtain ⟨s48, w⟩ := w
        refine X_vI (rc' := 0) (rs' := 0) (as := [.int _, .int _]) mv_X10_76 (show decode cX10_oneMinute 122 = .ok (.invokevirtual 76, 3) by decide +kernel) (by decide) (Nat.le_of_ble_eq_true rfl) (Nat.le_of_ble_eq_true rfl) rfl rfl (Nat.le_of_ble_eq_true rfl) (rcvD s48 (by decide) rfl) (kX10_train w) (fun E h hk => hk.elim) (fun r39 h38 w => ?_)
        refine X_iconst (v := (nI 1)) (show decode cX10_oneMinute 125 = .ok (.iconst 1, 1) by decide +kernel) (by decide) ?_
        refine X_iadd (show decode cX10_oneMinute 126 = .ok (.iadd, 1) by decide +kernel) ?_
        obtain ⟨s47, w⟩ := w
        refine X_vV (rc' := 0) (rs' := 0) (as := [.int _, .int _, .int _]) mv_X10_109 (show decode cX10_oneMinute 127 = .ok (.invokevirtual 109, 3) by decide +kernel) (by decide) (Nat.le_of_ble_eq_true rfl) (Nat.le_of_ble_eq_true rfl) rfl rfl (Nat.le_of_ble_eq_true rfl) (rcvD s47 (by decide) rfl) (kX10_tells w) (fun E h hk => hk.elim) (fun h40 w => ?_)
        refine X_aload_n (j := 0) (show decode cX10_oneMinute 130 = .ok (.aload_n 0, 1) by decide +kernel) rfl rfl ?_
        obtain ⟨s42, w⟩ := w
        refine X_getR fl_X10_7 (show decode cX10_oneMinute 131 = .ok (.getfield 7, 3) by decide +kernel) s42 ?_
        refine X_bipush (v := (nI 8)) (show decode cX10_oneMinute 134 = .ok (.bipush 8, 2) by decide +kernel) (by decide) ?_
        refine X_dup2 (show decode cX10_oneMinute 136 = .ok (.dup2, 1) by decide +kernel) rfl rfl ?_
        obtain ⟨s43, w⟩ := w
        obtain ⟨s44, w⟩ := w
        refine X_iald (show decode cX10_oneMinute 137 = .ok (.iaload, 1) by decide +kernel) (isA_eq s43) s44 ?_
        refine X_iconst (v := (nI 1)) (show decode cX10_oneMinute 138 = .ok (.iconst 1, 1) by decide +kernel) (by decide) ?_
        refine X_iadd (show decode cX10_oneMinute 139 = .ok (.iadd, 1) by decide +kernel) ?_
        obtain ⟨s45, w⟩ := w
        refine X_iast (show decode cX10_oneMinute 140 = .ok (.iastore, 1) by decide +kernel) (isA_eq s43) s45 s44 ?_
        have w := w _ rfl
        refine X_iinc (j := 1) (v := _ + (nI 1)) (ls' := [(0, .ref _), (2, .int _), (3, .int _)]) (show decode cX10_oneMinute 141 = .ok (.iinc 2 1, 3) by decide +kernel) rfl rfl (Nat.le_of_ble_eq_true rfl) rfl ?_
        refine X_goto (tgt := 73) (show decode cX10_oneMinute 144 = .ok (.goto (-71), 3) by decide +kernel) (by decide) ?_
        refine X_pick (ls' := [(0, .ref _), (2, .int _)]) [0, 1] rfl ?_
        exact ih _ _ _ w
      · have w := w.2 c37
        refine X_aload_n (j := 0) (show decode cX10_oneMinute 106 = .ok (.aload_n 0, 1) by decide +kernel) rfl rfl ?_
        refine X_iload_n (j := 2) (show decode cX10_oneMinute 107 = .ok (.iload_n 3, 1) by decide +kernel) rfl rfl ?_
        obtain ⟨s51, w⟩ := w
        refine X_vI (rc' := 0) (rs' := 0) (as := [.int _]) mv_X10_138 (show decode cX10_oneMinute 108 = .ok (.invokevirtual 138, 3) by decide +kernel) (by decide) (Nat.le_of_ble_eq_true rfl) (Nat.le_of_ble_eq_true rfl) rfl rfl (Nat.le_of_ble_eq_true rfl) (rcvD s51 (by decide) rfl) (kX10_sets w) (fun E h hk => hk.elim) (fun r50 h49 w => ?_)
        refine X_istore (ls' := [(0, .ref _), (2, .int _), (3, .int _), (4, .int _)]) (show decode cX10_oneMinute 111 = .ok (.istore 4, 2) by decide +kernel) (by decide) rfl ?_
        refine X_goto (tgt := 144) (show decode cX10_oneMinute 113 = .ok (.goto 31, 3) by decide +kernel) (by decide) ?_
        refine X_goto (tgt := 73) (show decode cX10_oneMinute 144 = .ok (.goto (-71), 3) by decide +kernel) (by decide) ?_
        refine X_pick (ls' := [(0, .ref _), (2, .int _)]) [0, 1] rfl ?_
        exact ih _ _ _ w
set_option maxRecDepth 100000 in
set_option maxHeartbeats 4000000 in
theorem kX10_oneMinute {a0 : Nat} {h : AH} {K : AH → Prop} (w : wX10_oneMinute a0 h K) : Cn mX10_oneMinute (cwd mX10_oneMinute) 7 0 0 [.ref a0] h (KV K) T0 := by
  refine Cn_of (by decide +kernel) rfl (Nat.le_of_ble_eq_true rfl) ?_
  show X mX10_oneMinute 7 (KV K) T0 0 0 0 [(0, .ref a0)] [] h
  unfold wX10_oneMinute at w
  refine X_aload_n (j := 0) (show decode cX10_oneMinute 0 = .ok (.aload_n 0, 1) by decide +kernel) rfl rfl ?_
  obtain ⟨s1, w⟩ := w
  refine X_getR fl_X10_7 (show decode cX10_oneMinute 1 = .ok (.getfield 7, 3) by decide +kernel) s1 ?_
  refine X_bipush (v := (nI 6)) (show decode cX10_oneMinute 4 = .ok (.bipush 6, 2) by decide +kernel) (by decide) ?_
  refine X_dup2 (show decode cX10_oneMinute 6 = .ok (.dup2, 1) by decide +kernel) rfl rfl ?_
  obtain ⟨s2, w⟩ := w
  obtain ⟨s3, w⟩ := w
  refine X_iald (show decode cX10_oneMinute 7 = .ok (.iaload, 1) by decide +kernel) (isA_eq s2) s3 ?_
  refine X_iconst (v := (nI 1)) (show decode cX10_oneMinute 8 = .ok (.iconst 1, 1) by decide +kernel) (by decide) ?_
  refine X_iadd (show decode cX10_oneMinute 9 = .ok (.iadd, 1) by decide +kernel) ?_
  obtain ⟨s4, w⟩ := w
  refine X_iast (show decode cX10_oneMinute 10 = .ok (.iastore, 1) by decide +kernel) (isA_eq s2) s4 s3 ?_
  have w := w _ rfl
  refine X_iconst (v := (nI 0)) (show decode cX10_oneMinute 11 = .ok (.iconst 0, 1) by decide +kernel) (by decide) ?_
  refine X_istore_n (ls' := [(0, .ref _), (1, .int _)]) (show decode cX10_oneMinute 12 = .ok (.istore_n 1, 1) by decide +kernel) rfl (by decide) rfl ?_
  obtain ⟨n54, w⟩ := w
  refine kX10_oneMinute_L13 ?_ n54 _ _ _ w
  · intro x0_26 h27 w
    refine X_iconst (v := (nI 0)) (show decode cX10_oneMinute 71 = .ok (.iconst 0, 1) by decide +kernel) (by decide) ?_
    refine X_istore_n (ls' := [(0, .ref _), (2, .int _)]) (show decode cX10_oneMinute 72 = .ok (.istore_n 2, 1) by decide +kernel) rfl (by decide) rfl ?_
    obtain ⟨n53, w⟩ := w
    exact kX10_oneMinute_L73  n53 _ _ _ w
set_option maxRecDepth 100000 in
set_option maxHeartbeats 4000000 in
theorem kX10_lays {a0 : Nat} {a1 : Int32} {h : AH} {K : Int32 → AH → Prop} (w : wX10_lays a0 a1 h K) : Cn mX10_lays (cwd mX10_lays) 2 0 0 [.ref a0, .int a1] h (KI K) T0 := by
  refine Cn_of (by decide +kernel) rfl (Nat.le_of_ble_eq_true rfl) ?_
  show X mX10_lays 2 (KI K) T0 0 0 0 [(0, .ref a0), (1, .int a1)] [] h
  unfold wX10_lays at w
  refine X_iload_n (j := 1) (show decode cX10_lays 0 = .ok (.iload_n 1, 1) by decide +kernel) rfl rfl ?_
  refine X_iconst (v := (nI 1)) (show decode cX10_lays 1 = .ok (.iconst 1, 1) by decide +kernel) (by decide) ?_
  refine X_bipush (v := (nI 9)) (show decode cX10_lays 2 = .ok (.bipush 9, 2) by decide +kernel) (by decide) ?_
  refine X_sI (rc' := 0) (rs' := 0) (as := [.int _, .int _, .int _]) ms_X10_72 (show decode cX10_lays 4 = .ok (.invokestatic 72, 3) by decide +kernel) (by decide) (Nat.le_of_ble_eq_true rfl) (Nat.le_of_ble_eq_true rfl) rfl rfl (Nat.le_of_ble_eq_true rfl) (kX10_in w) (fun E h hk => hk.elim) (fun r2 h1 w => ?_)
  refine X_if_ne (tgt := 12) (show decode cX10_lays 7 = .ok (.ifCond .ne 5, 3) by decide +kernel) (by decide) ⟨fun c3 => ?_, fun c3 => ?_⟩
  · have w := w.1 c3
    refine X_aload_n (j := 0) (show decode cX10_lays 12 = .ok (.aload_n 0, 1) by decide +kernel) rfl rfl ?_
    obtain ⟨s4, w⟩ := w
    refine X_getR fl_X10_7 (show decode cX10_lays 13 = .ok (.getfield 7, 3) by decide +kernel) s4 ?_
    refine X_iconst (v := (nI 0)) (show decode cX10_lays 16 = .ok (.iconst 0, 1) by decide +kernel) (by decide) ?_
    obtain ⟨s5, w⟩ := w
    obtain ⟨s6, w⟩ := w
    refine X_iald (show decode cX10_lays 17 = .ok (.iaload, 1) by decide +kernel) (isA_eq s5) s6 ?_
    refine X_topi (fun v7 e8 => ?_)
    have w := w v7 e8
    refine X_istore_n (ls' := [(0, .ref _), (1, .int _), (2, .int _)]) (show decode cX10_lays 18 = .ok (.istore_n 2, 1) by decide +kernel) rfl (by decide) rfl ?_
    refine X_iload_n (j := 2) (show decode cX10_lays 19 = .ok (.iload_n 2, 1) by decide +kernel) rfl rfl ?_
    refine X_bipush (v := (nI 12)) (show decode cX10_lays 20 = .ok (.bipush 12, 2) by decide +kernel) (by decide) ?_
    refine X_icmp_ne (tgt := 27) (show decode cX10_lays 22 = .ok (.if_icmp .ne 5, 3) by decide +kernel) (by decide) ⟨fun c9 => ?_, fun c9 => ?_⟩
    · have w := w.1 c9
      refine X_aload_n (j := 0) (show decode cX10_lays 27 = .ok (.aload_n 0, 1) by decide +kernel) rfl rfl ?_
      refine X_iload_n (j := 2) (show decode cX10_lays 28 = .ok (.iload_n 2, 1) by decide +kernel) rfl rfl ?_
      refine X_iconst (v := (nI 0)) (show decode cX10_lays 29 = .ok (.iconst 0, 1) by decide +kernel) (by decide) ?_
      refine X_iload_n (j := 1) (show decode cX10_lays 30 = .ok (.iload_n 1, 1) by decide +kernel) rfl rfl ?_
      refine X_vV (rc' := 0) (rs' := 0) (as := [.int _, .int _, .int _]) mv_X10_113 (show decode cX10_lays 31 = .ok (.invokevirtual 113, 3) by decide +kernel) (by decide) (Nat.le_of_ble_eq_true rfl) (Nat.le_of_ble_eq_true rfl) rfl rfl (Nat.le_of_ble_eq_true rfl) (rcvD s4 (by decide) rfl) (kX10_puts w) (fun E h hk => hk.elim) (fun h10 w => ?_)
      refine X_aload_n (j := 0) (show decode cX10_lays 34 = .ok (.aload_n 0, 1) by decide +kernel) rfl rfl ?_
      obtain ⟨s12, w⟩ := w
      refine X_getR fl_X10_7 (show decode cX10_lays 35 = .ok (.getfield 7, 3) by decide +kernel) s12 ?_
      refine X_iconst (v := (nI 0)) (show decode cX10_lays 38 = .ok (.iconst 0, 1) by decide +kernel) (by decide) ?_
      refine X_iload_n (j := 2) (show decode cX10_lays 39 = .ok (.iload_n 2, 1) by decide +kernel) rfl rfl ?_
      refine X_iconst (v := (nI 1)) (show decode cX10_lays 40 = .ok (.iconst 1, 1) by decide +kernel) (by decide) ?_
      refine X_iadd (show decode cX10_lays 41 = .ok (.iadd, 1) by decide +kernel) ?_
      obtain ⟨s13, w⟩ := w
      obtain ⟨s14, w⟩ := w
      obtain ⟨s15, w⟩ := w
      refine X_iast (show decode cX10_lays 42 = .ok (.iastore, 1) by decide +kernel) (isA_eq s13) s14 s15 ?_
      have w := w _ rfl
      refine X_aload_n (j := 0) (show decode cX10_lays 43 = .ok (.aload_n 0, 1) by decide +kernel) rfl rfl ?_
      refine X_iload_n (j := 2) (show decode cX10_lays 44 = .ok (.iload_n 2, 1) by decide +kernel) rfl rfl ?_
      refine X_vI (rc' := 0) (rs' := 0) (as := [.int _]) mv_X10_141 (show decode cX10_lays 45 = .ok (.invokevirtual 141, 3) by decide +kernel) (by decide) (Nat.le_of_ble_eq_true rfl) (Nat.le_of_ble_eq_true rfl) rfl rfl (Nat.le_of_ble_eq_true rfl) (rcvD s12 (by decide) rfl) (kX10_done w) (fun E h hk => hk.elim) (fun r18 h17 w => ?_)
      exact X_iret ⟨(show decode cX10_lays 48 = .ok (.ireturn, 1) by decide +kernel), .int, rfl, rfl⟩ ⟨_, rfl, w⟩
    · have w := w.2 c9
      refine X_iconst (v := (nI 2)) (show decode cX10_lays 25 = .ok (.iconst 2, 1) by decide +kernel) (by decide) ?_
      exact X_iret ⟨(show decode cX10_lays 26 = .ok (.ireturn, 1) by decide +kernel), .int, rfl, rfl⟩ ⟨_, rfl, w⟩
  · have w := w.2 c3
    refine X_iconst (v := (nI 1)) (show decode cX10_lays 10 = .ok (.iconst 1, 1) by decide +kernel) (by decide) ?_
    exact X_iret ⟨(show decode cX10_lays 11 = .ok (.ireturn, 1) by decide +kernel), .int, rfl, rfl⟩ ⟨_, rfl, w⟩
set_option maxRecDepth 100000 in
set_option maxHeartbeats 4000000 in
theorem kX10_forks {a0 : Nat} {a1 : Int32} {a2 : Int32} {a3 : Int32} {h : AH} {K : Int32 → AH → Prop} (w : wX10_forks a0 a1 a2 a3 h K) : Cn mX10_forks (cwd mX10_forks) 3 0 0 [.ref a0, .int a1, .int a2, .int a3] h (KI K) T0 := by
  refine Cn_of (by decide +kernel) rfl (Nat.le_of_ble_eq_true rfl) ?_
  show X mX10_forks 3 (KI K) T0 0 0 0 [(0, .ref a0), (1, .int a1), (2, .int a2), (3, .int a3)] [] h
  unfold wX10_forks at w
  refine X_aload_n (j := 0) (show decode cX10_forks 0 = .ok (.aload_n 0, 1) by decide +kernel) rfl rfl ?_
  refine X_iload_n (j := 1) (show decode cX10_forks 1 = .ok (.iload_n 1, 1) by decide +kernel) rfl rfl ?_
  obtain ⟨s46, w⟩ := w
  refine X_vI (rc' := 0) (rs' := 0) (as := [.int _]) mv_X10_144 (show decode cX10_forks 2 = .ok (.invokevirtual 144, 3) by decide +kernel) (by decide) (Nat.le_of_ble_eq_true rfl) (Nat.le_of_ble_eq_true rfl) rfl rfl (Nat.le_of_ble_eq_true rfl) (rcvD s46 (by decide) rfl) (kX10_isBlock w) (fun E h hk => hk.elim) (fun r2 h1 w => ?_)
  refine X_if_eq (tgt := 24) (show decode cX10_forks 5 = .ok (.ifCond .eq 19, 3) by decide +kernel) (by decide) ⟨fun c3 => ?_, fun c3 => ?_⟩
  · have w := w.1 c3
    refine X_iconst (v := (nI 1)) (show decode cX10_forks 24 = .ok (.iconst 1, 1) by decide +kernel) (by decide) ?_
    exact X_iret ⟨(show decode cX10_forks 25 = .ok (.ireturn, 1) by decide +kernel), .int, rfl, rfl⟩ ⟨_, rfl, w⟩
  · have w := w.2 c3
    refine X_aload_n (j := 0) (show decode cX10_forks 8 = .ok (.aload_n 0, 1) by decide +kernel) rfl rfl ?_
    refine X_iload_n (j := 2) (show decode cX10_forks 9 = .ok (.iload_n 2, 1) by decide +kernel) rfl rfl ?_
    obtain ⟨s45, w⟩ := w
    refine X_vI (rc' := 0) (rs' := 0) (as := [.int _]) mv_X10_144 (show decode cX10_forks 10 = .ok (.invokevirtual 144, 3) by decide +kernel) (by decide) (Nat.le_of_ble_eq_true rfl) (Nat.le_of_ble_eq_true rfl) rfl rfl (Nat.le_of_ble_eq_true rfl) (rcvD s45 (by decide) rfl) (kX10_isBlock w) (fun E h hk => hk.elim) (fun r5 h4 w => ?_)
    refine X_if_eq (tgt := 24) (show decode cX10_forks 13 = .ok (.ifCond .eq 11, 3) by decide +kernel) (by decide) ⟨fun c6 => ?_, fun c6 => ?_⟩
    · have w := w.1 c6
      refine X_iconst (v := (nI 1)) (show decode cX10_forks 24 = .ok (.iconst 1, 1) by decide +kernel) (by decide) ?_
      exact X_iret ⟨(show decode cX10_forks 25 = .ok (.ireturn, 1) by decide +kernel), .int, rfl, rfl⟩ ⟨_, rfl, w⟩
    · have w := w.2 c6
      refine X_aload_n (j := 0) (show decode cX10_forks 16 = .ok (.aload_n 0, 1) by decide +kernel) rfl rfl ?_
      refine X_iload_n (j := 3) (show decode cX10_forks 17 = .ok (.iload_n 3, 1) by decide +kernel) rfl rfl ?_
      obtain ⟨s44, w⟩ := w
      refine X_vI (rc' := 0) (rs' := 0) (as := [.int _]) mv_X10_144 (show decode cX10_forks 18 = .ok (.invokevirtual 144, 3) by decide +kernel) (by decide) (Nat.le_of_ble_eq_true rfl) (Nat.le_of_ble_eq_true rfl) rfl rfl (Nat.le_of_ble_eq_true rfl) (rcvD s44 (by decide) rfl) (kX10_isBlock w) (fun E h hk => hk.elim) (fun r8 h7 w => ?_)
      refine X_if_ne (tgt := 26) (show decode cX10_forks 21 = .ok (.ifCond .ne 5, 3) by decide +kernel) (by decide) ⟨fun c9 => ?_, fun c9 => ?_⟩
      · have w := w.1 c9
        refine X_iload_n (j := 1) (show decode cX10_forks 26 = .ok (.iload_n 1, 1) by decide +kernel) rfl rfl ?_
        refine X_iload_n (j := 2) (show decode cX10_forks 27 = .ok (.iload_n 2, 1) by decide +kernel) rfl rfl ?_
        refine X_icmp_eq (tgt := 41) (show decode cX10_forks 28 = .ok (.if_icmp .eq 13, 3) by decide +kernel) (by decide) ⟨fun c10 => ?_, fun c10 => ?_⟩
        · have w := w.1 c10
          refine X_iconst (v := (nI 2)) (show decode cX10_forks 41 = .ok (.iconst 2, 1) by decide +kernel) (by decide) ?_
          exact X_iret ⟨(show decode cX10_forks 42 = .ok (.ireturn, 1) by decide +kernel), .int, rfl, rfl⟩ ⟨_, rfl, w⟩
        · have w := w.2 c10
          refine X_iload_n (j := 1) (show decode cX10_forks 31 = .ok (.iload_n 1, 1) by decide +kernel) rfl rfl ?_
          refine X_iload_n (j := 3) (show decode cX10_forks 32 = .ok (.iload_n 3, 1) by decide +kernel) rfl rfl ?_
          refine X_icmp_eq (tgt := 41) (show decode cX10_forks 33 = .ok (.if_icmp .eq 8, 3) by decide +kernel) (by decide) ⟨fun c11 => ?_, fun c11 => ?_⟩
          · have w := w.1 c11
            refine X_iconst (v := (nI 2)) (show decode cX10_forks 41 = .ok (.iconst 2, 1) by decide +kernel) (by decide) ?_
            exact X_iret ⟨(show decode cX10_forks 42 = .ok (.ireturn, 1) by decide +kernel), .int, rfl, rfl⟩ ⟨_, rfl, w⟩
          · have w := w.2 c11
            refine X_iload_n (j := 2) (show decode cX10_forks 36 = .ok (.iload_n 2, 1) by decide +kernel) rfl rfl ?_
            refine X_iload_n (j := 3) (show decode cX10_forks 37 = .ok (.iload_n 3, 1) by decide +kernel) rfl rfl ?_
            refine X_icmp_ne (tgt := 43) (show decode cX10_forks 38 = .ok (.if_icmp .ne 5, 3) by decide +kernel) (by decide) ⟨fun c12 => ?_, fun c12 => ?_⟩
            · have w := w.1 c12
              refine X_aload_n (j := 0) (show decode cX10_forks 43 = .ok (.aload_n 0, 1) by decide +kernel) rfl rfl ?_
              obtain ⟨s13, w⟩ := w
              refine X_getR fl_X10_7 (show decode cX10_forks 44 = .ok (.getfield 7, 3) by decide +kernel) s13 ?_
              refine X_iconst (v := (nI 1)) (show decode cX10_forks 47 = .ok (.iconst 1, 1) by decide +kernel) (by decide) ?_
              obtain ⟨s14, w⟩ := w
              obtain ⟨s15, w⟩ := w
              refine X_iald (show decode cX10_forks 48 = .ok (.iaload, 1) by decide +kernel) (isA_eq s14) s15 ?_
              refine X_topi (fun v16 e17 => ?_)
              have w := w v16 e17
              refine X_istore (ls' := [(0, .ref _), (1, .int _), (2, .int _), (3, .int _), (4, .int _)]) (show decode cX10_forks 49 = .ok (.istore 4, 2) by decide +kernel) (by decide) rfl ?_
              refine X_iload (j := 4) (show decode cX10_forks 51 = .ok (.iload 4, 2) by decide +kernel) rfl ?_
              refine X_bipush (v := (nI 8)) (show decode cX10_forks 53 = .ok (.bipush 8, 2) by decide +kernel) (by decide) ?_
              refine X_icmp_eq (tgt := 76) (show decode cX10_forks 55 = .ok (.if_icmp .eq 21, 3) by decide +kernel) (by decide) ⟨fun c18 => ?_, fun c18 => ?_⟩
              · have w := w.1 c18
                refine X_iconst (v := (nI 3)) (show decode cX10_forks 76 = .ok (.iconst 3, 1) by decide +kernel) (by decide) ?_
                exact X_iret ⟨(show decode cX10_forks 77 = .ok (.ireturn, 1) by decide +kernel), .int, rfl, rfl⟩ ⟨_, rfl, w⟩
              · have w := w.2 c18
                refine X_aload_n (j := 0) (show decode cX10_forks 58 = .ok (.aload_n 0, 1) by decide +kernel) rfl rfl ?_
                refine X_iload_n (j := 1) (show decode cX10_forks 59 = .ok (.iload_n 1, 1) by decide +kernel) rfl rfl ?_
                refine X_iconst (v := (nI 3)) (show decode cX10_forks 60 = .ok (.iconst 3, 1) by decide +kernel) (by decide) ?_
                refine X_vI (rc' := 0) (rs' := 0) (as := [.int _, .int _]) mv_X10_80 (show decode cX10_forks 61 = .ok (.invokevirtual 80, 3) by decide +kernel) (by decide) (Nat.le_of_ble_eq_true rfl) (Nat.le_of_ble_eq_true rfl) rfl rfl (Nat.le_of_ble_eq_true rfl) (rcvD s13 (by decide) rfl) (kX10_block w) (fun E h hk => hk.elim) (fun r20 h19 w => ?_)
                refine X_if_gt (tgt := 76) (show decode cX10_forks 64 = .ok (.ifCond .gt 12, 3) by decide +kernel) (by decide) ⟨fun c21 => ?_, fun c21 => ?_⟩
                · have w := w.1 c21
                  refine X_iconst (v := (nI 3)) (show decode cX10_forks 76 = .ok (.iconst 3, 1) by decide +kernel) (by decide) ?_
                  exact X_iret ⟨(show decode cX10_forks 77 = .ok (.ireturn, 1) by decide +kernel), .int, rfl, rfl⟩ ⟨_, rfl, w⟩
                · have w := w.2 c21
                  refine X_aload_n (j := 0) (show decode cX10_forks 67 = .ok (.aload_n 0, 1) by decide +kernel) rfl rfl ?_
                  refine X_iload_n (j := 1) (show decode cX10_forks 68 = .ok (.iload_n 1, 1) by decide +kernel) rfl rfl ?_
                  refine X_iconst (v := (nI 2)) (show decode cX10_forks 69 = .ok (.iconst 2, 1) by decide +kernel) (by decide) ?_
                  obtain ⟨s43, w⟩ := w
                  refine X_vI (rc' := 0) (rs' := 0) (as := [.int _, .int _]) mv_X10_80 (show decode cX10_forks 70 = .ok (.invokevirtual 80, 3) by decide +kernel) (by decide) (Nat.le_of_ble_eq_true rfl) (Nat.le_of_ble_eq_true rfl) rfl rfl (Nat.le_of_ble_eq_true rfl) (rcvD s43 (by decide) rfl) (kX10_block w) (fun E h hk => hk.elim) (fun r23 h22 w => ?_)
                  refine X_if_le (tgt := 78) (show decode cX10_forks 73 = .ok (.ifCond .le 5, 3) by decide +kernel) (by decide) ⟨fun c24 => ?_, fun c24 => ?_⟩
                  · have w := w.1 c24
                    refine X_aload_n (j := 0) (show decode cX10_forks 78 = .ok (.aload_n 0, 1) by decide +kernel) rfl rfl ?_
                    obtain ⟨s25, w⟩ := w
                    refine X_getR fl_X10_7 (show decode cX10_forks 79 = .ok (.getfield 7, 3) by decide +kernel) s25 ?_
                    refine X_bipush (v := (nI 81)) (show decode cX10_forks 82 = .ok (.bipush 81, 2) by decide +kernel) (by decide) ?_
                    refine X_iconst (v := (nI 5)) (show decode cX10_forks 84 = .ok (.iconst 5, 1) by decide +kernel) (by decide) ?_
                    refine X_iload (j := 4) (show decode cX10_forks 85 = .ok (.iload 4, 2) by decide +kernel) rfl ?_
                    refine X_imul (show decode cX10_forks 87 = .ok (.imul, 1) by decide +kernel) ?_
                    refine X_iadd (show decode cX10_forks 88 = .ok (.iadd, 1) by decide +kernel) ?_
                    refine X_iconst (v := (nI 0)) (show decode cX10_forks 89 = .ok (.iconst 0, 1) by decide +kernel) (by decide) ?_
                    refine X_iadd (show decode cX10_forks 90 = .ok (.iadd, 1) by decide +kernel) ?_
                    refine X_iload_n (j := 1) (show decode cX10_forks 91 = .ok (.iload_n 1, 1) by decide +kernel) rfl rfl ?_
                    obtain ⟨s26, w⟩ := w
                    obtain ⟨s27, w⟩ := w
                    obtain ⟨s28, w⟩ := w
                    refine X_iast (show decode cX10_forks 92 = .ok (.iastore, 1) by decide +kernel) (isA_eq s26) s27 s28 ?_
                    have w := w _ rfl
                    refine X_aload_n (j := 0) (show decode cX10_forks 93 = .ok (.aload_n 0, 1) by decide +kernel) rfl rfl ?_
                    refine X_getR fl_X10_7 (show decode cX10_forks 94 = .ok (.getfield 7, 3) by decide +kernel) s25 ?_
                    refine X_bipush (v := (nI 81)) (show decode cX10_forks 97 = .ok (.bipush 81, 2) by decide +kernel) (by decide) ?_
                    refine X_iconst (v := (nI 5)) (show decode cX10_forks 99 = .ok (.iconst 5, 1) by decide +kernel) (by decide) ?_
                    refine X_iload (j := 4) (show decode cX10_forks 100 = .ok (.iload 4, 2) by decide +kernel) rfl ?_
                    refine X_imul (show decode cX10_forks 102 = .ok (.imul, 1) by decide +kernel) ?_
                    refine X_iadd (show decode cX10_forks 103 = .ok (.iadd, 1) by decide +kernel) ?_
                    refine X_iconst (v := (nI 1)) (show decode cX10_forks 104 = .ok (.iconst 1, 1) by decide +kernel) (by decide) ?_
                    refine X_iadd (show decode cX10_forks 105 = .ok (.iadd, 1) by decide +kernel) ?_
                    refine X_iload_n (j := 2) (show decode cX10_forks 106 = .ok (.iload_n 2, 1) by decide +kernel) rfl rfl ?_
                    obtain ⟨s30, w⟩ := w
                    refine X_iast (show decode cX10_forks 107 = .ok (.iastore, 1) by decide +kernel) (isA_eq s26) s27 s30 ?_
                    have w := w _ rfl
                    refine X_aload_n (j := 0) (show decode cX10_forks 108 = .ok (.aload_n 0, 1) by decide +kernel) rfl rfl ?_
                    refine X_getR fl_X10_7 (show decode cX10_forks 109 = .ok (.getfield 7, 3) by decide +kernel) s25 ?_
                    refine X_bipush (v := (nI 81)) (show decode cX10_forks 112 = .ok (.bipush 81, 2) by decide +kernel) (by decide) ?_
                    refine X_iconst (v := (nI 5)) (show decode cX10_forks 114 = .ok (.iconst 5, 1) by decide +kernel) (by decide) ?_
                    refine X_iload (j := 4) (show decode cX10_forks 115 = .ok (.iload 4, 2) by decide +kernel) rfl ?_
                    refine X_imul (show decode cX10_forks 117 = .ok (.imul, 1) by decide +kernel) ?_
                    refine X_iadd (show decode cX10_forks 118 = .ok (.iadd, 1) by decide +kernel) ?_
                    refine X_iconst (v := (nI 2)) (show decode cX10_forks 119 = .ok (.iconst 2, 1) by decide +kernel) (by decide) ?_
                    refine X_iadd (show decode cX10_forks 120 = .ok (.iadd, 1) by decide +kernel) ?_
                    refine X_iload_n (j := 3) (show decode cX10_forks 121 = .ok (.iload_n 3, 1) by decide +kernel) rfl rfl ?_
                    obtain ⟨s32, w⟩ := w
                    refine X_iast (show decode cX10_forks 122 = .ok (.iastore, 1) by decide +kernel) (isA_eq s26) s27 s32 ?_
                    have w := w _ rfl
                    refine X_aload_n (j := 0) (show decode cX10_forks 123 = .ok (.aload_n 0, 1) by decide +kernel) rfl rfl ?_
                    refine X_iload_n (j := 1) (show decode cX10_forks 124 = .ok (.iload_n 1, 1) by decide +kernel) rfl rfl ?_
                    refine X_iconst (v := (nI 3)) (show decode cX10_forks 125 = .ok (.iconst 3, 1) by decide +kernel) (by decide) ?_
                    refine X_iload (j := 4) (show decode cX10_forks 126 = .ok (.iload 4, 2) by decide +kernel) rfl ?_
                    refine X_iconst (v := (nI 1)) (show decode cX10_forks 128 = .ok (.iconst 1, 1) by decide +kernel) (by decide) ?_
                    refine X_iadd (show decode cX10_forks 129 = .ok (.iadd, 1) by decide +kernel) ?_
                    refine X_vV (rc' := 0) (rs' := 0) (as := [.int _, .int _, .int _]) mv_X10_113 (show decode cX10_forks 130 = .ok (.invokevirtual 113, 3) by decide +kernel) (by decide) (Nat.le_of_ble_eq_true rfl) (Nat.le_of_ble_eq_true rfl) rfl rfl (Nat.le_of_ble_eq_true rfl) (rcvD s25 (by decide) rfl) (kX10_puts w) (fun E h hk => hk.elim) (fun h34 w => ?_)
                    refine X_aload_n (j := 0) (show decode cX10_forks 133 = .ok (.aload_n 0, 1) by decide +kernel) rfl rfl ?_
                    obtain ⟨s36, w⟩ := w
                    refine X_getR fl_X10_7 (show decode cX10_forks 134 = .ok (.getfield 7, 3) by decide +kernel) s36 ?_
                    refine X_iconst (v := (nI 1)) (show decode cX10_forks 137 = .ok (.iconst 1, 1) by decide +kernel) (by decide) ?_
                    refine X_iload (j := 4) (show decode cX10_forks 138 = .ok (.iload 4, 2) by decide +kernel) rfl ?_
                    refine X_iconst (v := (nI 1)) (show decode cX10_forks 140 = .ok (.iconst 1, 1) by decide +kernel) (by decide) ?_
                    refine X_iadd (show decode cX10_forks 141 = .ok (.iadd, 1) by decide +kernel) ?_
                    obtain ⟨s37, w⟩ := w
                    obtain ⟨s38, w⟩ := w
                    obtain ⟨s39, w⟩ := w
                    refine X_iast (show decode cX10_forks 142 = .ok (.iastore, 1) by decide +kernel) (isA_eq s37) s38 s39 ?_
                    have w := w _ rfl
                    refine X_aload_n (j := 0) (show decode cX10_forks 143 = .ok (.aload_n 0, 1) by decide +kernel) rfl rfl ?_
                    refine X_iload (j := 4) (show decode cX10_forks 144 = .ok (.iload 4, 2) by decide +kernel) rfl ?_
                    refine X_vI (rc' := 0) (rs' := 0) (as := [.int _]) mv_X10_141 (show decode cX10_forks 146 = .ok (.invokevirtual 141, 3) by decide +kernel) (by decide) (Nat.le_of_ble_eq_true rfl) (Nat.le_of_ble_eq_true rfl) rfl rfl (Nat.le_of_ble_eq_true rfl) (rcvD s36 (by decide) rfl) (kX10_done w) (fun E h hk => hk.elim) (fun r42 h41 w => ?_)
                    exact X_iret ⟨(show decode cX10_forks 149 = .ok (.ireturn, 1) by decide +kernel), .int, rfl, rfl⟩ ⟨_, rfl, w⟩
                  · have w := w.2 c24
                    refine X_iconst (v := (nI 3)) (show decode cX10_forks 76 = .ok (.iconst 3, 1) by decide +kernel) (by decide) ?_
                    exact X_iret ⟨(show decode cX10_forks 77 = .ok (.ireturn, 1) by decide +kernel), .int, rfl, rfl⟩ ⟨_, rfl, w⟩
            · have w := w.2 c12
              refine X_iconst (v := (nI 2)) (show decode cX10_forks 41 = .ok (.iconst 2, 1) by decide +kernel) (by decide) ?_
              exact X_iret ⟨(show decode cX10_forks 42 = .ok (.ireturn, 1) by decide +kernel), .int, rfl, rfl⟩ ⟨_, rfl, w⟩
      · have w := w.2 c9
        refine X_iconst (v := (nI 1)) (show decode cX10_forks 24 = .ok (.iconst 1, 1) by decide +kernel) (by decide) ?_
        exact X_iret ⟨(show decode cX10_forks 25 = .ok (.ireturn, 1) by decide +kernel), .int, rfl, rfl⟩ ⟨_, rfl, w⟩
