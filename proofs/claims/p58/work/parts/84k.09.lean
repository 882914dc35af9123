set_option maxRecDepth 100000 in
set_option maxHeartbeats 4000000 in
theorem kL_isTrain_J87 {rc0 rs0 : Nat} {K : Int32 → AH → Prop} {c5 : Nat → Int32 → Int32 → Int32 → Int32 → AH → Prop} (hc5 : ∀ x0 x1 x2 x3 x4 h, c5 x0 x1 x2 x3 x4 h → X mL_isTrain 12 (KI K) T0 rc0 rs0 5 [(0, .ref x0), (1, .int x1), (2, .int x2), (3, .int x3), (4, .int x4)] [] h) (x0 : Nat) (x1 : Int32) (x2 : Int32) (x3 : Int32) (x4 : Int32) (x6 : Int32) (y0 : Int32) (y1 : Int32) (h : AH) (w : wL_isTrain_J87 K c5 x0 x1 x2 x3 x4 x6 y0 y1 h) : X mL_isTrain 12 (KI K) T0 (rc0 + 3) (rs0 + 18) 87 [(0, .ref x0), (1, .int x1), (2, .int x2), (3, .int x3), (4, .int x4), (6, .int x6)] [.int y1, .int y0] h := by
  unfold wL_isTrain_J87 at w
  refine X_icmp_ne (tgt := 102) (show decode cL_isTrain 87 = .ok (.if_icmp .ne 15, 3) by decide +kernel) (by decide) ⟨fun c13 => ?_, fun c13 => ?_⟩
  · have w := w.1 c13
    refine X_iconst (v := (nI 0)) (show decode cL_isTrain 102 = .ok (.iconst 0, 1) by decide +kernel) (by decide) ?_
    exact X_iret ⟨(show decode cL_isTrain 103 = .ok (.ireturn, 1) by decide +kernel), .boolean, rfl, (by decide)⟩ ⟨_, rfl, w⟩
  · have w := w.2 c13
    refine X_iload (j := 5) (show decode cL_isTrain 90 = .ok (.iload 6, 2) by decide +kernel) rfl ?_
    refine X_aload_n (j := 0) (show decode cL_isTrain 92 = .ok (.aload_n 0, 1) by decide +kernel) rfl rfl ?_
    refine X_iload (j := 4) (show decode cL_isTrain 93 = .ok (.iload 4, 2) by decide +kernel) rfl ?_
    refine X_iload_n (j := 1) (show decode cL_isTrain 95 = .ok (.iload_n 1, 1) by decide +kernel) rfl rfl ?_
    refine X_sH (rc' := rc0) (rs' := rs0) (as := [.ref _, .int _, .int _]) msh_L_329 (show decode cL_isTrain 96 = .ok (.invokestatic 329, 3) by decide +kernel) (by decide) (by omega) (by omega) rfl rfl (Nat.le_of_ble_eq_true rfl) (kL_conflict w) (fun r15 h14 w => ?_)
    refine X_icmp_eq (tgt := 104) (show decode cL_isTrain 99 = .ok (.if_icmp .eq 5, 3) by decide +kernel) (by decide) ⟨fun c16 => ?_, fun c16 => ?_⟩
    · have w := w.1 c16
      refine X_iinc (j := 4) (v := _ + (nI 1)) (ls' := [(0, .ref _), (1, .int _), (2, .int _), (3, .int _), (4, .int _), (6, .int _)]) (show decode cL_isTrain 104 = .ok (.iinc 4 1, 3) by decide +kernel) rfl rfl (Nat.le_of_ble_eq_true rfl) rfl ?_
      refine X_goto (tgt := 5) (show decode cL_isTrain 107 = .ok (.goto (-102), 3) by decide +kernel) (by decide) ?_
      refine X_pick (ls' := [(0, .ref _), (1, .int _), (2, .int _), (3, .int _), (4, .int _)]) [0, 1, 2, 3, 4] rfl ?_
      exact hc5 _ _ _ _ _ _ w
    · have w := w.2 c16
      refine X_iconst (v := (nI 0)) (show decode cL_isTrain 102 = .ok (.iconst 0, 1) by decide +kernel) (by decide) ?_
      exact X_iret ⟨(show decode cL_isTrain 103 = .ok (.ireturn, 1) by decide +kernel), .boolean, rfl, (by decide)⟩ ⟨_, rfl, w⟩
set_option maxRecDepth 100000 in
set_option maxHeartbeats 4000000 in
theorem kL_isTrain_J76 {rc0 rs0 : Nat} {K : Int32 → AH → Prop} {c5 : Nat → Int32 → Int32 → Int32 → Int32 → AH → Prop} (hc5 : ∀ x0 x1 x2 x3 x4 h, c5 x0 x1 x2 x3 x4 h → X mL_isTrain 12 (KI K) T0 rc0 rs0 5 [(0, .ref x0), (1, .int x1), (2, .int x2), (3, .int x3), (4, .int x4)] [] h) (x0 : Nat) (x1 : Int32) (x2 : Int32) (x3 : Int32) (x4 : Int32) (x6 : Int32) (y0 : Int32) (h : AH) (w : wL_isTrain_J76 K c5 x0 x1 x2 x3 x4 x6 y0 h) : X mL_isTrain 12 (KI K) T0 (rc0 + 3) (rs0 + 18) 76 [(0, .ref x0), (1, .int x1), (2, .int x2), (3, .int x3), (4, .int x4), (6, .int x6)] [.int y0] h := by
  unfold wL_isTrain_J76 at w
  refine X_iload (j := 4) (show decode cL_isTrain 76 = .ok (.iload 4, 2) by decide +kernel) rfl ?_
  refine X_iload_n (j := 1) (show decode cL_isTrain 78 = .ok (.iload_n 1, 1) by decide +kernel) rfl rfl ?_
  refine X_icmp_ne (tgt := 86) (show decode cL_isTrain 79 = .ok (.if_icmp .ne 7, 3) by decide +kernel) (by decide) ⟨fun c12 => ?_, fun c12 => ?_⟩
  · have w := w.1 c12
    refine X_iconst (v := (nI 0)) (show decode cL_isTrain 86 = .ok (.iconst 0, 1) by decide +kernel) (by decide) ?_
    exact kL_isTrain_J87 hc5 _ _ _ _ _ _ _ _ _ w
  · have w := w.2 c12
    refine X_iconst (v := (nI 1)) (show decode cL_isTrain 82 = .ok (.iconst 1, 1) by decide +kernel) (by decide) ?_
    refine X_goto (tgt := 87) (show decode cL_isTrain 83 = .ok (.goto 4, 3) by decide +kernel) (by decide) ?_
    exact kL_isTrain_J87 hc5 _ _ _ _ _ _ _ _ _ w
set_option maxRecDepth 100000 in
set_option maxHeartbeats 4000000 in
theorem kL_isTrain_J64 {rc0 rs0 : Nat} {K : Int32 → AH → Prop} {c5 : Nat → Int32 → Int32 → Int32 → Int32 → AH → Prop} (hc5 : ∀ x0 x1 x2 x3 x4 h, c5 x0 x1 x2 x3 x4 h → X mL_isTrain 12 (KI K) T0 rc0 rs0 5 [(0, .ref x0), (1, .int x1), (2, .int x2), (3, .int x3), (4, .int x4)] [] h) (x0 : Nat) (x1 : Int32) (x2 : Int32) (x3 : Int32) (x4 : Int32) (x6 : Int32) (h : AH) (w : wL_isTrain_J64 K c5 x0 x1 x2 x3 x4 x6 h) : X mL_isTrain 12 (KI K) T0 (rc0 + 3) (rs0 + 18) 64 [(0, .ref x0), (1, .int x1), (2, .int x2), (3, .int x3), (4, .int x4), (6, .int x6)] [] h := by
  unfold wL_isTrain_J64 at w
  refine X_iload (j := 5) (show decode cL_isTrain 64 = .ok (.iload 6, 2) by decide +kernel) rfl ?_
  refine X_bipush (v := (-78)) (show decode cL_isTrain 66 = .ok (.bipush (-78), 2) by decide +kernel) (by decide) ?_
  refine X_icmp_ne (tgt := 75) (show decode cL_isTrain 68 = .ok (.if_icmp .ne 7, 3) by decide +kernel) (by decide) ⟨fun c11 => ?_, fun c11 => ?_⟩
  · have w := w.1 c11
    refine X_iconst (v := (nI 0)) (show decode cL_isTrain 75 = .ok (.iconst 0, 1) by decide +kernel) (by decide) ?_
    exact kL_isTrain_J76 hc5 _ _ _ _ _ _ _ _ w
  · have w := w.2 c11
    refine X_iconst (v := (nI 1)) (show decode cL_isTrain 71 = .ok (.iconst 1, 1) by decide +kernel) (by decide) ?_
    refine X_goto (tgt := 76) (show decode cL_isTrain 72 = .ok (.goto 4, 3) by decide +kernel) (by decide) ?_
    exact kL_isTrain_J76 hc5 _ _ _ _ _ _ _ _ w
set_option maxRecDepth 100000 in
set_option maxHeartbeats 4000000 in
theorem kL_isTrain_L5 {K : Int32 → AH → Prop} {c110 : Nat → Int32 → Int32 → AH → Prop} (hc110 : ∀ x0 x1 x3 h, c110 x0 x1 x3 h → X mL_isTrain 12 (KI K) T0 58 8348 110 [(0, .ref x0), (1, .int x1), (3, .int x3)] [] h)  : ∀ (n : Nat) (b : Nat) (x0 : Nat) (x1 : Int32) (x2 : Int32) (x3 : Int32) (x4 : Int32) (h : AH), wL_isTrain_L5 K c110  n b x0 x1 x2 x3 x4 h → X mL_isTrain 12 (KI K) T0 (b * 9 + 58) (b * 54 + 8348) 5 [(0, .ref x0), (1, .int x1), (2, .int x2), (3, .int x3), (4, .int x4)] [] h := by
  intro n
  induction n with
  | zero => intro _ _ _ _ _ _ _ w; exact w.elim
  | succ n ih =>
    intro b x0 x1 x2 x3 x4 h w
    rw [wL_isTrain_L5] at w
    refine X_iload (j := 4) (show decode cL_isTrain 5 = .ok (.iload 4, 2) by decide +kernel) rfl ?_
    refine X_iload_n (j := 2) (show decode cL_isTrain 7 = .ok (.iload_n 2, 1) by decide +kernel) rfl rfl ?_
    refine X_icmp_ge (tgt := 110) (show decode cL_isTrain 8 = .ok (.if_icmp .ge 102, 3) by decide +kernel) (by decide) ⟨fun c1 => ?_, fun c1 => ?_⟩
    · have w := w.1 c1
      refine X_room (rc' := 58) (rs' := 8348) (by omega) (by omega) ?_
      refine X_pick (ls' := [(0, .ref _), (1, .int _), (3, .int _)]) [0, 1, 3] rfl ?_
      exact hc110 _ _ _ _ w
    · have w := w.2 c1
      refine X_aload_n (j := 0) (show decode cL_isTrain 11 = .ok (.aload_n 0, 1) by decide +kernel) rfl rfl ?_
      refine X_iload (j := 4) (show decode cL_isTrain 12 = .ok (.iload 4, 2) by decide +kernel) rfl ?_
      obtain ⟨s21, w⟩ := w
      refine X_vI (rc' := (b * 9 + 58)) (rs' := (b * 54 + 8348)) (as := [.int _]) mv_L_238 (show decode cL_isTrain 14 = .ok (.invokevirtual 238, 3) by decide +kernel) (by decide) (by omega) (by omega) rfl rfl (Nat.le_of_ble_eq_true rfl) (rcvD s21 (by decide) rfl) (kX9_isPresent w) (fun E h hk => hk.elim) (fun r3 h2 w => ?_)
      refine X_if_eq (tgt := 104) (show decode cL_isTrain 17 = .ok (.ifCond .eq 87, 3) by decide +kernel) (by decide) ⟨fun c4 => ?_, fun c4 => ?_⟩
      · have w := w.1 c4
        refine X_iinc (j := 4) (v := _ + (nI 1)) (ls' := [(0, .ref _), (1, .int _), (2, .int _), (3, .int _), (4, .int _)]) (show decode cL_isTrain 104 = .ok (.iinc 4 1, 3) by decide +kernel) rfl rfl (Nat.le_of_ble_eq_true rfl) rfl ?_
        refine X_goto (tgt := 5) (show decode cL_isTrain 107 = .ok (.goto (-102), 3) by decide +kernel) (by decide) ?_
        exact ih b _ _ _ _ _ _ w
      · have w := w.2 c4
        refine X_aload_n (j := 0) (show decode cL_isTrain 20 = .ok (.aload_n 0, 1) by decide +kernel) rfl rfl ?_
        refine X_iload_n (j := 1) (show decode cL_isTrain 21 = .ok (.iload_n 1, 1) by decide +kernel) rfl rfl ?_
        refine X_iload (j := 4) (show decode cL_isTrain 22 = .ok (.iload 4, 2) by decide +kernel) rfl ?_
        obtain ⟨s5, w⟩ := w
        refine X_room (rc' := ((b - 1) * 9 + 67)) (rs' := ((b - 1) * 54 + 8402)) (by omega) (by omega) ?_
        refine X_sH (rc' := ((b - 1) * 9 + 65)) (rs' := ((b - 1) * 54 + 8390)) (as := [.ref _, .int _, .int _]) msh_L_327 (show decode cL_isTrain 24 = .ok (.invokestatic 327, 3) by decide +kernel) (by decide) (by omega) (by omega) rfl rfl (Nat.le_of_ble_eq_true rfl) (kL_waitsFor w) (fun r7 h6 w => ?_)
        refine X_istore (ls' := [(0, .ref _), (1, .int _), (2, .int _), (3, .int _), (4, .int _), (5, .int _)]) (show decode cL_isTrain 27 = .ok (.istore 5, 2) by decide +kernel) (by decide) rfl ?_
        refine X_iload_n (j := 3) (show decode cL_isTrain 29 = .ok (.iload_n 3, 1) by decide +kernel) rfl rfl ?_
        refine X_iload (j := 5) (show decode cL_isTrain 30 = .ok (.iload 5, 2) by decide +kernel) rfl ?_
        refine X_iadd (show decode cL_isTrain 32 = .ok (.iadd, 1) by decide +kernel) ?_
        refine X_istore_n (ls' := [(0, .ref _), (1, .int _), (2, .int _), (3, .int _), (4, .int _), (5, .int _)]) (show decode cL_isTrain 33 = .ok (.istore_n 3, 1) by decide +kernel) rfl (by decide) rfl ?_
        refine X_aload_n (j := 0) (show decode cL_isTrain 34 = .ok (.aload_n 0, 1) by decide +kernel) rfl rfl ?_
        refine X_iload_n (j := 1) (show decode cL_isTrain 35 = .ok (.iload_n 1, 1) by decide +kernel) rfl rfl ?_
        refine X_iload (j := 4) (show decode cL_isTrain 36 = .ok (.iload 4, 2) by decide +kernel) rfl ?_
        refine X_sH (rc' := ((b - 1) * 9 + 62)) (rs' := ((b - 1) * 54 + 8372)) (as := [.ref _, .int _, .int _]) msh_L_329 (show decode cL_isTrain 38 = .ok (.invokestatic 329, 3) by decide +kernel) (by decide) (by omega) (by omega) rfl rfl (Nat.le_of_ble_eq_true rfl) (kL_conflict w) (fun r9 h8 w => ?_)
        refine X_istore (ls' := [(0, .ref _), (1, .int _), (2, .int _), (3, .int _), (4, .int _), (5, .int _), (6, .int _)]) (show decode cL_isTrain 41 = .ok (.istore 6, 2) by decide +kernel) (by decide) rfl ?_
        refine X_iload (j := 5) (show decode cL_isTrain 43 = .ok (.iload 5, 2) by decide +kernel) rfl ?_
        refine X_iconst (v := (nI 1)) (show decode cL_isTrain 45 = .ok (.iconst 1, 1) by decide +kernel) (by decide) ?_
        refine X_icmp_ne (tgt := 64) (show decode cL_isTrain 46 = .ok (.if_icmp .ne 18, 3) by decide +kernel) (by decide) ⟨fun c10 => ?_, fun c10 => ?_⟩
        · have w := w.1 c10
          refine X_room (rc' := ((b - 1) * 9 + 61)) (rs' := ((b - 1) * 54 + 8366)) (by omega) (by omega) ?_
          refine X_pick (ls' := [(0, .ref _), (1, .int _), (2, .int _), (3, .int _), (4, .int _), (6, .int _)]) [0, 1, 2, 3, 4, 6] rfl ?_
          exact kL_isTrain_J64 (ih (b - 1)) _ _ _ _ _ _ _ w
        · have w := w.2 c10
          refine X_iload (j := 4) (show decode cL_isTrain 49 = .ok (.iload 4, 2) by decide +kernel) rfl ?_
          refine X_iload_n (j := 1) (show decode cL_isTrain 51 = .ok (.iload_n 1, 1) by decide +kernel) rfl rfl ?_
          refine X_icmp_eq (tgt := 102) (show decode cL_isTrain 52 = .ok (.if_icmp .eq 50, 3) by decide +kernel) (by decide) ⟨fun c17 => ?_, fun c17 => ?_⟩
          · have w := w.1 c17
            refine X_iconst (v := (nI 0)) (show decode cL_isTrain 102 = .ok (.iconst 0, 1) by decide +kernel) (by decide) ?_
            exact X_iret ⟨(show decode cL_isTrain 103 = .ok (.ireturn, 1) by decide +kernel), .boolean, rfl, (by decide)⟩ ⟨_, rfl, w⟩
          · have w := w.2 c17
            refine X_aload_n (j := 0) (show decode cL_isTrain 55 = .ok (.aload_n 0, 1) by decide +kernel) rfl rfl ?_
            refine X_iload_n (j := 1) (show decode cL_isTrain 56 = .ok (.iload_n 1, 1) by decide +kernel) rfl rfl ?_
            refine X_sH (rc' := ((b - 1) * 9 + 61)) (rs' := ((b - 1) * 54 + 8366)) (as := [.ref _, .int _]) msh_L_203 (show decode cL_isTrain 57 = .ok (.invokestatic 203, 3) by decide +kernel) (by decide) (by omega) (by omega) rfl rfl (Nat.le_of_ble_eq_true rfl) (kL_hasRoute w) (fun r19 h18 w => ?_)
            refine X_iconst (v := (nI 1)) (show decode cL_isTrain 60 = .ok (.iconst 1, 1) by decide +kernel) (by decide) ?_
            refine X_icmp_eq (tgt := 102) (show decode cL_isTrain 61 = .ok (.if_icmp .eq 41, 3) by decide +kernel) (by decide) ⟨fun c20 => ?_, fun c20 => ?_⟩
            · have w := w.1 c20
              refine X_iconst (v := (nI 0)) (show decode cL_isTrain 102 = .ok (.iconst 0, 1) by decide +kernel) (by decide) ?_
              exact X_iret ⟨(show decode cL_isTrain 103 = .ok (.ireturn, 1) by decide +kernel), .boolean, rfl, (by decide)⟩ ⟨_, rfl, w⟩
            · have w := w.2 c20
              refine X_pick (ls' := [(0, .ref _), (1, .int _), (2, .int _), (3, .int _), (4, .int _), (6, .int _)]) [0, 1, 2, 3, 4, 6] rfl ?_
              exact kL_isTrain_J64 (ih (b - 1)) _ _ _ _ _ _ _ w
set_option maxRecDepth 100000 in
set_option maxHeartbeats 4000000 in
theorem kL_isTrain_J303 {K : Int32 → AH → Prop}   (x0 : Nat) (x1 : Int32) (x5 : Int32) (x7 : Int32) (y0 : Int32) (h : AH) (w : wL_isTrain_J303 K  x0 x1 x5 x7 y0 h) : X mL_isTrain 12 (KI K) T0 34 8204 303 [(0, .ref x0), (1, .int x1), (5, .int x5), (7, .int x7)] [.int y0] h := by
  unfold wL_isTrain_J303 at w
  refine X_istore (ls' := [(0, .ref _), (1, .int _), (5, .int _), (7, .int _), (9, .int _)]) (show decode cL_isTrain 303 = .ok (.istore 9, 2) by decide +kernel) (by decide) rfl ?_
  refine X_aload_n (j := 0) (show decode cL_isTrain 305 = .ok (.aload_n 0, 1) by decide +kernel) rfl rfl ?_
  refine X_iload_n (j := 1) (show decode cL_isTrain 306 = .ok (.iload_n 1, 1) by decide +kernel) rfl rfl ?_
  refine X_sH (rc' := 1) (rs' := 6) (as := [.ref _, .int _]) msh_L_333 (show decode cL_isTrain 307 = .ok (.invokestatic 333, 3) by decide +kernel) (by decide) (Nat.le_of_ble_eq_true rfl) (Nat.le_of_ble_eq_true rfl) rfl rfl (Nat.le_of_ble_eq_true rfl) (kL_writeTrain w) (fun r48 h47 w => ?_)
  refine X_istore (ls' := [(0, .ref _), (1, .int _), (5, .int _), (7, .int _), (9, .int _), (10, .int _)]) (show decode cL_isTrain 310 = .ok (.istore 10, 2) by decide +kernel) (by decide) rfl ?_
  refine X_iload (j := 2) (show decode cL_isTrain 312 = .ok (.iload 5, 2) by decide +kernel) rfl ?_
  refine X_if_eq (tgt := 345) (show decode cL_isTrain 314 = .ok (.ifCond .eq 31, 3) by decide +kernel) (by decide) ⟨fun c49 => ?_, fun c49 => ?_⟩
  · have w := w.1 c49
    refine X_iconst (v := (nI 0)) (show decode cL_isTrain 345 = .ok (.iconst 0, 1) by decide +kernel) (by decide) ?_
    exact X_iret ⟨(show decode cL_isTrain 346 = .ok (.ireturn, 1) by decide +kernel), .boolean, rfl, (by decide)⟩ ⟨_, rfl, w⟩
  · have w := w.2 c49
    refine X_iload (j := 3) (show decode cL_isTrain 317 = .ok (.iload 7, 2) by decide +kernel) rfl ?_
    refine X_if_eq (tgt := 345) (show decode cL_isTrain 319 = .ok (.ifCond .eq 26, 3) by decide +kernel) (by decide) ⟨fun c50 => ?_, fun c50 => ?_⟩
    · have w := w.1 c50
      refine X_iconst (v := (nI 0)) (show decode cL_isTrain 345 = .ok (.iconst 0, 1) by decide +kernel) (by decide) ?_
      exact X_iret ⟨(show decode cL_isTrain 346 = .ok (.ireturn, 1) by decide +kernel), .boolean, rfl, (by decide)⟩ ⟨_, rfl, w⟩
    · have w := w.2 c50
      refine X_iload (j := 4) (show decode cL_isTrain 322 = .ok (.iload 9, 2) by decide +kernel) rfl ?_
      refine X_if_eq (tgt := 345) (show decode cL_isTrain 324 = .ok (.ifCond .eq 21, 3) by decide +kernel) (by decide) ⟨fun c51 => ?_, fun c51 => ?_⟩
      · have w := w.1 c51
        refine X_iconst (v := (nI 0)) (show decode cL_isTrain 345 = .ok (.iconst 0, 1) by decide +kernel) (by decide) ?_
        exact X_iret ⟨(show decode cL_isTrain 346 = .ok (.ireturn, 1) by decide +kernel), .boolean, rfl, (by decide)⟩ ⟨_, rfl, w⟩
      · have w := w.2 c51
        refine X_aload_n (j := 0) (show decode cL_isTrain 327 = .ok (.aload_n 0, 1) by decide +kernel) rfl rfl ?_
        refine X_iload_n (j := 1) (show decode cL_isTrain 328 = .ok (.iload_n 1, 1) by decide +kernel) rfl rfl ?_
        refine X_sH (rc' := 0) (rs' := 0) (as := [.ref _, .int _]) msh_L_243 (show decode cL_isTrain 329 = .ok (.invokestatic 243, 3) by decide +kernel) (by decide) (Nat.le_of_ble_eq_true rfl) (Nat.le_of_ble_eq_true rfl) rfl rfl (Nat.le_of_ble_eq_true rfl) (kL_delay w) (fun r53 h52 w => ?_)
        refine X_if_lt (tgt := 345) (show decode cL_isTrain 332 = .ok (.ifCond .lt 13, 3) by decide +kernel) (by decide) ⟨fun c54 => ?_, fun c54 => ?_⟩
        · have w := w.1 c54
          refine X_iconst (v := (nI 0)) (show decode cL_isTrain 345 = .ok (.iconst 0, 1) by decide +kernel) (by decide) ?_
          exact X_iret ⟨(show decode cL_isTrain 346 = .ok (.ireturn, 1) by decide +kernel), .boolean, rfl, (by decide)⟩ ⟨_, rfl, w⟩
        · have w := w.2 c54
          refine X_iload (j := 5) (show decode cL_isTrain 335 = .ok (.iload 10, 2) by decide +kernel) rfl ?_
          refine X_iconst (v := (nI 5)) (show decode cL_isTrain 337 = .ok (.iconst 5, 1) by decide +kernel) (by decide) ?_
          refine X_icmp_lt (tgt := 345) (show decode cL_isTrain 338 = .ok (.if_icmp .lt 7, 3) by decide +kernel) (by decide) ⟨fun c55 => ?_, fun c55 => ?_⟩
          · have w := w.1 c55
            refine X_iconst (v := (nI 0)) (show decode cL_isTrain 345 = .ok (.iconst 0, 1) by decide +kernel) (by decide) ?_
            exact X_iret ⟨(show decode cL_isTrain 346 = .ok (.ireturn, 1) by decide +kernel), .boolean, rfl, (by decide)⟩ ⟨_, rfl, w⟩
          · have w := w.2 c55
            refine X_iconst (v := (nI 1)) (show decode cL_isTrain 341 = .ok (.iconst 1, 1) by decide +kernel) (by decide) ?_
            refine X_goto (tgt := 346) (show decode cL_isTrain 342 = .ok (.goto 4, 3) by decide +kernel) (by decide) ?_
            exact X_iret ⟨(show decode cL_isTrain 346 = .ok (.ireturn, 1) by decide +kernel), .boolean, rfl, (by decide)⟩ ⟨_, rfl, w⟩
set_option maxRecDepth 100000 in
set_option maxHeartbeats 4000000 in
theorem kL_isTrain_J302 {K : Int32 → AH → Prop}   (x0 : Nat) (x1 : Int32) (x5 : Int32) (x7 : Int32) (h : AH) (w : wL_isTrain_J302 K  x0 x1 x5 x7 h) : X mL_isTrain 12 (KI K) T0 34 8204 302 [(0, .ref x0), (1, .int x1), (5, .int x5), (7, .int x7)] [] h := by
  unfold wL_isTrain_J302 at w
  refine X_iconst (v := (nI 0)) (show decode cL_isTrain 302 = .ok (.iconst 0, 1) by decide +kernel) (by decide) ?_
  exact kL_isTrain_J303  _ _ _ _ _ _ w
set_option maxRecDepth 100000 in
set_option maxHeartbeats 4000000 in
theorem kL_isTrain_J277 {K : Int32 → AH → Prop}   (x0 : Nat) (x1 : Int32) (x5 : Int32) (x7 : Int32) (h : AH) (w : wL_isTrain_J277 K  x0 x1 x5 x7 h) : X mL_isTrain 12 (KI K) T0 34 8204 277 [(0, .ref x0), (1, .int x1), (5, .int x5), (7, .int x7)] [] h := by
  unfold wL_isTrain_J277 at w
  refine X_iconst (v := (nI 0)) (show decode cL_isTrain 277 = .ok (.iconst 0, 1) by decide +kernel) (by decide) ?_
  refine X_goto (tgt := 303) (show decode cL_isTrain 278 = .ok (.goto 25, 3) by decide +kernel) (by decide) ?_
  exact kL_isTrain_J303  _ _ _ _ _ _ w
set_option maxRecDepth 100000 in
set_option maxHeartbeats 4000000 in
theorem kL_isTrain_J230 {K : Int32 → AH → Prop}   (x0 : Nat) (x1 : Int32) (x4 : Int32) (x5 : Int32) (y0 : Int32) (h : AH) (w : wL_isTrain_J230 K  x0 x1 x4 x5 y0 h) : X mL_isTrain 12 (KI K) T0 42 8252 230 [(0, .ref x0), (1, .int x1), (4, .int x4), (5, .int x5)] [.int y0] h := by
  unfold wL_isTrain_J230 at w
  refine X_istore (ls' := [(0, .ref _), (1, .int _), (4, .int _), (5, .int _), (7, .int _)]) (show decode cL_isTrain 230 = .ok (.istore 7, 2) by decide +kernel) (by decide) rfl ?_
  refine X_aload_n (j := 0) (show decode cL_isTrain 232 = .ok (.aload_n 0, 1) by decide +kernel) rfl rfl ?_
  refine X_iload_n (j := 1) (show decode cL_isTrain 233 = .ok (.iload_n 1, 1) by decide +kernel) rfl rfl ?_
  refine X_sH (rc' := 40) (rs' := 8240) (as := [.ref _, .int _]) msh_L_207 (show decode cL_isTrain 234 = .ok (.invokestatic 207, 3) by decide +kernel) (by decide) (Nat.le_of_ble_eq_true rfl) (Nat.le_of_ble_eq_true rfl) rfl rfl (Nat.le_of_ble_eq_true rfl) (kL_minutesUntilArrival w) (fun r44 h43 w => ?_)
  refine X_istore (ls' := [(0, .ref _), (1, .int _), (4, .int _), (5, .int _), (7, .int _), (8, .int _)]) (show decode cL_isTrain 237 = .ok (.istore 8, 2) by decide +kernel) (by decide) rfl ?_
  refine X_iload (j := 2) (show decode cL_isTrain 239 = .ok (.iload 4, 2) by decide +kernel) rfl ?_
  refine X_if_eq (tgt := 281) (show decode cL_isTrain 241 = .ok (.ifCond .eq 40, 3) by decide +kernel) (by decide) ⟨fun c45 => ?_, fun c45 => ?_⟩
  · have w := w.1 c45
    refine X_iload (j := 5) (show decode cL_isTrain 281 = .ok (.iload 8, 2) by decide +kernel) rfl ?_
    refine X_bipush (v := (-75)) (show decode cL_isTrain 283 = .ok (.bipush (-75), 2) by decide +kernel) (by decide) ?_
    refine X_icmp_ne (tgt := 302) (show decode cL_isTrain 285 = .ok (.if_icmp .ne 17, 3) by decide +kernel) (by decide) ⟨fun c46 => ?_, fun c46 => ?_⟩
    · have w := w.1 c46
      refine X_room (rc' := 34) (rs' := 8204) (Nat.le_of_ble_eq_true rfl) (Nat.le_of_ble_eq_true rfl) ?_
      refine X_pick (ls' := [(0, .ref _), (1, .int _), (5, .int _), (7, .int _)]) [0, 1, 3, 4] rfl ?_
      exact kL_isTrain_J302  _ _ _ _ _ w
    · have w := w.2 c46
      refine X_aload_n (j := 0) (show decode cL_isTrain 288 = .ok (.aload_n 0, 1) by decide +kernel) rfl rfl ?_
      refine X_iload_n (j := 1) (show decode cL_isTrain 289 = .ok (.iload_n 1, 1) by decide +kernel) rfl rfl ?_
      refine X_sH (rc' := 38) (rs' := 8228) (as := [.ref _, .int _]) msh_L_209 (show decode cL_isTrain 290 = .ok (.invokestatic 209, 3) by decide +kernel) (by decide) (Nat.le_of_ble_eq_true rfl) (Nat.le_of_ble_eq_true rfl) rfl rfl (Nat.le_of_ble_eq_true rfl) (kL_minutesUntilNext w) (fun r57 h56 w => ?_)
      refine X_bipush (v := (-75)) (show decode cL_isTrain 293 = .ok (.bipush (-75), 2) by decide +kernel) (by decide) ?_
      refine X_icmp_ne (tgt := 302) (show decode cL_isTrain 295 = .ok (.if_icmp .ne 7, 3) by decide +kernel) (by decide) ⟨fun c58 => ?_, fun c58 => ?_⟩
      · have w := w.1 c58
        refine X_room (rc' := 34) (rs' := 8204) (Nat.le_of_ble_eq_true rfl) (Nat.le_of_ble_eq_true rfl) ?_
        refine X_pick (ls' := [(0, .ref _), (1, .int _), (5, .int _), (7, .int _)]) [0, 1, 3, 4] rfl ?_
        exact kL_isTrain_J302  _ _ _ _ _ w
      · have w := w.2 c58
        refine X_iconst (v := (nI 1)) (show decode cL_isTrain 298 = .ok (.iconst 1, 1) by decide +kernel) (by decide) ?_
        refine X_goto (tgt := 303) (show decode cL_isTrain 299 = .ok (.goto 4, 3) by decide +kernel) (by decide) ?_
        refine X_room (rc' := 34) (rs' := 8204) (Nat.le_of_ble_eq_true rfl) (Nat.le_of_ble_eq_true rfl) ?_
        refine X_pick (ls' := [(0, .ref _), (1, .int _), (5, .int _), (7, .int _)]) [0, 1, 3, 4] rfl ?_
        exact kL_isTrain_J303  _ _ _ _ _ _ w
  · have w := w.2 c45
    refine X_iload (j := 5) (show decode cL_isTrain 244 = .ok (.iload 8, 2) by decide +kernel) rfl ?_
    refine X_aload_n (j := 0) (show decode cL_isTrain 246 = .ok (.aload_n 0, 1) by decide +kernel) rfl rfl ?_
    refine X_iload_n (j := 1) (show decode cL_isTrain 247 = .ok (.iload_n 1, 1) by decide +kernel) rfl rfl ?_
    refine X_sH (rc' := 38) (rs' := 8228) (as := [.ref _, .int _]) msh_L_209 (show decode cL_isTrain 248 = .ok (.invokestatic 209, 3) by decide +kernel) (by decide) (Nat.le_of_ble_eq_true rfl) (Nat.le_of_ble_eq_true rfl) rfl rfl (Nat.le_of_ble_eq_true rfl) (kL_minutesUntilNext w) (fun r60 h59 w => ?_)
    refine X_icmp_lt (tgt := 277) (show decode cL_isTrain 251 = .ok (.if_icmp .lt 26, 3) by decide +kernel) (by decide) ⟨fun c61 => ?_, fun c61 => ?_⟩
    · have w := w.1 c61
      refine X_room (rc' := 34) (rs' := 8204) (Nat.le_of_ble_eq_true rfl) (Nat.le_of_ble_eq_true rfl) ?_
      refine X_pick (ls' := [(0, .ref _), (1, .int _), (5, .int _), (7, .int _)]) [0, 1, 3, 4] rfl ?_
      exact kL_isTrain_J277  _ _ _ _ _ w
    · have w := w.2 c61
      refine X_aload_n (j := 0) (show decode cL_isTrain 254 = .ok (.aload_n 0, 1) by decide +kernel) rfl rfl ?_
      refine X_iload_n (j := 1) (show decode cL_isTrain 255 = .ok (.iload_n 1, 1) by decide +kernel) rfl rfl ?_
      refine X_sH (rc' := 36) (rs' := 8216) (as := [.ref _, .int _]) msh_L_209 (show decode cL_isTrain 256 = .ok (.invokestatic 209, 3) by decide +kernel) (by decide) (Nat.le_of_ble_eq_true rfl) (Nat.le_of_ble_eq_true rfl) rfl rfl (Nat.le_of_ble_eq_true rfl) (kL_minutesUntilNext w) (fun r63 h62 w => ?_)
      refine X_iconst (v := (nI 1)) (show decode cL_isTrain 259 = .ok (.iconst 1, 1) by decide +kernel) (by decide) ?_
      refine X_icmp_lt (tgt := 277) (show decode cL_isTrain 260 = .ok (.if_icmp .lt 17, 3) by decide +kernel) (by decide) ⟨fun c64 => ?_, fun c64 => ?_⟩
      · have w := w.1 c64
        refine X_room (rc' := 34) (rs' := 8204) (Nat.le_of_ble_eq_true rfl) (Nat.le_of_ble_eq_true rfl) ?_
        refine X_pick (ls' := [(0, .ref _), (1, .int _), (5, .int _), (7, .int _)]) [0, 1, 3, 4] rfl ?_
        exact kL_isTrain_J277  _ _ _ _ _ w
      · have w := w.2 c64
        refine X_aload_n (j := 0) (show decode cL_isTrain 263 = .ok (.aload_n 0, 1) by decide +kernel) rfl rfl ?_
        refine X_iload_n (j := 1) (show decode cL_isTrain 264 = .ok (.iload_n 1, 1) by decide +kernel) rfl rfl ?_
        refine X_sH (rc' := 34) (rs' := 8204) (as := [.ref _, .int _]) msh_L_331 (show decode cL_isTrain 265 = .ok (.invokestatic 331, 3) by decide +kernel) (by decide) (Nat.le_of_ble_eq_true rfl) (Nat.le_of_ble_eq_true rfl) rfl rfl (Nat.le_of_ble_eq_true rfl) (kL_minutesUntilArrivalByPassing w) (fun r66 h65 w => ?_)
        refine X_iload (j := 5) (show decode cL_isTrain 268 = .ok (.iload 8, 2) by decide +kernel) rfl ?_
        refine X_icmp_ne (tgt := 277) (show decode cL_isTrain 270 = .ok (.if_icmp .ne 7, 3) by decide +kernel) (by decide) ⟨fun c67 => ?_, fun c67 => ?_⟩
        · have w := w.1 c67
          refine X_pick (ls' := [(0, .ref _), (1, .int _), (5, .int _), (7, .int _)]) [0, 1, 3, 4] rfl ?_
          exact kL_isTrain_J277  _ _ _ _ _ w
        · have w := w.2 c67
          refine X_iconst (v := (nI 1)) (show decode cL_isTrain 273 = .ok (.iconst 1, 1) by decide +kernel) (by decide) ?_
          refine X_goto (tgt := 303) (show decode cL_isTrain 274 = .ok (.goto 29, 3) by decide +kernel) (by decide) ?_
          refine X_pick (ls' := [(0, .ref _), (1, .int _), (5, .int _), (7, .int _)]) [0, 1, 3, 4] rfl ?_
          exact kL_isTrain_J303  _ _ _ _ _ _ w
set_option maxRecDepth 100000 in
set_option maxHeartbeats 4000000 in
theorem kL_isTrain_J225 {K : Int32 → AH → Prop}   (x0 : Nat) (x1 : Int32) (x4 : Int32) (x5 : Int32) (h : AH) (w : wL_isTrain_J225 K  x0 x1 x4 x5 h) : X mL_isTrain 12 (KI K) T0 42 8252 225 [(0, .ref x0), (1, .int x1), (4, .int x4), (5, .int x5)] [] h := by
  unfold wL_isTrain_J225 at w
  refine X_iconst (v := (nI 1)) (show decode cL_isTrain 225 = .ok (.iconst 1, 1) by decide +kernel) (by decide) ?_
  refine X_goto (tgt := 230) (show decode cL_isTrain 226 = .ok (.goto 4, 3) by decide +kernel) (by decide) ?_
  exact kL_isTrain_J230  _ _ _ _ _ _ w
set_option maxRecDepth 100000 in
set_option maxHeartbeats 4000000 in
theorem kL_isTrain_J229 {K : Int32 → AH → Prop}   (x0 : Nat) (x1 : Int32) (x4 : Int32) (x5 : Int32) (h : AH) (w : wL_isTrain_J229 K  x0 x1 x4 x5 h) : X mL_isTrain 12 (KI K) T0 42 8252 229 [(0, .ref x0), (1, .int x1), (4, .int x4), (5, .int x5)] [] h := by
  unfold wL_isTrain_J229 at w
  refine X_iconst (v := (nI 0)) (show decode cL_isTrain 229 = .ok (.iconst 0, 1) by decide +kernel) (by decide) ?_
  exact kL_isTrain_J230  _ _ _ _ _ _ w
set_option maxRecDepth 100000 in
set_option maxHeartbeats 4000000 in
theorem kL_isTrain_J185 {K : Int32 → AH → Prop}   (x0 : Nat) (x1 : Int32) (x3 : Int32) (x4 : Int32) (y0 : Int32) (h : AH) (w : wL_isTrain_J185 K  x0 x1 x3 x4 y0 h) : X mL_isTrain 12 (KI K) T0 48 8288 185 [(0, .ref x0), (1, .int x1), (3, .int x3), (4, .int x4)] [.int y0] h := by
  unfold wL_isTrain_J185 at w
  refine X_istore (ls' := [(0, .ref _), (1, .int _), (3, .int _), (4, .int _), (5, .int _)]) (show decode cL_isTrain 185 = .ok (.istore 5, 2) by decide +kernel) (by decide) rfl ?_
  refine X_aload_n (j := 0) (show decode cL_isTrain 187 = .ok (.aload_n 0, 1) by decide +kernel) rfl rfl ?_
  refine X_aload_n (j := 0) (show decode cL_isTrain 188 = .ok (.aload_n 0, 1) by decide +kernel) rfl rfl ?_
  refine X_iload_n (j := 1) (show decode cL_isTrain 189 = .ok (.iload_n 1, 1) by decide +kernel) rfl rfl ?_
  refine X_sH (rc' := 47) (rs' := 8282) (as := [.ref _, .int _]) msh_L_227 (show decode cL_isTrain 190 = .ok (.invokestatic 227, 3) by decide +kernel) (by decide) (Nat.le_of_ble_eq_true rfl) (Nat.le_of_ble_eq_true rfl) rfl rfl (Nat.le_of_ble_eq_true rfl) (kL_blockOf w) (fun r35 h34 w => ?_)
  refine X_aload_n (j := 0) (show decode cL_isTrain 193 = .ok (.aload_n 0, 1) by decide +kernel) rfl rfl ?_
  refine X_iload_n (j := 1) (show decode cL_isTrain 194 = .ok (.iload_n 1, 1) by decide +kernel) rfl rfl ?_
  refine X_sH (rc' := 46) (rs' := 8276) (as := [.ref _, .int _]) msh_L_229 (show decode cL_isTrain 195 = .ok (.invokestatic 229, 3) by decide +kernel) (by decide) (Nat.le_of_ble_eq_true rfl) (Nat.le_of_ble_eq_true rfl) rfl rfl (Nat.le_of_ble_eq_true rfl) (kL_destination w) (fun r37 h36 w => ?_)
  refine X_sH (rc' := 43) (rs' := 8258) (as := [.ref _, .int _, .int _]) msh_L_231 (show decode cL_isTrain 198 = .ok (.invokestatic 231, 3) by decide +kernel) (by decide) (Nat.le_of_ble_eq_true rfl) (Nat.le_of_ble_eq_true rfl) rfl rfl (Nat.le_of_ble_eq_true rfl) (kL_routeLength w) (fun r39 h38 w => ?_)
  refine X_istore (ls' := [(0, .ref _), (1, .int _), (3, .int _), (4, .int _), (5, .int _), (6, .int _)]) (show decode cL_isTrain 201 = .ok (.istore 6, 2) by decide +kernel) (by decide) rfl ?_
  refine X_aload_n (j := 0) (show decode cL_isTrain 203 = .ok (.aload_n 0, 1) by decide +kernel) rfl rfl ?_
  refine X_iload_n (j := 1) (show decode cL_isTrain 204 = .ok (.iload_n 1, 1) by decide +kernel) rfl rfl ?_
  refine X_sH (rc' := 42) (rs' := 8252) (as := [.ref _, .int _]) msh_L_205 (show decode cL_isTrain 205 = .ok (.invokestatic 205, 3) by decide +kernel) (by decide) (Nat.le_of_ble_eq_true rfl) (Nat.le_of_ble_eq_true rfl) rfl rfl (Nat.le_of_ble_eq_true rfl) (kL_isClear w) (fun r41 h40 w => ?_)
  refine X_if_eq (tgt := 225) (show decode cL_isTrain 208 = .ok (.ifCond .eq 17, 3) by decide +kernel) (by decide) ⟨fun c42 => ?_, fun c42 => ?_⟩
  · have w := w.1 c42
    refine X_pick (ls' := [(0, .ref _), (1, .int _), (4, .int _), (5, .int _)]) [0, 1, 3, 4] rfl ?_
    exact kL_isTrain_J225  _ _ _ _ _ w
  · have w := w.2 c42
    refine X_iload (j := 3) (show decode cL_isTrain 211 = .ok (.iload 4, 2) by decide +kernel) rfl ?_
    refine X_if_ne (tgt := 229) (show decode cL_isTrain 213 = .ok (.ifCond .ne 16, 3) by decide +kernel) (by decide) ⟨fun c68 => ?_, fun c68 => ?_⟩
    · have w := w.1 c68
      refine X_pick (ls' := [(0, .ref _), (1, .int _), (4, .int _), (5, .int _)]) [0, 1, 3, 4] rfl ?_
      exact kL_isTrain_J229  _ _ _ _ _ w
    · have w := w.2 c68
      refine X_iload (j := 5) (show decode cL_isTrain 216 = .ok (.iload 6, 2) by decide +kernel) rfl ?_
      refine X_if_lt (tgt := 229) (show decode cL_isTrain 218 = .ok (.ifCond .lt 11, 3) by decide +kernel) (by decide) ⟨fun c69 => ?_, fun c69 => ?_⟩
      · have w := w.1 c69
        refine X_pick (ls' := [(0, .ref _), (1, .int _), (4, .int _), (5, .int _)]) [0, 1, 3, 4] rfl ?_
        exact kL_isTrain_J229  _ _ _ _ _ w
      · have w := w.2 c69
        refine X_iload_n (j := 2) (show decode cL_isTrain 221 = .ok (.iload_n 3, 1) by decide +kernel) rfl rfl ?_
        refine X_if_ne (tgt := 229) (show decode cL_isTrain 222 = .ok (.ifCond .ne 7, 3) by decide +kernel) (by decide) ⟨fun c70 => ?_, fun c70 => ?_⟩
        · have w := w.1 c70
          refine X_pick (ls' := [(0, .ref _), (1, .int _), (4, .int _), (5, .int _)]) [0, 1, 3, 4] rfl ?_
          exact kL_isTrain_J229  _ _ _ _ _ w
        · have w := w.2 c70
          refine X_pick (ls' := [(0, .ref _), (1, .int _), (4, .int _), (5, .int _)]) [0, 1, 3, 4] rfl ?_
          exact kL_isTrain_J225  _ _ _ _ _ w
set_option maxRecDepth 100000 in
set_option maxHeartbeats 4000000 in
theorem kL_isTrain_J184 {K : Int32 → AH → Prop}   (x0 : Nat) (x1 : Int32) (x3 : Int32) (x4 : Int32) (h : AH) (w : wL_isTrain_J184 K  x0 x1 x3 x4 h) : X mL_isTrain 12 (KI K) T0 48 8288 184 [(0, .ref x0), (1, .int x1), (3, .int x3), (4, .int x4)] [] h := by
  unfold wL_isTrain_J184 at w
  refine X_iconst (v := (nI 0)) (show decode cL_isTrain 184 = .ok (.iconst 0, 1) by decide +kernel) (by decide) ?_
  exact kL_isTrain_J185  _ _ _ _ _ _ w
set_option maxRecDepth 100000 in
set_option maxHeartbeats 4000000 in
theorem kL_isTrain_J124 {K : Int32 → AH → Prop}   (x0 : Nat) (x1 : Int32) (x3 : Int32) (y0 : Int32) (h : AH) (w : wL_isTrain_J124 K  x0 x1 x3 y0 h) : X mL_isTrain 12 (KI K) T0 57 8342 124 [(0, .ref x0), (1, .int x1), (3, .int x3)] [.int y0] h := by
  unfold wL_isTrain_J124 at w
  refine X_istore (ls' := [(0, .ref _), (1, .int _), (3, .int _), (4, .int _)]) (show decode cL_isTrain 124 = .ok (.istore 4, 2) by decide +kernel) (by decide) rfl ?_
  refine X_aload_n (j := 0) (show decode cL_isTrain 126 = .ok (.aload_n 0, 1) by decide +kernel) rfl rfl ?_
  refine X_aload_n (j := 0) (show decode cL_isTrain 127 = .ok (.aload_n 0, 1) by decide +kernel) rfl rfl ?_
  refine X_iload_n (j := 1) (show decode cL_isTrain 128 = .ok (.iload_n 1, 1) by decide +kernel) rfl rfl ?_
  refine X_sH (rc' := 56) (rs' := 8336) (as := [.ref _, .int _]) msh_L_227 (show decode cL_isTrain 129 = .ok (.invokestatic 227, 3) by decide +kernel) (by decide) (Nat.le_of_ble_eq_true rfl) (Nat.le_of_ble_eq_true rfl) rfl rfl (Nat.le_of_ble_eq_true rfl) (kL_blockOf w) (fun r30 h29 w => ?_)
  refine X_sH (rc' := 54) (rs' := 8324) (as := [.ref _, .int _]) msh_L_311 (show decode cL_isTrain 132 = .ok (.invokestatic 311, 3) by decide +kernel) (by decide) (Nat.le_of_ble_eq_true rfl) (Nat.le_of_ble_eq_true rfl) rfl rfl (Nat.le_of_ble_eq_true rfl) (kL_trainAt w) (fun r32 h31 w => ?_)
  refine X_iload_n (j := 1) (show decode cL_isTrain 135 = .ok (.iload_n 1, 1) by decide +kernel) rfl rfl ?_
  refine X_icmp_ne (tgt := 184) (show decode cL_isTrain 136 = .ok (.if_icmp .ne 48, 3) by decide +kernel) (by decide) ⟨fun c33 => ?_, fun c33 => ?_⟩
  · have w := w.1 c33
    refine X_room (rc' := 48) (rs' := 8288) (Nat.le_of_ble_eq_true rfl) (Nat.le_of_ble_eq_true rfl) ?_
    exact kL_isTrain_J184  _ _ _ _ _ w
  · have w := w.2 c33
    refine X_aload_n (j := 0) (show decode cL_isTrain 139 = .ok (.aload_n 0, 1) by decide +kernel) rfl rfl ?_
    refine X_aload_n (j := 0) (show decode cL_isTrain 140 = .ok (.aload_n 0, 1) by decide +kernel) rfl rfl ?_
    refine X_iload_n (j := 1) (show decode cL_isTrain 141 = .ok (.iload_n 1, 1) by decide +kernel) rfl rfl ?_
    refine X_sH (rc' := 53) (rs' := 8318) (as := [.ref _, .int _]) msh_L_227 (show decode cL_isTrain 142 = .ok (.invokestatic 227, 3) by decide +kernel) (by decide) (Nat.le_of_ble_eq_true rfl) (Nat.le_of_ble_eq_true rfl) rfl rfl (Nat.le_of_ble_eq_true rfl) (kL_blockOf w) (fun r72 h71 w => ?_)
    refine X_sH (rc' := 52) (rs' := 8312) (as := [.ref _, .int _]) msh_L_245 (show decode cL_isTrain 145 = .ok (.invokestatic 245, 3) by decide +kernel) (by decide) (Nat.le_of_ble_eq_true rfl) (Nat.le_of_ble_eq_true rfl) rfl rfl (Nat.le_of_ble_eq_true rfl) (kL_blockState w) (fun r74 h73 w => ?_)
    refine X_bipush (v := (nI 102)) (show decode cL_isTrain 148 = .ok (.bipush 102, 2) by decide +kernel) (by decide) ?_
    refine X_icmp_eq (tgt := 184) (show decode cL_isTrain 150 = .ok (.if_icmp .eq 34, 3) by decide +kernel) (by decide) ⟨fun c75 => ?_, fun c75 => ?_⟩
    · have w := w.1 c75
      refine X_room (rc' := 48) (rs' := 8288) (Nat.le_of_ble_eq_true rfl) (Nat.le_of_ble_eq_true rfl) ?_
      exact kL_isTrain_J184  _ _ _ _ _ w
    · have w := w.2 c75
      refine X_aload_n (j := 0) (show decode cL_isTrain 153 = .ok (.aload_n 0, 1) by decide +kernel) rfl rfl ?_
      refine X_aload_n (j := 0) (show decode cL_isTrain 154 = .ok (.aload_n 0, 1) by decide +kernel) rfl rfl ?_
      refine X_iload_n (j := 1) (show decode cL_isTrain 155 = .ok (.iload_n 1, 1) by decide +kernel) rfl rfl ?_
      refine X_sH (rc' := 51) (rs' := 8306) (as := [.ref _, .int _]) msh_L_227 (show decode cL_isTrain 156 = .ok (.invokestatic 227, 3) by decide +kernel) (by decide) (Nat.le_of_ble_eq_true rfl) (Nat.le_of_ble_eq_true rfl) rfl rfl (Nat.le_of_ble_eq_true rfl) (kL_blockOf w) (fun r77 h76 w => ?_)
      refine X_sH (rc' := 50) (rs' := 8300) (as := [.ref _, .int _]) msh_L_245 (show decode cL_isTrain 159 = .ok (.invokestatic 245, 3) by decide +kernel) (by decide) (Nat.le_of_ble_eq_true rfl) (Nat.le_of_ble_eq_true rfl) rfl rfl (Nat.le_of_ble_eq_true rfl) (kL_blockState w) (fun r79 h78 w => ?_)
      refine X_bipush (v := (nI 114)) (show decode cL_isTrain 162 = .ok (.bipush 114, 2) by decide +kernel) (by decide) ?_
      refine X_icmp_eq (tgt := 184) (show decode cL_isTrain 164 = .ok (.if_icmp .eq 20, 3) by decide +kernel) (by decide) ⟨fun c80 => ?_, fun c80 => ?_⟩
      · have w := w.1 c80
        refine X_room (rc' := 48) (rs' := 8288) (Nat.le_of_ble_eq_true rfl) (Nat.le_of_ble_eq_true rfl) ?_
        exact kL_isTrain_J184  _ _ _ _ _ w
      · have w := w.2 c80
        refine X_aload_n (j := 0) (show decode cL_isTrain 167 = .ok (.aload_n 0, 1) by decide +kernel) rfl rfl ?_
        refine X_iload_n (j := 1) (show decode cL_isTrain 168 = .ok (.iload_n 1, 1) by decide +kernel) rfl rfl ?_
        refine X_sH (rc' := 49) (rs' := 8294) (as := [.ref _, .int _]) msh_L_227 (show decode cL_isTrain 169 = .ok (.invokestatic 227, 3) by decide +kernel) (by decide) (Nat.le_of_ble_eq_true rfl) (Nat.le_of_ble_eq_true rfl) rfl rfl (Nat.le_of_ble_eq_true rfl) (kL_blockOf w) (fun r82 h81 w => ?_)
        refine X_aload_n (j := 0) (show decode cL_isTrain 172 = .ok (.aload_n 0, 1) by decide +kernel) rfl rfl ?_
        refine X_iload_n (j := 1) (show decode cL_isTrain 173 = .ok (.iload_n 1, 1) by decide +kernel) rfl rfl ?_
        refine X_sH (rc' := 48) (rs' := 8288) (as := [.ref _, .int _]) msh_L_229 (show decode cL_isTrain 174 = .ok (.invokestatic 229, 3) by decide +kernel) (by decide) (Nat.le_of_ble_eq_true rfl) (Nat.le_of_ble_eq_true rfl) rfl rfl (Nat.le_of_ble_eq_true rfl) (kL_destination w) (fun r84 h83 w => ?_)
        refine X_icmp_eq (tgt := 184) (show decode cL_isTrain 177 = .ok (.if_icmp .eq 7, 3) by decide +kernel) (by decide) ⟨fun c85 => ?_, fun c85 => ?_⟩
        · have w := w.1 c85
          exact kL_isTrain_J184  _ _ _ _ _ w
        · have w := w.2 c85
          refine X_iconst (v := (nI 1)) (show decode cL_isTrain 180 = .ok (.iconst 1, 1) by decide +kernel) (by decide) ?_
          refine X_goto (tgt := 185) (show decode cL_isTrain 181 = .ok (.goto 4, 3) by decide +kernel) (by decide) ?_
          exact kL_isTrain_J185  _ _ _ _ _ _ w
set_option maxRecDepth 100000 in
set_option maxHeartbeats 4000000 in
theorem kL_isTrain {a0 : Nat} {a1 : Int32} {a2 : Int32} {h : AH} {K : Int32 → AH → Prop} (w : wL_isTrain a0 a1 a2 h K) : Cn mL_isTrain (cwd mL_isTrain) 12 130 8780 [.ref a0, .int a1, .int a2] h (KI K) T0 := by
  refine Cn_of (by decide +kernel) rfl (Nat.le_of_ble_eq_true rfl) ?_
  show X mL_isTrain 12 (KI K) T0 130 8780 0 [(0, .ref a0), (1, .int a1), (2, .int a2)] [] h
  unfold wL_isTrain at w
  refine X_iconst (v := (nI 0)) (show decode cL_isTrain 0 = .ok (.iconst 0, 1) by decide +kernel) (by decide) ?_
  refine X_istore_n (ls' := [(0, .ref _), (1, .int _), (2, .int _), (3, .int _)]) (show decode cL_isTrain 1 = .ok (.istore_n 3, 1) by decide +kernel) rfl (by decide) rfl ?_
  refine X_iconst (v := (nI 0)) (show decode cL_isTrain 2 = .ok (.iconst 0, 1) by decide +kernel) (by decide) ?_
  refine X_istore (ls' := [(0, .ref _), (1, .int _), (2, .int _), (3, .int _), (4, .int _)]) (show decode cL_isTrain 3 = .ok (.istore 4, 2) by decide +kernel) (by decide) rfl ?_
  obtain ⟨n86, bn86, hbn86, w⟩ := w
  refine X_room (rc' := bn86 * 9 + 58) (rs' := bn86 * 54 + 8348) (by omega) (by omega) ?_
  refine kL_isTrain_L5 ?_ n86 bn86 _ _ _ _ _ _ w
  · intro x0_22 x1_23 x3_24 h25 w
    refine X_aload_n (j := 0) (show decode cL_isTrain 110 = .ok (.aload_n 0, 1) by decide +kernel) rfl rfl ?_
    refine X_iload_n (j := 1) (show decode cL_isTrain 111 = .ok (.iload_n 1, 1) by decide +kernel) rfl rfl ?_
    refine X_sH (rc' := 57) (rs' := 8342) (as := [.ref _, .int _]) msh_L_203 (show decode cL_isTrain 112 = .ok (.invokestatic 203, 3) by decide +kernel) (by decide) (Nat.le_of_ble_eq_true rfl) (Nat.le_of_ble_eq_true rfl) rfl rfl (Nat.le_of_ble_eq_true rfl) (kL_hasRoute w) (fun r27 h26 w => ?_)
    refine X_iconst (v := (nI 1)) (show decode cL_isTrain 115 = .ok (.iconst 1, 1) by decide +kernel) (by decide) ?_
    refine X_icmp_ne (tgt := 123) (show decode cL_isTrain 116 = .ok (.if_icmp .ne 7, 3) by decide +kernel) (by decide) ⟨fun c28 => ?_, fun c28 => ?_⟩
    · have w := w.1 c28
      refine X_iconst (v := (nI 0)) (show decode cL_isTrain 123 = .ok (.iconst 0, 1) by decide +kernel) (by decide) ?_
      exact kL_isTrain_J124  _ _ _ _ _ w
    · have w := w.2 c28
      refine X_iconst (v := (nI 1)) (show decode cL_isTrain 119 = .ok (.iconst 1, 1) by decide +kernel) (by decide) ?_
      refine X_goto (tgt := 124) (show decode cL_isTrain 120 = .ok (.goto 4, 3) by decide +kernel) (by decide) ?_
      exact kL_isTrain_J124  _ _ _ _ _ w
set_option maxRecDepth 100000 in
set_option maxHeartbeats 4000000 in
theorem kL_isRoute_L70 {K : Int32 → AH → Prop}    : ∀ (n : Nat) (b : Nat) (x0 : Nat) (x1 : Int32) (x2 : Int32) (x3 : Int32) (x4 : Int32) (x5 : Int32) (x6 : Int32) (x7 : Int32) (h : AH), wL_isRoute_L70 K   n b x0 x1 x2 x3 x4 x5 x6 x7 h → X mL_isRoute 20 (KI K) T0 (b * 18 + 18) (b * 108 + 108) 70 [(0, .ref x0), (1, .int x1), (2, .int x2), (3, .int x3), (4, .int x4), (5, .int x5), (6, .int x6), (7, .int x7)] [] h := by
  intro n
  induction n with
  | zero => intro _ _ _ _ _ _ _ _ _ _ w; exact w.elim
  | succ n ih =>
    intro b x0 x1 x2 x3 x4 x5 x6 x7 h w
    rw [wL_isRoute_L70] at w
    refine X_aload_n (j := 0) (show decode cL_isRoute 70 = .ok (.aload_n 0, 1) by decide +kernel) rfl rfl ?_
    refine X_iload_n (j := 1) (show decode cL_isRoute 71 = .ok (.iload_n 1, 1) by decide +kernel) rfl rfl ?_
    refine X_iload_n (j := 2) (show decode cL_isRoute 72 = .ok (.iload_n 2, 1) by decide +kernel) rfl rfl ?_
    refine X_iload (j := 7) (show decode cL_isRoute 73 = .ok (.iload 7, 2) by decide +kernel) rfl ?_
    refine X_iconst (v := (nI 1)) (show decode cL_isRoute 75 = .ok (.iconst 1, 1) by decide +kernel) (by decide) ?_
    refine X_iadd (show decode cL_isRoute 76 = .ok (.iadd, 1) by decide +kernel) ?_
    obtain ⟨s6, w⟩ := w
    refine X_room (rc' := ((b - 1) * 18 + 36)) (rs' := ((b - 1) * 108 + 216)) (by omega) (by omega) ?_
    refine X_sH (rc' := ((b - 1) * 18 + 32)) (rs' := ((b - 1) * 108 + 192)) (as := [.ref _, .int _, .int _, .int _]) msh_L_325 (show decode cL_isRoute 77 = .ok (.invokestatic 325, 3) by decide +kernel) (by decide) (by omega) (by omega) rfl rfl (Nat.le_of_ble_eq_true rfl) (kL_routeBlock w) (fun r8 h7 w => ?_)
    refine X_if_lt (tgt := 170) (show decode cL_isRoute 80 = .ok (.ifCond .lt 90, 3) by decide +kernel) (by decide) ⟨fun c9 => ?_, fun c9 => ?_⟩
    · have w := w.1 c9
      refine X_iload (j := 4) (show decode cL_isRoute 170 = .ok (.iload 4, 2) by decide +kernel) rfl ?_
      refine X_iconst (v := (nI 1)) (show decode cL_isRoute 172 = .ok (.iconst 1, 1) by decide +kernel) (by decide) ?_
      refine X_icmp_lt (tgt := 234) (show decode cL_isRoute 173 = .ok (.if_icmp .lt 61, 3) by decide +kernel) (by decide) ⟨fun c10 => ?_, fun c10 => ?_⟩
      · have w := w.1 c10
        refine X_iconst (v := (nI 0)) (show decode cL_isRoute 234 = .ok (.iconst 0, 1) by decide +kernel) (by decide) ?_
        exact X_iret ⟨(show decode cL_isRoute 235 = .ok (.ireturn, 1) by decide +kernel), .boolean, rfl, (by decide)⟩ ⟨_, rfl, w⟩
      · have w := w.2 c10
        refine X_iload (j := 5) (show decode cL_isRoute 176 = .ok (.iload 5, 2) by decide +kernel) rfl ?_
        refine X_iload_n (j := 3) (show decode cL_isRoute 178 = .ok (.iload_n 3, 1) by decide +kernel) rfl rfl ?_
        refine X_icmp_ne (tgt := 234) (show decode cL_isRoute 179 = .ok (.if_icmp .ne 55, 3) by decide +kernel) (by decide) ⟨fun c11 => ?_, fun c11 => ?_⟩
        · have w := w.1 c11
          refine X_iconst (v := (nI 0)) (show decode cL_isRoute 234 = .ok (.iconst 0, 1) by decide +kernel) (by decide) ?_
          exact X_iret ⟨(show decode cL_isRoute 235 = .ok (.ireturn, 1) by decide +kernel), .boolean, rfl, (by decide)⟩ ⟨_, rfl, w⟩
        · have w := w.2 c11
          refine X_aload_n (j := 0) (show decode cL_isRoute 182 = .ok (.aload_n 0, 1) by decide +kernel) rfl rfl ?_
          refine X_iload_n (j := 1) (show decode cL_isRoute 183 = .ok (.iload_n 1, 1) by decide +kernel) rfl rfl ?_
          refine X_iload_n (j := 2) (show decode cL_isRoute 184 = .ok (.iload_n 2, 1) by decide +kernel) rfl rfl ?_
          refine X_iload (j := 7) (show decode cL_isRoute 185 = .ok (.iload 7, 2) by decide +kernel) rfl ?_
          refine X_sH (rc' := ((b - 1) * 18 + 28)) (rs' := ((b - 1) * 108 + 168)) (as := [.ref _, .int _, .int _, .int _]) msh_L_325 (show decode cL_isRoute 187 = .ok (.invokestatic 325, 3) by decide +kernel) (by decide) (by omega) (by omega) rfl rfl (Nat.le_of_ble_eq_true rfl) (kL_routeBlock w) (fun r13 h12 w => ?_)
          refine X_iload_n (j := 2) (show decode cL_isRoute 190 = .ok (.iload_n 2, 1) by decide +kernel) rfl rfl ?_
          refine X_icmp_ne (tgt := 234) (show decode cL_isRoute 191 = .ok (.if_icmp .ne 43, 3) by decide +kernel) (by decide) ⟨fun c14 => ?_, fun c14 => ?_⟩
          · have w := w.1 c14
            refine X_iconst (v := (nI 0)) (show decode cL_isRoute 234 = .ok (.iconst 0, 1) by decide +kernel) (by decide) ?_
            exact X_iret ⟨(show decode cL_isRoute 235 = .ok (.ireturn, 1) by decide +kernel), .boolean, rfl, (by decide)⟩ ⟨_, rfl, w⟩
          · have w := w.2 c14
            refine X_aload_n (j := 0) (show decode cL_isRoute 194 = .ok (.aload_n 0, 1) by decide +kernel) rfl rfl ?_
            refine X_iload_n (j := 1) (show decode cL_isRoute 195 = .ok (.iload_n 1, 1) by decide +kernel) rfl rfl ?_
            refine X_iload_n (j := 2) (show decode cL_isRoute 196 = .ok (.iload_n 2, 1) by decide +kernel) rfl rfl ?_
            refine X_iconst (v := (nI 0)) (show decode cL_isRoute 197 = .ok (.iconst 0, 1) by decide +kernel) (by decide) ?_
            refine X_sH (rc' := ((b - 1) * 18 + 24)) (rs' := ((b - 1) * 108 + 144)) (as := [.ref _, .int _, .int _, .int _]) msh_L_325 (show decode cL_isRoute 198 = .ok (.invokestatic 325, 3) by decide +kernel) (by decide) (by omega) (by omega) rfl rfl (Nat.le_of_ble_eq_true rfl) (kL_routeBlock w) (fun r16 h15 w => ?_)
            refine X_iload_n (j := 1) (show decode cL_isRoute 201 = .ok (.iload_n 1, 1) by decide +kernel) rfl rfl ?_
            refine X_icmp_ne (tgt := 234) (show decode cL_isRoute 202 = .ok (.if_icmp .ne 32, 3) by decide +kernel) (by decide) ⟨fun c17 => ?_, fun c17 => ?_⟩
            · have w := w.1 c17
              refine X_iconst (v := (nI 0)) (show decode cL_isRoute 234 = .ok (.iconst 0, 1) by decide +kernel) (by decide) ?_
              exact X_iret ⟨(show decode cL_isRoute 235 = .ok (.ireturn, 1) by decide +kernel), .boolean, rfl, (by decide)⟩ ⟨_, rfl, w⟩
            · have w := w.2 c17
              refine X_aload_n (j := 0) (show decode cL_isRoute 205 = .ok (.aload_n 0, 1) by decide +kernel) rfl rfl ?_
              refine X_iload_n (j := 1) (show decode cL_isRoute 206 = .ok (.iload_n 1, 1) by decide +kernel) rfl rfl ?_
              refine X_iload_n (j := 2) (show decode cL_isRoute 207 = .ok (.iload_n 2, 1) by decide +kernel) rfl rfl ?_
              refine X_sH (rc' := ((b - 1) * 18 + 21)) (rs' := ((b - 1) * 108 + 126)) (as := [.ref _, .int _, .int _]) msh_L_323 (show decode cL_isRoute 208 = .ok (.invokestatic 323, 3) by decide +kernel) (by decide) (by omega) (by omega) rfl rfl (Nat.le_of_ble_eq_true rfl) (kL_routeLengthByPaths w) (fun r19 h18 w => ?_)
              refine X_iload_n (j := 3) (show decode cL_isRoute 211 = .ok (.iload_n 3, 1) by decide +kernel) rfl rfl ?_
              refine X_icmp_ne (tgt := 234) (show decode cL_isRoute 212 = .ok (.if_icmp .ne 22, 3) by decide +kernel) (by decide) ⟨fun c20 => ?_, fun c20 => ?_⟩
              · have w := w.1 c20
                refine X_iconst (v := (nI 0)) (show decode cL_isRoute 234 = .ok (.iconst 0, 1) by decide +kernel) (by decide) ?_
                exact X_iret ⟨(show decode cL_isRoute 235 = .ok (.ireturn, 1) by decide +kernel), .boolean, rfl, (by decide)⟩ ⟨_, rfl, w⟩
              · have w := w.2 c20
                refine X_iload_n (j := 1) (show decode cL_isRoute 215 = .ok (.iload_n 1, 1) by decide +kernel) rfl rfl ?_
                refine X_iload_n (j := 2) (show decode cL_isRoute 216 = .ok (.iload_n 2, 1) by decide +kernel) rfl rfl ?_
                refine X_icmp_ne (tgt := 230) (show decode cL_isRoute 217 = .ok (.if_icmp .ne 13, 3) by decide +kernel) (by decide) ⟨fun c21 => ?_, fun c21 => ?_⟩
                · have w := w.1 c21
                  refine X_iconst (v := (nI 1)) (show decode cL_isRoute 230 = .ok (.iconst 1, 1) by decide +kernel) (by decide) ?_
                  refine X_goto (tgt := 235) (show decode cL_isRoute 231 = .ok (.goto 4, 3) by decide +kernel) (by decide) ?_
                  exact X_iret ⟨(show decode cL_isRoute 235 = .ok (.ireturn, 1) by decide +kernel), .boolean, rfl, (by decide)⟩ ⟨_, rfl, w⟩
                · have w := w.2 c21
                  refine X_iload_n (j := 3) (show decode cL_isRoute 220 = .ok (.iload_n 3, 1) by decide +kernel) rfl rfl ?_
                  refine X_if_ne (tgt := 234) (show decode cL_isRoute 221 = .ok (.ifCond .ne 13, 3) by decide +kernel) (by decide) ⟨fun c22 => ?_, fun c22 => ?_⟩
                  · have w := w.1 c22
                    refine X_iconst (v := (nI 0)) (show decode cL_isRoute 234 = .ok (.iconst 0, 1) by decide +kernel) (by decide) ?_
                    exact X_iret ⟨(show decode cL_isRoute 235 = .ok (.ireturn, 1) by decide +kernel), .boolean, rfl, (by decide)⟩ ⟨_, rfl, w⟩
                  · have w := w.2 c22
                    refine X_iload (j := 4) (show decode cL_isRoute 224 = .ok (.iload 4, 2) by decide +kernel) rfl ?_
                    refine X_iconst (v := (nI 1)) (show decode cL_isRoute 226 = .ok (.iconst 1, 1) by decide +kernel) (by decide) ?_
                    refine X_icmp_ne (tgt := 234) (show decode cL_isRoute 227 = .ok (.if_icmp .ne 7, 3) by decide +kernel) (by decide) ⟨fun c23 => ?_, fun c23 => ?_⟩
                    · have w := w.1 c23
                      refine X_iconst (v := (nI 0)) (show decode cL_isRoute 234 = .ok (.iconst 0, 1) by decide +kernel) (by decide) ?_
                      exact X_iret ⟨(show decode cL_isRoute 235 = .ok (.ireturn, 1) by decide +kernel), .boolean, rfl, (by decide)⟩ ⟨_, rfl, w⟩
                    · have w := w.2 c23
                      refine X_iconst (v := (nI 1)) (show decode cL_isRoute 230 = .ok (.iconst 1, 1) by decide +kernel) (by decide) ?_
                      refine X_goto (tgt := 235) (show decode cL_isRoute 231 = .ok (.goto 4, 3) by decide +kernel) (by decide) ?_
                      exact X_iret ⟨(show decode cL_isRoute 235 = .ok (.ireturn, 1) by decide +kernel), .boolean, rfl, (by decide)⟩ ⟨_, rfl, w⟩
    · have w := w.2 c9
      refine X_aload_n (j := 0) (show decode cL_isRoute 83 = .ok (.aload_n 0, 1) by decide +kernel) rfl rfl ?_
      refine X_iload_n (j := 1) (show decode cL_isRoute 84 = .ok (.iload_n 1, 1) by decide +kernel) rfl rfl ?_
      refine X_iload_n (j := 2) (show decode cL_isRoute 85 = .ok (.iload_n 2, 1) by decide +kernel) rfl rfl ?_
      refine X_iload (j := 7) (show decode cL_isRoute 86 = .ok (.iload 7, 2) by decide +kernel) rfl ?_
      refine X_sH (rc' := ((b - 1) * 18 + 28)) (rs' := ((b - 1) * 108 + 168)) (as := [.ref _, .int _, .int _, .int _]) msh_L_325 (show decode cL_isRoute 88 = .ok (.invokestatic 325, 3) by decide +kernel) (by decide) (by omega) (by omega) rfl rfl (Nat.le_of_ble_eq_true rfl) (kL_routeBlock w) (fun r25 h24 w => ?_)
      refine X_istore (ls' := [(0, .ref _), (1, .int _), (2, .int _), (3, .int _), (4, .int _), (5, .int _), (6, .int _), (7, .int _), (8, .int _)]) (show decode cL_isRoute 91 = .ok (.istore 8, 2) by decide +kernel) (by decide) rfl ?_
      refine X_aload_n (j := 0) (show decode cL_isRoute 93 = .ok (.aload_n 0, 1) by decide +kernel) rfl rfl ?_
      refine X_iload_n (j := 1) (show decode cL_isRoute 94 = .ok (.iload_n 1, 1) by decide +kernel) rfl rfl ?_
      refine X_iload_n (j := 2) (show decode cL_isRoute 95 = .ok (.iload_n 2, 1) by decide +kernel) rfl rfl ?_
      refine X_iload (j := 7) (show decode cL_isRoute 96 = .ok (.iload 7, 2) by decide +kernel) rfl ?_
      refine X_iconst (v := (nI 1)) (show decode cL_isRoute 98 = .ok (.iconst 1, 1) by decide +kernel) (by decide) ?_
      refine X_iadd (show decode cL_isRoute 99 = .ok (.iadd, 1) by decide +kernel) ?_
      refine X_sH (rc' := ((b - 1) * 18 + 24)) (rs' := ((b - 1) * 108 + 144)) (as := [.ref _, .int _, .int _, .int _]) msh_L_325 (show decode cL_isRoute 100 = .ok (.invokestatic 325, 3) by decide +kernel) (by decide) (by omega) (by omega) rfl rfl (Nat.le_of_ble_eq_true rfl) (kL_routeBlock w) (fun r27 h26 w => ?_)
      refine X_istore (ls' := [(0, .ref _), (1, .int _), (2, .int _), (3, .int _), (4, .int _), (5, .int _), (6, .int _), (7, .int _), (8, .int _), (9, .int _)]) (show decode cL_isRoute 103 = .ok (.istore 9, 2) by decide +kernel) (by decide) rfl ?_
      refine X_iload (j := 6) (show decode cL_isRoute 105 = .ok (.iload 6, 2) by decide +kernel) rfl ?_
      refine X_iload (j := 9) (show decode cL_isRoute 107 = .ok (.iload 9, 2) by decide +kernel) rfl ?_
      refine X_ishr (show decode cL_isRoute 109 = .ok (.ishr, 1) by decide +kernel) ?_
      refine X_iconst (v := (nI 1)) (show decode cL_isRoute 110 = .ok (.iconst 1, 1) by decide +kernel) (by decide) ?_
      refine X_iand (show decode cL_isRoute 111 = .ok (.iand, 1) by decide +kernel) ?_
      refine X_iconst (v := (nI 1)) (show decode cL_isRoute 112 = .ok (.iconst 1, 1) by decide +kernel) (by decide) ?_
      refine X_icmp_eq (tgt := 142) (show decode cL_isRoute 113 = .ok (.if_icmp .eq 29, 3) by decide +kernel) (by decide) ⟨fun c28 => ?_, fun c28 => ?_⟩
      · have w := w.1 c28
        refine X_iconst (v := (nI 0)) (show decode cL_isRoute 142 = .ok (.iconst 0, 1) by decide +kernel) (by decide) ?_
        exact X_iret ⟨(show decode cL_isRoute 143 = .ok (.ireturn, 1) by decide +kernel), .boolean, rfl, (by decide)⟩ ⟨_, rfl, w⟩
      · have w := w.2 c28
        refine X_aload_n (j := 0) (show decode cL_isRoute 116 = .ok (.aload_n 0, 1) by decide +kernel) rfl rfl ?_
        refine X_iload (j := 8) (show decode cL_isRoute 117 = .ok (.iload 8, 2) by decide +kernel) rfl ?_
        refine X_iload (j := 9) (show decode cL_isRoute 119 = .ok (.iload 9, 2) by decide +kernel) rfl ?_
        refine X_sH (rc' := ((b - 1) * 18 + 22)) (rs' := ((b - 1) * 108 + 132)) (as := [.ref _, .int _, .int _]) msh_L_315 (show decode cL_isRoute 121 = .ok (.invokestatic 315, 3) by decide +kernel) (by decide) (by omega) (by omega) rfl rfl (Nat.le_of_ble_eq_true rfl) (kL_paths w) (fun r30 h29 w => ?_)
        refine X_iconst (v := (nI 1)) (show decode cL_isRoute 124 = .ok (.iconst 1, 1) by decide +kernel) (by decide) ?_
        refine X_icmp_lt (tgt := 142) (show decode cL_isRoute 125 = .ok (.if_icmp .lt 17, 3) by decide +kernel) (by decide) ⟨fun c31 => ?_, fun c31 => ?_⟩
        · have w := w.1 c31
          refine X_iconst (v := (nI 0)) (show decode cL_isRoute 142 = .ok (.iconst 0, 1) by decide +kernel) (by decide) ?_
          exact X_iret ⟨(show decode cL_isRoute 143 = .ok (.ireturn, 1) by decide +kernel), .boolean, rfl, (by decide)⟩ ⟨_, rfl, w⟩
        · have w := w.2 c31
          refine X_aload_n (j := 0) (show decode cL_isRoute 128 = .ok (.aload_n 0, 1) by decide +kernel) rfl rfl ?_
          refine X_iload (j := 8) (show decode cL_isRoute 129 = .ok (.iload 8, 2) by decide +kernel) rfl ?_
          refine X_iload_n (j := 2) (show decode cL_isRoute 131 = .ok (.iload_n 2, 1) by decide +kernel) rfl rfl ?_
          refine X_sH (rc' := ((b - 1) * 18 + 19)) (rs' := ((b - 1) * 108 + 114)) (as := [.ref _, .int _, .int _]) msh_L_231 (show decode cL_isRoute 132 = .ok (.invokestatic 231, 3) by decide +kernel) (by decide) (by omega) (by omega) rfl rfl (Nat.le_of_ble_eq_true rfl) (kL_routeLength w) (fun r33 h32 w => ?_)
          refine X_iload_n (j := 3) (show decode cL_isRoute 135 = .ok (.iload_n 3, 1) by decide +kernel) rfl rfl ?_
          refine X_iload (j := 5) (show decode cL_isRoute 136 = .ok (.iload 5, 2) by decide +kernel) rfl ?_
          refine X_isub (show decode cL_isRoute 138 = .ok (.isub, 1) by decide +kernel) ?_
          refine X_icmp_eq (tgt := 144) (show decode cL_isRoute 139 = .ok (.if_icmp .eq 5, 3) by decide +kernel) (by decide) ⟨fun c34 => ?_, fun c34 => ?_⟩
          · have w := w.1 c34
            refine X_iload (j := 6) (show decode cL_isRoute 144 = .ok (.iload 6, 2) by decide +kernel) rfl ?_
            refine X_iconst (v := (nI 1)) (show decode cL_isRoute 146 = .ok (.iconst 1, 1) by decide +kernel) (by decide) ?_
            refine X_iload (j := 9) (show decode cL_isRoute 147 = .ok (.iload 9, 2) by decide +kernel) rfl ?_
            refine X_ishl (show decode cL_isRoute 149 = .ok (.ishl, 1) by decide +kernel) ?_
            refine X_ior (show decode cL_isRoute 150 = .ok (.ior, 1) by decide +kernel) ?_
            refine X_topi (fun v35 e36 => ?_)
            have w := w v35 e36
            refine X_istore (ls' := [(0, .ref _), (1, .int _), (2, .int _), (3, .int _), (4, .int _), (5, .int _), (6, .int _), (7, .int _), (8, .int _), (9, .int _)]) (show decode cL_isRoute 151 = .ok (.istore 6, 2) by decide +kernel) (by decide) rfl ?_
            refine X_iload (j := 5) (show decode cL_isRoute 153 = .ok (.iload 5, 2) by decide +kernel) rfl ?_
            refine X_aload_n (j := 0) (show decode cL_isRoute 155 = .ok (.aload_n 0, 1) by decide +kernel) rfl rfl ?_
            refine X_iload (j := 9) (show decode cL_isRoute 156 = .ok (.iload 9, 2) by decide +kernel) rfl ?_
            refine X_sH (rc' := ((b - 1) * 18 + 18)) (rs' := ((b - 1) * 108 + 108)) (as := [.ref _, .int _]) msh_L_313 (show decode cL_isRoute 158 = .ok (.invokestatic 313, 3) by decide +kernel) (by decide) (by omega) (by omega) rfl rfl (Nat.le_of_ble_eq_true rfl) (kL_blockLength w) (fun r38 h37 w => ?_)
            refine X_iadd (show decode cL_isRoute 161 = .ok (.iadd, 1) by decide +kernel) ?_
            refine X_istore (ls' := [(0, .ref _), (1, .int _), (2, .int _), (3, .int _), (4, .int _), (5, .int _), (6, .int _), (7, .int _), (8, .int _), (9, .int _)]) (show decode cL_isRoute 162 = .ok (.istore 5, 2) by decide +kernel) (by decide) rfl ?_
            refine X_iinc (j := 7) (v := _ + (nI 1)) (ls' := [(0, .ref _), (1, .int _), (2, .int _), (3, .int _), (4, .int _), (5, .int _), (6, .int _), (7, .int _), (8, .int _), (9, .int _)]) (show decode cL_isRoute 164 = .ok (.iinc 7 1, 3) by decide +kernel) rfl rfl (Nat.le_of_ble_eq_true rfl) rfl ?_
            refine X_goto (tgt := 70) (show decode cL_isRoute 167 = .ok (.goto (-97), 3) by decide +kernel) (by decide) ?_
            refine X_pick (ls' := [(0, .ref _), (1, .int _), (2, .int _), (3, .int _), (4, .int _), (5, .int _), (6, .int _), (7, .int _)]) [0, 1, 2, 3, 4, 5, 6, 7] rfl ?_
            exact ih (b - 1) _ _ _ _ _ _ _ _ _ w
          · have w := w.2 c34
            refine X_iconst (v := (nI 0)) (show decode cL_isRoute 142 = .ok (.iconst 0, 1) by decide +kernel) (by decide) ?_
            exact X_iret ⟨(show decode cL_isRoute 143 = .ok (.ireturn, 1) by decide +kernel), .boolean, rfl, (by decide)⟩ ⟨_, rfl, w⟩
set_option maxRecDepth 100000 in
set_option maxHeartbeats 4000000 in
theorem kL_isRoute {a0 : Nat} {a1 : Int32} {a2 : Int32} {h : AH} {K : Int32 → AH → Prop} (w : wL_isRoute a0 a1 a2 h K) : Cn mL_isRoute (cwd mL_isRoute) 20 239 1434 [.ref a0, .int a1, .int a2] h (KI K) T0 := by
  refine Cn_of (by decide +kernel) rfl (Nat.le_of_ble_eq_true rfl) ?_
  show X mL_isRoute 20 (KI K) T0 239 1434 0 [(0, .ref a0), (1, .int a1), (2, .int a2)] [] h
  unfold wL_isRoute at w
  refine X_aload_n (j := 0) (show decode cL_isRoute 0 = .ok (.aload_n 0, 1) by decide +kernel) rfl rfl ?_
  refine X_iload_n (j := 1) (show decode cL_isRoute 1 = .ok (.iload_n 1, 1) by decide +kernel) rfl rfl ?_
  refine X_iload_n (j := 2) (show decode cL_isRoute 2 = .ok (.iload_n 2, 1) by decide +kernel) rfl rfl ?_
  refine X_sH (rc' := 236) (rs' := 1416) (as := [.ref _, .int _, .int _]) msh_L_231 (show decode cL_isRoute 3 = .ok (.invokestatic 231, 3) by decide +kernel) (by decide) (Nat.le_of_ble_eq_true rfl) (Nat.le_of_ble_eq_true rfl) rfl rfl (Nat.le_of_ble_eq_true rfl) (kL_routeLength w) (fun r2 h1 w => ?_)
  refine X_istore_n (ls' := [(0, .ref _), (1, .int _), (2, .int _), (3, .int _)]) (show decode cL_isRoute 6 = .ok (.istore_n 3, 1) by decide +kernel) rfl (by decide) rfl ?_
  refine X_aload_n (j := 0) (show decode cL_isRoute 7 = .ok (.aload_n 0, 1) by decide +kernel) rfl rfl ?_
  refine X_iload_n (j := 1) (show decode cL_isRoute 8 = .ok (.iload_n 1, 1) by decide +kernel) rfl rfl ?_
  refine X_iload_n (j := 2) (show decode cL_isRoute 9 = .ok (.iload_n 2, 1) by decide +kernel) rfl rfl ?_
  refine X_sH (rc' := 234) (rs' := 1404) (as := [.ref _, .int _, .int _]) msh_L_315 (show decode cL_isRoute 10 = .ok (.invokestatic 315, 3) by decide +kernel) (by decide) (Nat.le_of_ble_eq_true rfl) (Nat.le_of_ble_eq_true rfl) rfl rfl (Nat.le_of_ble_eq_true rfl) (kL_paths w) (fun r4 h3 w => ?_)
  refine X_istore (ls' := [(0, .ref _), (1, .int _), (2, .int _), (3, .int _), (4, .int _)]) (show decode cL_isRoute 13 = .ok (.istore 4, 2) by decide +kernel) (by decide) rfl ?_
  refine X_iload_n (j := 3) (show decode cL_isRoute 15 = .ok (.iload_n 3, 1) by decide +kernel) rfl rfl ?_
  refine X_if_ge (tgt := 59) (show decode cL_isRoute 16 = .ok (.ifCond .ge 43, 3) by decide +kernel) (by decide) ⟨fun c5 => ?_, fun c5 => ?_⟩
  · have w := w.1 c5
    refine X_iconst (v := (nI 0)) (show decode cL_isRoute 59 = .ok (.iconst 0, 1) by decide +kernel) (by decide) ?_
    refine X_istore (ls' := [(0, .ref _), (1, .int _), (2, .int _), (3, .int _), (4, .int _), (5, .int _)]) (show decode cL_isRoute 60 = .ok (.istore 5, 2) by decide +kernel) (by decide) rfl ?_
    refine X_iconst (v := (nI 1)) (show decode cL_isRoute 62 = .ok (.iconst 1, 1) by decide +kernel) (by decide) ?_
    refine X_iload_n (j := 1) (show decode cL_isRoute 63 = .ok (.iload_n 1, 1) by decide +kernel) rfl rfl ?_
    refine X_ishl (show decode cL_isRoute 64 = .ok (.ishl, 1) by decide +kernel) ?_
    refine X_istore (ls' := [(0, .ref _), (1, .int _), (2, .int _), (3, .int _), (4, .int _), (5, .int _), (6, .int _)]) (show decode cL_isRoute 65 = .ok (.istore 6, 2) by decide +kernel) (by decide) rfl ?_
    refine X_iconst (v := (nI 0)) (show decode cL_isRoute 67 = .ok (.iconst 0, 1) by decide +kernel) (by decide) ?_
    refine X_istore (ls' := [(0, .ref _), (1, .int _), (2, .int _), (3, .int _), (4, .int _), (5, .int _), (6, .int _), (7, .int _)]) (show decode cL_isRoute 68 = .ok (.istore 7, 2) by decide +kernel) (by decide) rfl ?_
    obtain ⟨n39, bn39, hbn39, w⟩ := w
    refine X_room (rc' := bn39 * 18 + 18) (rs' := bn39 * 108 + 108) (by omega) (by omega) ?_
    exact kL_isRoute_L70  n39 bn39 _ _ _ _ _ _ _ _ _ w
  · have w := w.2 c5
    refine X_iload_n (j := 3) (show decode cL_isRoute 19 = .ok (.iload_n 3, 1) by decide +kernel) rfl rfl ?_
    refine X_bipush (v := (-75)) (show decode cL_isRoute 20 = .ok (.bipush (-75), 2) by decide +kernel) (by decide) ?_
    refine X_icmp_ne (tgt := 57) (show decode cL_isRoute 22 = .ok (.if_icmp .ne 35, 3) by decide +kernel) (by decide) ⟨fun c40 => ?_, fun c40 => ?_⟩
    · have w := w.1 c40
      refine X_iconst (v := (nI 0)) (show decode cL_isRoute 57 = .ok (.iconst 0, 1) by decide +kernel) (by decide) ?_
      exact X_iret ⟨(show decode cL_isRoute 58 = .ok (.ireturn, 1) by decide +kernel), .boolean, rfl, (by decide)⟩ ⟨_, rfl, w⟩
    · have w := w.2 c40
      refine X_iload (j := 4) (show decode cL_isRoute 25 = .ok (.iload 4, 2) by decide +kernel) rfl ?_
      refine X_if_ne (tgt := 57) (show decode cL_isRoute 27 = .ok (.ifCond .ne 30, 3) by decide +kernel) (by decide) ⟨fun c41 => ?_, fun c41 => ?_⟩
      · have w := w.1 c41
        refine X_iconst (v := (nI 0)) (show decode cL_isRoute 57 = .ok (.iconst 0, 1) by decide +kernel) (by decide) ?_
        exact X_iret ⟨(show decode cL_isRoute 58 = .ok (.ireturn, 1) by decide +kernel), .boolean, rfl, (by decide)⟩ ⟨_, rfl, w⟩
      · have w := w.2 c41
        refine X_aload_n (j := 0) (show decode cL_isRoute 30 = .ok (.aload_n 0, 1) by decide +kernel) rfl rfl ?_
        refine X_iload_n (j := 1) (show decode cL_isRoute 31 = .ok (.iload_n 1, 1) by decide +kernel) rfl rfl ?_
        refine X_iload_n (j := 2) (show decode cL_isRoute 32 = .ok (.iload_n 2, 1) by decide +kernel) rfl rfl ?_
        refine X_sH (rc' := 231) (rs' := 1386) (as := [.ref _, .int _, .int _]) msh_L_323 (show decode cL_isRoute 33 = .ok (.invokestatic 323, 3) by decide +kernel) (by decide) (Nat.le_of_ble_eq_true rfl) (Nat.le_of_ble_eq_true rfl) rfl rfl (Nat.le_of_ble_eq_true rfl) (kL_routeLengthByPaths w) (fun r43 h42 w => ?_)
        refine X_bipush (v := (-75)) (show decode cL_isRoute 36 = .ok (.bipush (-75), 2) by decide +kernel) (by decide) ?_
        refine X_icmp_ne (tgt := 57) (show decode cL_isRoute 38 = .ok (.if_icmp .ne 19, 3) by decide +kernel) (by decide) ⟨fun c44 => ?_, fun c44 => ?_⟩
        · have w := w.1 c44
          refine X_iconst (v := (nI 0)) (show decode cL_isRoute 57 = .ok (.iconst 0, 1) by decide +kernel) (by decide) ?_
          exact X_iret ⟨(show decode cL_isRoute 58 = .ok (.ireturn, 1) by decide +kernel), .boolean, rfl, (by decide)⟩ ⟨_, rfl, w⟩
        · have w := w.2 c44
          refine X_aload_n (j := 0) (show decode cL_isRoute 41 = .ok (.aload_n 0, 1) by decide +kernel) rfl rfl ?_
          refine X_iload_n (j := 1) (show decode cL_isRoute 42 = .ok (.iload_n 1, 1) by decide +kernel) rfl rfl ?_
          refine X_iload_n (j := 2) (show decode cL_isRoute 43 = .ok (.iload_n 2, 1) by decide +kernel) rfl rfl ?_
          refine X_iconst (v := (nI 0)) (show decode cL_isRoute 44 = .ok (.iconst 0, 1) by decide +kernel) (by decide) ?_
          refine X_sH (rc' := 227) (rs' := 1362) (as := [.ref _, .int _, .int _, .int _]) msh_L_325 (show decode cL_isRoute 45 = .ok (.invokestatic 325, 3) by decide +kernel) (by decide) (Nat.le_of_ble_eq_true rfl) (Nat.le_of_ble_eq_true rfl) rfl rfl (Nat.le_of_ble_eq_true rfl) (kL_routeBlock w) (fun r46 h45 w => ?_)
          refine X_bipush (v := (-75)) (show decode cL_isRoute 48 = .ok (.bipush (-75), 2) by decide +kernel) (by decide) ?_
          refine X_icmp_ne (tgt := 57) (show decode cL_isRoute 50 = .ok (.if_icmp .ne 7, 3) by decide +kernel) (by decide) ⟨fun c47 => ?_, fun c47 => ?_⟩
          · have w := w.1 c47
            refine X_iconst (v := (nI 0)) (show decode cL_isRoute 57 = .ok (.iconst 0, 1) by decide +kernel) (by decide) ?_
            exact X_iret ⟨(show decode cL_isRoute 58 = .ok (.ireturn, 1) by decide +kernel), .boolean, rfl, (by decide)⟩ ⟨_, rfl, w⟩
          · have w := w.2 c47
            refine X_iconst (v := (nI 1)) (show decode cL_isRoute 53 = .ok (.iconst 1, 1) by decide +kernel) (by decide) ?_
            refine X_goto (tgt := 58) (show decode cL_isRoute 54 = .ok (.goto 4, 3) by decide +kernel) (by decide) ?_
            exact X_iret ⟨(show decode cL_isRoute 58 = .ok (.ireturn, 1) by decide +kernel), .boolean, rfl, (by decide)⟩ ⟨_, rfl, w⟩
set_option maxRecDepth 100000 in
set_option maxHeartbeats 4000000 in
theorem kL_isWhole_J79 {rc0 rs0 : Nat} {K : Int32 → AH → Prop} {c18 : Nat → Nat → Int32 → Int32 → Int32 → Int32 → Int32 → Int32 → Int64 → Int32 → AH → Prop} (hc18 : ∀ x0 x1 x2 x3 x4 x5 x6 x7 x8 x10 h, c18 x0 x1 x2 x3 x4 x5 x6 x7 x8 x10 h → X mL_isWhole 21 (KI K) T0 rc0 rs0 18 [(0, .ref x0), (1, .ref x1), (2, .int x2), (3, .int x3), (4, .int x4), (5, .int x5), (6, .int x6), (7, .int x7), (8, .long x8), (10, .int x10)] [] h) (x0 : Nat) (x1 : Nat) (x2 : Int32) (x3 : Int32) (x4 : Int32) (x5 : Int32) (x6 : Int32) (x7 : Int32) (x8 : Int64) (x10 : Int32) (h : AH) (w : wL_isWhole_J79 K c18 x0 x1 x2 x3 x4 x5 x6 x7 x8 x10 h) : X mL_isWhole 21 (KI K) T0 (rc0 + 130) (rs0 + 8780) 79 [(0, .ref x0), (1, .ref x1), (2, .int x2), (3, .int x3), (4, .int x4), (5, .int x5), (6, .int x6), (7, .int x7), (8, .long x8), (10, .int x10)] [] h := by
  unfold wL_isWhole_J79 at w
  refine X_aload_n (j := 0) (show decode cL_isWhole 79 = .ok (.aload_n 0, 1) by decide +kernel) rfl rfl ?_
  refine X_iload (j := 9) (show decode cL_isWhole 80 = .ok (.iload 10, 2) by decide +kernel) rfl ?_
  refine X_iload_n (j := 3) (show decode cL_isWhole 82 = .ok (.iload_n 3, 1) by decide +kernel) rfl rfl ?_
  refine X_sI (rc' := rc0) (rs' := rs0) (as := [.ref _, .int _, .int _]) ms_L_335 (show decode cL_isWhole 83 = .ok (.invokestatic 335, 3) by decide +kernel) (by decide) (by omega) (by omega) rfl rfl (Nat.le_of_ble_eq_true rfl) (kL_isTrain w) (fun E h hk => hk.elim) (fun r14 h13 w => ?_)
  refine X_if_ne (tgt := 91) (show decode cL_isWhole 86 = .ok (.ifCond .ne 5, 3) by decide +kernel) (by decide) ⟨fun c15 => ?_, fun c15 => ?_⟩
  · have w := w.1 c15
    refine X_iinc (j := 9) (v := _ + (nI 1)) (ls' := [(0, .ref _), (1, .ref _), (2, .int _), (3, .int _), (4, .int _), (5, .int _), (6, .int _), (7, .int _), (8, .long _), (10, .int _)]) (show decode cL_isWhole 91 = .ok (.iinc 10 1, 3) by decide +kernel) rfl rfl (Nat.le_of_ble_eq_true rfl) rfl ?_
    refine X_goto (tgt := 18) (show decode cL_isWhole 94 = .ok (.goto (-76), 3) by decide +kernel) (by decide) ?_
    exact hc18 _ _ _ _ _ _ _ _ _ _ _ w
  · have w := w.2 c15
    refine X_iconst (v := (nI 0)) (show decode cL_isWhole 89 = .ok (.iconst 0, 1) by decide +kernel) (by decide) ?_
    exact X_iret ⟨(show decode cL_isWhole 90 = .ok (.ireturn, 1) by decide +kernel), .boolean, rfl, (by decide)⟩ ⟨_, rfl, w⟩
set_option maxRecDepth 100000 in
set_option maxHeartbeats 4000000 in
theorem kL_isWhole_L18 {K : Int32 → AH → Prop} {c97 : Nat → Nat → Int32 → Int32 → Int32 → Int32 → Int32 → Int32 → Int64 → AH → Prop} (hc97 : ∀ x0 x1 x2 x3 x4 x5 x6 x7 x8 h, c97 x0 x1 x2 x3 x4 x5 x6 x7 x8 h → X mL_isWhole 21 (KI K) T0 391 2346 97 [(0, .ref x0), (1, .ref x1), (2, .int x2), (3, .int x3), (4, .int x4), (5, .int x5), (6, .int x6), (7, .int x7), (8, .long x8)] [] h)  : ∀ (n : Nat) (b : Nat) (x0 : Nat) (x1 : Nat) (x2 : Int32) (x3 : Int32) (x4 : Int32) (x5 : Int32) (x6 : Int32) (x7 : Int32) (x8 : Int64) (x10 : Int32) (h : AH), wL_isWhole_L18 K c97  n b x0 x1 x2 x3 x4 x5 x6 x7 x8 x10 h → X mL_isWhole 21 (KI K) T0 (b * 132 + 391) (b * 8792 + 8792) 18 [(0, .ref x0), (1, .ref x1), (2, .int x2), (3, .int x3), (4, .int x4), (5, .int x5), (6, .int x6), (7, .int x7), (8, .long x8), (10, .int x10)] [] h := by
  intro n
  induction n with
  | zero => intro _ _ _ _ _ _ _ _ _ _ _ _ w; exact w.elim
  | succ n ih =>
    intro b x0 x1 x2 x3 x4 x5 x6 x7 x8 x10 h w
    rw [wL_isWhole_L18] at w
    refine X_iload (j := 9) (show decode cL_isWhole 18 = .ok (.iload 10, 2) by decide +kernel) rfl ?_
    refine X_iload_n (j := 3) (show decode cL_isWhole 20 = .ok (.iload_n 3, 1) by decide +kernel) rfl rfl ?_
    refine X_icmp_ge (tgt := 97) (show decode cL_isWhole 21 = .ok (.if_icmp .ge 76, 3) by decide +kernel) (by decide) ⟨fun c3 => ?_, fun c3 => ?_⟩
    · have w := w.1 c3
      refine X_room (rc' := 391) (rs' := 2346) (by omega) (by omega) ?_
      refine X_pick (ls' := [(0, .ref _), (1, .ref _), (2, .int _), (3, .int _), (4, .int _), (5, .int _), (6, .int _), (7, .int _), (8, .long _)]) [0, 1, 2, 3, 4, 5, 6, 7, 8] rfl ?_
      exact hc97 _ _ _ _ _ _ _ _ _ _ w
    · have w := w.2 c3
      refine X_aload_n (j := 0) (show decode cL_isWhole 24 = .ok (.aload_n 0, 1) by decide +kernel) rfl rfl ?_
      refine X_iload (j := 9) (show decode cL_isWhole 25 = .ok (.iload 10, 2) by decide +kernel) rfl ?_
      obtain ⟨s19, w⟩ := w
      refine X_vI (rc' := (b * 132 + 391)) (rs' := (b * 8792 + 8792)) (as := [.int _]) mv_L_238 (show decode cL_isWhole 27 = .ok (.invokevirtual 238, 3) by decide +kernel) (by decide) (by omega) (by omega) rfl rfl (Nat.le_of_ble_eq_true rfl) (rcvD s19 (by decide) rfl) (kX9_isPresent w) (fun E h hk => hk.elim) (fun r5 h4 w => ?_)
      refine X_if_eq (tgt := 91) (show decode cL_isWhole 30 = .ok (.ifCond .eq 61, 3) by decide +kernel) (by decide) ⟨fun c6 => ?_, fun c6 => ?_⟩
      · have w := w.1 c6
        refine X_iinc (j := 9) (v := _ + (nI 1)) (ls' := [(0, .ref _), (1, .ref _), (2, .int _), (3, .int _), (4, .int _), (5, .int _), (6, .int _), (7, .int _), (8, .long _), (10, .int _)]) (show decode cL_isWhole 91 = .ok (.iinc 10 1, 3) by decide +kernel) rfl rfl (Nat.le_of_ble_eq_true rfl) rfl ?_
        refine X_goto (tgt := 18) (show decode cL_isWhole 94 = .ok (.goto (-76), 3) by decide +kernel) (by decide) ?_
        exact ih b _ _ _ _ _ _ _ _ _ _ _ w
      · have w := w.2 c6
        refine X_iinc (j := 6) (v := _ + (nI 1)) (ls' := [(0, .ref _), (1, .ref _), (2, .int _), (3, .int _), (4, .int _), (5, .int _), (6, .int _), (7, .int _), (8, .long _), (10, .int _)]) (show decode cL_isWhole 33 = .ok (.iinc 6 1, 3) by decide +kernel) rfl rfl (Nat.le_of_ble_eq_true rfl) rfl ?_
        refine X_iload (j := 7) (show decode cL_isWhole 36 = .ok (.iload 7, 2) by decide +kernel) rfl ?_
        refine X_aload_n (j := 0) (show decode cL_isWhole 38 = .ok (.aload_n 0, 1) by decide +kernel) rfl rfl ?_
        refine X_iload (j := 9) (show decode cL_isWhole 39 = .ok (.iload 10, 2) by decide +kernel) rfl ?_
        obtain ⟨s7, w⟩ := w
        refine X_room (rc' := ((b - 1) * 132 + 523)) (rs' := ((b - 1) * 8792 + 17584)) (by omega) (by omega) ?_
        refine X_sH (rc' := ((b - 1) * 132 + 522)) (rs' := ((b - 1) * 8792 + 17578)) (as := [.ref _, .int _]) msh_L_203 (show decode cL_isWhole 41 = .ok (.invokestatic 203, 3) by decide +kernel) (by decide) (by omega) (by omega) rfl rfl (Nat.le_of_ble_eq_true rfl) (kL_hasRoute w) (fun r9 h8 w => ?_)
        refine X_iadd (show decode cL_isWhole 44 = .ok (.iadd, 1) by decide +kernel) ?_
        refine X_istore (ls' := [(0, .ref _), (1, .ref _), (2, .int _), (3, .int _), (4, .int _), (5, .int _), (6, .int _), (7, .int _), (8, .long _), (10, .int _)]) (show decode cL_isWhole 45 = .ok (.istore 7, 2) by decide +kernel) (by decide) rfl ?_
        refine X_lload (j := 8) (show decode cL_isWhole 47 = .ok (.lload 8, 2) by decide +kernel) rfl ?_
        refine X_aload_n (j := 0) (show decode cL_isWhole 49 = .ok (.aload_n 0, 1) by decide +kernel) rfl rfl ?_
        refine X_iload (j := 9) (show decode cL_isWhole 50 = .ok (.iload 10, 2) by decide +kernel) rfl ?_
        refine X_sH (rc' := ((b - 1) * 132 + 521)) (rs' := ((b - 1) * 8792 + 17572)) (as := [.ref _, .int _]) msh_L_243 (show decode cL_isWhole 52 = .ok (.invokestatic 243, 3) by decide +kernel) (by decide) (by omega) (by omega) rfl rfl (Nat.le_of_ble_eq_true rfl) (kL_delay w) (fun r11 h10 w => ?_)
        refine X_i2l (show decode cL_isWhole 55 = .ok (.i2l, 1) by decide +kernel) ?_
        refine X_ladd (show decode cL_isWhole 56 = .ok (.ladd, 1) by decide +kernel) ?_
        refine X_lstore (ls' := [(0, .ref _), (1, .ref _), (2, .int _), (3, .int _), (4, .int _), (5, .int _), (6, .int _), (7, .int _), (8, .long _), (10, .int _)]) (show decode cL_isWhole 57 = .ok (.lstore 8, 2) by decide +kernel) (by decide) rfl ?_
        refine X_iload (j := 4) (show decode cL_isWhole 59 = .ok (.iload 4, 2) by decide +kernel) rfl ?_
        refine X_if_ne (tgt := 79) (show decode cL_isWhole 61 = .ok (.ifCond .ne 18, 3) by decide +kernel) (by decide) ⟨fun c12 => ?_, fun c12 => ?_⟩
        · have w := w.1 c12
          exact kL_isWhole_J79 (ih (b - 1)) _ _ _ _ _ _ _ _ _ _ _ w
        · have w := w.2 c12
          refine X_iload (j := 9) (show decode cL_isWhole 64 = .ok (.iload 10, 2) by decide +kernel) rfl ?_
          refine X_iconst (v := (nI 3)) (show decode cL_isWhole 66 = .ok (.iconst 3, 1) by decide +kernel) (by decide) ?_
          refine X_irem (show decode cL_isWhole 67 = .ok (.irem, 1) by decide +kernel) (by decide) ?_
          refine X_aload_n (j := 1) (show decode cL_isWhole 68 = .ok (.aload_n 1, 1) by decide +kernel) rfl rfl ?_
          refine X_iload_n (j := 2) (show decode cL_isWhole 69 = .ok (.iload_n 2, 1) by decide +kernel) rfl rfl ?_
          refine X_iconst (v := (nI 1)) (show decode cL_isWhole 70 = .ok (.iconst 1, 1) by decide +kernel) (by decide) ?_
          refine X_iadd (show decode cL_isWhole 71 = .ok (.iadd, 1) by decide +kernel) ?_
          refine X_iconst (v := (nI 3)) (show decode cL_isWhole 72 = .ok (.iconst 3, 1) by decide +kernel) (by decide) ?_
          refine X_sI (rc' := ((b - 1) * 132 + 521)) (rs' := ((b - 1) * 8792 + 17572)) (as := [.ref _, .int _, .int _]) ms_L_192 (show decode cL_isWhole 73 = .ok (.invokestatic 192, 3) by decide +kernel) (by decide) (by omega) (by omega) rfl rfl (Nat.le_of_ble_eq_true rfl) (kL_pick w) (fun E h hk => hk.elim) (fun r17 h16 w => ?_)
          refine X_icmp_ne (tgt := 91) (show decode cL_isWhole 76 = .ok (.if_icmp .ne 15, 3) by decide +kernel) (by decide) ⟨fun c18 => ?_, fun c18 => ?_⟩
          · have w := w.1 c18
            refine X_iinc (j := 9) (v := _ + (nI 1)) (ls' := [(0, .ref _), (1, .ref _), (2, .int _), (3, .int _), (4, .int _), (5, .int _), (6, .int _), (7, .int _), (8, .long _), (10, .int _)]) (show decode cL_isWhole 91 = .ok (.iinc 10 1, 3) by decide +kernel) rfl rfl (Nat.le_of_ble_eq_true rfl) rfl ?_
            refine X_goto (tgt := 18) (show decode cL_isWhole 94 = .ok (.goto (-76), 3) by decide +kernel) (by decide) ?_
            refine X_room (rc' := ((b - 1) * 132 + 391)) (rs' := ((b - 1) * 8792 + 8792)) (by omega) (by omega) ?_
            exact ih (b - 1) _ _ _ _ _ _ _ _ _ _ _ w
          · have w := w.2 c18
            exact kL_isWhole_J79 (ih (b - 1)) _ _ _ _ _ _ _ _ _ _ _ w
set_option maxRecDepth 100000 in
set_option maxHeartbeats 4000000 in
theorem kL_isWhole_J243 {rc0 rs0 : Nat} {K : Int32 → AH → Prop} {c106 : Nat → Nat → Int32 → Int32 → Int32 → Int32 → Int32 → Int32 → Int64 → Int32 → Int32 → Int32 → AH → Prop} (hc106 : ∀ x0 x1 x2 x3 x4 x5 x6 x7 x8 x10 x11 x12 h, c106 x0 x1 x2 x3 x4 x5 x6 x7 x8 x10 x11 x12 h → X mL_isWhole 21 (KI K) T0 rc0 rs0 106 [(0, .ref x0), (1, .ref x1), (2, .int x2), (3, .int x3), (4, .int x4), (5, .int x5), (6, .int x6), (7, .int x7), (8, .long x8), (10, .int x10), (11, .int x11), (12, .int x12)] [] h) (x0 : Nat) (x1 : Nat) (x2 : Int32) (x3 : Int32) (x4 : Int32) (x5 : Int32) (x6 : Int32) (x7 : Int32) (x8 : Int64) (x10 : Int32) (x11 : Int32) (x12 : Int32) (x13 : Int32) (y0 : Int32) (h : AH) (w : wL_isWhole_J243 K c106 x0 x1 x2 x3 x4 x5 x6 x7 x8 x10 x11 x12 x13 y0 h) : X mL_isWhole 21 (KI K) T0 (rc0 + 2) (rs0 + 12) 243 [(0, .ref x0), (1, .ref x1), (2, .int x2), (3, .int x3), (4, .int x4), (5, .int x5), (6, .int x6), (7, .int x7), (8, .long x8), (10, .int x10), (11, .int x11), (12, .int x12), (13, .int x13)] [.int y0] h := by
  unfold wL_isWhole_J243 at w
  refine X_istore (ls' := [(0, .ref _), (1, .ref _), (2, .int _), (3, .int _), (4, .int _), (5, .int _), (6, .int _), (7, .int _), (8, .long _), (10, .int _), (11, .int _), (12, .int _), (13, .int _), (15, .int _)]) (show decode cL_isWhole 243 = .ok (.istore 15, 2) by decide +kernel) (by decide) rfl ?_
  refine X_iload (j := 13) (show decode cL_isWhole 245 = .ok (.iload 15, 2) by decide +kernel) rfl ?_
  refine X_if_eq (tgt := 276) (show decode cL_isWhole 247 = .ok (.ifCond .eq 29, 3) by decide +kernel) (by decide) ⟨fun c39 => ?_, fun c39 => ?_⟩
  · have w := w.1 c39
    refine X_iconst (v := (nI 0)) (show decode cL_isWhole 276 = .ok (.iconst 0, 1) by decide +kernel) (by decide) ?_
    exact X_iret ⟨(show decode cL_isWhole 277 = .ok (.ireturn, 1) by decide +kernel), .boolean, rfl, (by decide)⟩ ⟨_, rfl, w⟩
  · have w := w.2 c39
    refine X_iload (j := 12) (show decode cL_isWhole 250 = .ok (.iload 13, 2) by decide +kernel) rfl ?_
    refine X_if_lt (tgt := 278) (show decode cL_isWhole 252 = .ok (.ifCond .lt 26, 3) by decide +kernel) (by decide) ⟨fun c40 => ?_, fun c40 => ?_⟩
    · have w := w.1 c40
      refine X_iinc (j := 11) (v := _ + (nI 1)) (ls' := [(0, .ref _), (1, .ref _), (2, .int _), (3, .int _), (4, .int _), (5, .int _), (6, .int _), (7, .int _), (8, .long _), (10, .int _), (11, .int _), (12, .int _), (13, .int _), (15, .int _)]) (show decode cL_isWhole 278 = .ok (.iinc 12 1, 3) by decide +kernel) rfl rfl (Nat.le_of_ble_eq_true rfl) rfl ?_
      refine X_goto (tgt := 106) (show decode cL_isWhole 281 = .ok (.goto (-175), 3) by decide +kernel) (by decide) ?_
      refine X_room (rc' := rc0) (rs' := rs0) (by omega) (by omega) ?_
      refine X_pick (ls' := [(0, .ref _), (1, .ref _), (2, .int _), (3, .int _), (4, .int _), (5, .int _), (6, .int _), (7, .int _), (8, .long _), (10, .int _), (11, .int _), (12, .int _)]) [0, 1, 2, 3, 4, 5, 6, 7, 8, 9, 10, 11] rfl ?_
      exact hc106 _ _ _ _ _ _ _ _ _ _ _ _ _ w
    · have w := w.2 c40
      refine X_aload_n (j := 0) (show decode cL_isWhole 255 = .ok (.aload_n 0, 1) by decide +kernel) rfl rfl ?_
      refine X_iload (j := 12) (show decode cL_isWhole 256 = .ok (.iload 13, 2) by decide +kernel) rfl ?_
      refine X_sH (rc' := (rc0 + 1)) (rs' := (rs0 + 6)) (as := [.ref _, .int _]) msh_L_227 (show decode cL_isWhole 258 = .ok (.invokestatic 227, 3) by decide +kernel) (by decide) (by omega) (by omega) rfl rfl (Nat.le_of_ble_eq_true rfl) (kL_blockOf w) (fun r42 h41 w => ?_)
      refine X_iload (j := 11) (show decode cL_isWhole 261 = .ok (.iload 12, 2) by decide +kernel) rfl ?_
      refine X_icmp_eq (tgt := 278) (show decode cL_isWhole 263 = .ok (.if_icmp .eq 15, 3) by decide +kernel) (by decide) ⟨fun c43 => ?_, fun c43 => ?_⟩
      · have w := w.1 c43
        refine X_iinc (j := 11) (v := _ + (nI 1)) (ls' := [(0, .ref _), (1, .ref _), (2, .int _), (3, .int _), (4, .int _), (5, .int _), (6, .int _), (7, .int _), (8, .long _), (10, .int _), (11, .int _), (12, .int _), (13, .int _), (15, .int _)]) (show decode cL_isWhole 278 = .ok (.iinc 12 1, 3) by decide +kernel) rfl rfl (Nat.le_of_ble_eq_true rfl) rfl ?_
        refine X_goto (tgt := 106) (show decode cL_isWhole 281 = .ok (.goto (-175), 3) by decide +kernel) (by decide) ?_
        refine X_room (rc' := rc0) (rs' := rs0) (by omega) (by omega) ?_
        refine X_pick (ls' := [(0, .ref _), (1, .ref _), (2, .int _), (3, .int _), (4, .int _), (5, .int _), (6, .int _), (7, .int _), (8, .long _), (10, .int _), (11, .int _), (12, .int _)]) [0, 1, 2, 3, 4, 5, 6, 7, 8, 9, 10, 11] rfl ?_
        exact hc106 _ _ _ _ _ _ _ _ _ _ _ _ _ w
      · have w := w.2 c43
        refine X_aload_n (j := 0) (show decode cL_isWhole 266 = .ok (.aload_n 0, 1) by decide +kernel) rfl rfl ?_
        refine X_iload (j := 12) (show decode cL_isWhole 267 = .ok (.iload 13, 2) by decide +kernel) rfl ?_
        refine X_sH (rc' := rc0) (rs' := rs0) (as := [.ref _, .int _]) msh_L_203 (show decode cL_isWhole 269 = .ok (.invokestatic 203, 3) by decide +kernel) (by decide) (by omega) (by omega) rfl rfl (Nat.le_of_ble_eq_true rfl) (kL_hasRoute w) (fun r45 h44 w => ?_)
        refine X_iconst (v := (nI 1)) (show decode cL_isWhole 272 = .ok (.iconst 1, 1) by decide +kernel) (by decide) ?_
        refine X_icmp_eq (tgt := 278) (show decode cL_isWhole 273 = .ok (.if_icmp .eq 5, 3) by decide +kernel) (by decide) ⟨fun c46 => ?_, fun c46 => ?_⟩
        · have w := w.1 c46
          refine X_iinc (j := 11) (v := _ + (nI 1)) (ls' := [(0, .ref _), (1, .ref _), (2, .int _), (3, .int _), (4, .int _), (5, .int _), (6, .int _), (7, .int _), (8, .long _), (10, .int _), (11, .int _), (12, .int _), (13, .int _), (15, .int _)]) (show decode cL_isWhole 278 = .ok (.iinc 12 1, 3) by decide +kernel) rfl rfl (Nat.le_of_ble_eq_true rfl) rfl ?_
          refine X_goto (tgt := 106) (show decode cL_isWhole 281 = .ok (.goto (-175), 3) by decide +kernel) (by decide) ?_
          refine X_pick (ls' := [(0, .ref _), (1, .ref _), (2, .int _), (3, .int _), (4, .int _), (5, .int _), (6, .int _), (7, .int _), (8, .long _), (10, .int _), (11, .int _), (12, .int _)]) [0, 1, 2, 3, 4, 5, 6, 7, 8, 9, 10, 11] rfl ?_
          exact hc106 _ _ _ _ _ _ _ _ _ _ _ _ _ w
        · have w := w.2 c46
          refine X_iconst (v := (nI 0)) (show decode cL_isWhole 276 = .ok (.iconst 0, 1) by decide +kernel) (by decide) ?_
          exact X_iret ⟨(show decode cL_isWhole 277 = .ok (.ireturn, 1) by decide +kernel), .boolean, rfl, (by decide)⟩ ⟨_, rfl, w⟩
set_option maxRecDepth 100000 in
set_option maxHeartbeats 4000000 in
theorem kL_isWhole_J238 {rc0 rs0 : Nat} {K : Int32 → AH → Prop} {c106 : Nat → Nat → Int32 → Int32 → Int32 → Int32 → Int32 → Int32 → Int64 → Int32 → Int32 → Int32 → AH → Prop} (hc106 : ∀ x0 x1 x2 x3 x4 x5 x6 x7 x8 x10 x11 x12 h, c106 x0 x1 x2 x3 x4 x5 x6 x7 x8 x10 x11 x12 h → X mL_isWhole 21 (KI K) T0 rc0 rs0 106 [(0, .ref x0), (1, .ref x1), (2, .int x2), (3, .int x3), (4, .int x4), (5, .int x5), (6, .int x6), (7, .int x7), (8, .long x8), (10, .int x10), (11, .int x11), (12, .int x12)] [] h) (x0 : Nat) (x1 : Nat) (x2 : Int32) (x3 : Int32) (x4 : Int32) (x5 : Int32) (x6 : Int32) (x7 : Int32) (x8 : Int64) (x10 : Int32) (x11 : Int32) (x12 : Int32) (x13 : Int32) (h : AH) (w : wL_isWhole_J238 K c106 x0 x1 x2 x3 x4 x5 x6 x7 x8 x10 x11 x12 x13 h) : X mL_isWhole 21 (KI K) T0 (rc0 + 2) (rs0 + 12) 238 [(0, .ref x0), (1, .ref x1), (2, .int x2), (3, .int x3), (4, .int x4), (5, .int x5), (6, .int x6), (7, .int x7), (8, .long x8), (10, .int x10), (11, .int x11), (12, .int x12), (13, .int x13)] [] h := by
  unfold wL_isWhole_J238 at w
  refine X_iconst (v := (nI 1)) (show decode cL_isWhole 238 = .ok (.iconst 1, 1) by decide +kernel) (by decide) ?_
  refine X_goto (tgt := 243) (show decode cL_isWhole 239 = .ok (.goto 4, 3) by decide +kernel) (by decide) ?_
  exact kL_isWhole_J243 hc106 _ _ _ _ _ _ _ _ _ _ _ _ _ _ _ w
set_option maxRecDepth 100000 in
set_option maxHeartbeats 4000000 in
theorem kL_isWhole_J242 {rc0 rs0 : Nat} {K : Int32 → AH → Prop} {c106 : Nat → Nat → Int32 → Int32 → Int32 → Int32 → Int32 → Int32 → Int64 → Int32 → Int32 → Int32 → AH → Prop} (hc106 : ∀ x0 x1 x2 x3 x4 x5 x6 x7 x8 x10 x11 x12 h, c106 x0 x1 x2 x3 x4 x5 x6 x7 x8 x10 x11 x12 h → X mL_isWhole 21 (KI K) T0 rc0 rs0 106 [(0, .ref x0), (1, .ref x1), (2, .int x2), (3, .int x3), (4, .int x4), (5, .int x5), (6, .int x6), (7, .int x7), (8, .long x8), (10, .int x10), (11, .int x11), (12, .int x12)] [] h) (x0 : Nat) (x1 : Nat) (x2 : Int32) (x3 : Int32) (x4 : Int32) (x5 : Int32) (x6 : Int32) (x7 : Int32) (x8 : Int64) (x10 : Int32) (x11 : Int32) (x12 : Int32) (x13 : Int32) (h : AH) (w : wL_isWhole_J242 K c106 x0 x1 x2 x3 x4 x5 x6 x7 x8 x10 x11 x12 x13 h) : X mL_isWhole 21 (KI K) T0 (rc0 + 2) (rs0 + 12) 242 [(0, .ref x0), (1, .ref x1), (2, .int x2), (3, .int x3), (4, .int x4), (5, .int x5), (6, .int x6), (7, .int x7), (8, .long x8), (10, .int x10), (11, .int x11), (12, .int x12), (13, .int x13)] [] h := by
  unfold wL_isWhole_J242 at w
  refine X_iconst (v := (nI 0)) (show decode cL_isWhole 242 = .ok (.iconst 0, 1) by decide +kernel) (by decide) ?_
  exact kL_isWhole_J243 hc106 _ _ _ _ _ _ _ _ _ _ _ _ _ _ _ w
set_option maxRecDepth 100000 in
set_option maxHeartbeats 4000000 in
theorem kL_isWhole_J235 {rc0 rs0 : Nat} {K : Int32 → AH → Prop} {c106 : Nat → Nat → Int32 → Int32 → Int32 → Int32 → Int32 → Int32 → Int64 → Int32 → Int32 → Int32 → AH → Prop} (hc106 : ∀ x0 x1 x2 x3 x4 x5 x6 x7 x8 x10 x11 x12 h, c106 x0 x1 x2 x3 x4 x5 x6 x7 x8 x10 x11 x12 h → X mL_isWhole 21 (KI K) T0 rc0 rs0 106 [(0, .ref x0), (1, .ref x1), (2, .int x2), (3, .int x3), (4, .int x4), (5, .int x5), (6, .int x6), (7, .int x7), (8, .long x8), (10, .int x10), (11, .int x11), (12, .int x12)] [] h) (x0 : Nat) (x1 : Nat) (x2 : Int32) (x3 : Int32) (x4 : Int32) (x5 : Int32) (x6 : Int32) (x7 : Int32) (x8 : Int64) (x10 : Int32) (x11 : Int32) (x12 : Int32) (x13 : Int32) (y0 : Int32) (y1 : Int32) (h : AH) (w : wL_isWhole_J235 K c106 x0 x1 x2 x3 x4 x5 x6 x7 x8 x10 x11 x12 x13 y0 y1 h) : X mL_isWhole 21 (KI K) T0 (rc0 + 2) (rs0 + 12) 235 [(0, .ref x0), (1, .ref x1), (2, .int x2), (3, .int x3), (4, .int x4), (5, .int x5), (6, .int x6), (7, .int x7), (8, .long x8), (10, .int x10), (11, .int x11), (12, .int x12), (13, .int x13)] [.int y1, .int y0] h := by
  unfold wL_isWhole_J235 at w
  refine X_icmp_ne (tgt := 242) (show decode cL_isWhole 235 = .ok (.if_icmp .ne 7, 3) by decide +kernel) (by decide) ⟨fun c52 => ?_, fun c52 => ?_⟩
  · have w := w.1 c52
    exact kL_isWhole_J242 hc106 _ _ _ _ _ _ _ _ _ _ _ _ _ _ w
  · have w := w.2 c52
    exact kL_isWhole_J238 hc106 _ _ _ _ _ _ _ _ _ _ _ _ _ _ w
set_option maxRecDepth 100000 in
set_option maxHeartbeats 4000000 in
theorem kL_isWhole_J234 {rc0 rs0 : Nat} {K : Int32 → AH → Prop} {c106 : Nat → Nat → Int32 → Int32 → Int32 → Int32 → Int32 → Int32 → Int64 → Int32 → Int32 → Int32 → AH → Prop} (hc106 : ∀ x0 x1 x2 x3 x4 x5 x6 x7 x8 x10 x11 x12 h, c106 x0 x1 x2 x3 x4 x5 x6 x7 x8 x10 x11 x12 h → X mL_isWhole 21 (KI K) T0 rc0 rs0 106 [(0, .ref x0), (1, .ref x1), (2, .int x2), (3, .int x3), (4, .int x4), (5, .int x5), (6, .int x6), (7, .int x7), (8, .long x8), (10, .int x10), (11, .int x11), (12, .int x12)] [] h) (x0 : Nat) (x1 : Nat) (x2 : Int32) (x3 : Int32) (x4 : Int32) (x5 : Int32) (x6 : Int32) (x7 : Int32) (x8 : Int64) (x10 : Int32) (x11 : Int32) (x12 : Int32) (x13 : Int32) (y0 : Int32) (h : AH) (w : wL_isWhole_J234 K c106 x0 x1 x2 x3 x4 x5 x6 x7 x8 x10 x11 x12 x13 y0 h) : X mL_isWhole 21 (KI K) T0 (rc0 + 2) (rs0 + 12) 234 [(0, .ref x0), (1, .ref x1), (2, .int x2), (3, .int x3), (4, .int x4), (5, .int x5), (6, .int x6), (7, .int x7), (8, .long x8), (10, .int x10), (11, .int x11), (12, .int x12), (13, .int x13)] [.int y0] h := by
  unfold wL_isWhole_J234 at w
  refine X_iconst (v := (nI 0)) (show decode cL_isWhole 234 = .ok (.iconst 0, 1) by decide +kernel) (by decide) ?_
  exact kL_isWhole_J235 hc106 _ _ _ _ _ _ _ _ _ _ _ _ _ _ _ _ w
set_option maxRecDepth 100000 in
set_option maxHeartbeats 4000000 in
theorem kL_isWhole_J214 {rc0 rs0 : Nat} {K : Int32 → AH → Prop} {c106 : Nat → Nat → Int32 → Int32 → Int32 → Int32 → Int32 → Int32 → Int64 → Int32 → Int32 → Int32 → AH → Prop} (hc106 : ∀ x0 x1 x2 x3 x4 x5 x6 x7 x8 x10 x11 x12 h, c106 x0 x1 x2 x3 x4 x5 x6 x7 x8 x10 x11 x12 h → X mL_isWhole 21 (KI K) T0 rc0 rs0 106 [(0, .ref x0), (1, .ref x1), (2, .int x2), (3, .int x3), (4, .int x4), (5, .int x5), (6, .int x6), (7, .int x7), (8, .long x8), (10, .int x10), (11, .int x11), (12, .int x12)] [] h) (x0 : Nat) (x1 : Nat) (x2 : Int32) (x3 : Int32) (x4 : Int32) (x5 : Int32) (x6 : Int32) (x7 : Int32) (x8 : Int64) (x10 : Int32) (x11 : Int32) (x12 : Int32) (x13 : Int32) (y0 : Int32) (h : AH) (w : wL_isWhole_J214 K c106 x0 x1 x2 x3 x4 x5 x6 x7 x8 x10 x11 x12 x13 y0 h) : X mL_isWhole 21 (KI K) T0 (rc0 + 3) (rs0 + 18) 214 [(0, .ref x0), (1, .ref x1), (2, .int x2), (3, .int x3), (4, .int x4), (5, .int x5), (6, .int x6), (7, .int x7), (8, .long x8), (10, .int x10), (11, .int x11), (12, .int x12), (13, .int x13)] [.int y0] h := by
  unfold wL_isWhole_J214 at w
  refine X_iload (j := 12) (show decode cL_isWhole 214 = .ok (.iload 13, 2) by decide +kernel) rfl ?_
  refine X_if_lt (tgt := 234) (show decode cL_isWhole 216 = .ok (.ifCond .lt 18, 3) by decide +kernel) (by decide) ⟨fun c51 => ?_, fun c51 => ?_⟩
  · have w := w.1 c51
    refine X_room (rc' := (rc0 + 2)) (rs' := (rs0 + 12)) (by omega) (by omega) ?_
    exact kL_isWhole_J234 hc106 _ _ _ _ _ _ _ _ _ _ _ _ _ _ _ w
  · have w := w.2 c51
    refine X_aload_n (j := 0) (show decode cL_isWhole 219 = .ok (.aload_n 0, 1) by decide +kernel) rfl rfl ?_
    refine X_iload (j := 12) (show decode cL_isWhole 220 = .ok (.iload 13, 2) by decide +kernel) rfl ?_
    refine X_sH (rc' := (rc0 + 2)) (rs' := (rs0 + 12)) (as := [.ref _, .int _]) msh_L_227 (show decode cL_isWhole 222 = .ok (.invokestatic 227, 3) by decide +kernel) (by decide) (by omega) (by omega) rfl rfl (Nat.le_of_ble_eq_true rfl) (kL_blockOf w) (fun r54 h53 w => ?_)
    refine X_iload (j := 11) (show decode cL_isWhole 225 = .ok (.iload 12, 2) by decide +kernel) rfl ?_
    refine X_icmp_ne (tgt := 234) (show decode cL_isWhole 227 = .ok (.if_icmp .ne 7, 3) by decide +kernel) (by decide) ⟨fun c55 => ?_, fun c55 => ?_⟩
    · have w := w.1 c55
      exact kL_isWhole_J234 hc106 _ _ _ _ _ _ _ _ _ _ _ _ _ _ _ w
    · have w := w.2 c55
      refine X_iconst (v := (nI 1)) (show decode cL_isWhole 230 = .ok (.iconst 1, 1) by decide +kernel) (by decide) ?_
      refine X_goto (tgt := 235) (show decode cL_isWhole 231 = .ok (.goto 4, 3) by decide +kernel) (by decide) ?_
      exact kL_isWhole_J235 hc106 _ _ _ _ _ _ _ _ _ _ _ _ _ _ _ _ w
set_option maxRecDepth 100000 in
set_option maxHeartbeats 4000000 in
theorem kL_isWhole_J199 {rc0 rs0 : Nat} {K : Int32 → AH → Prop} {c106 : Nat → Nat → Int32 → Int32 → Int32 → Int32 → Int32 → Int32 → Int64 → Int32 → Int32 → Int32 → AH → Prop} (hc106 : ∀ x0 x1 x2 x3 x4 x5 x6 x7 x8 x10 x11 x12 h, c106 x0 x1 x2 x3 x4 x5 x6 x7 x8 x10 x11 x12 h → X mL_isWhole 21 (KI K) T0 rc0 rs0 106 [(0, .ref x0), (1, .ref x1), (2, .int x2), (3, .int x3), (4, .int x4), (5, .int x5), (6, .int x6), (7, .int x7), (8, .long x8), (10, .int x10), (11, .int x11), (12, .int x12)] [] h) (x0 : Nat) (x1 : Nat) (x2 : Int32) (x3 : Int32) (x4 : Int32) (x5 : Int32) (x6 : Int32) (x7 : Int32) (x8 : Int64) (x10 : Int32) (x11 : Int32) (x12 : Int32) (x13 : Int32) (x14 : Int32) (y0 : Int32) (y1 : Int32) (h : AH) (w : wL_isWhole_J199 K c106 x0 x1 x2 x3 x4 x5 x6 x7 x8 x10 x11 x12 x13 x14 y0 y1 h) : X mL_isWhole 21 (KI K) T0 (rc0 + 3) (rs0 + 18) 199 [(0, .ref x0), (1, .ref x1), (2, .int x2), (3, .int x3), (4, .int x4), (5, .int x5), (6, .int x6), (7, .int x7), (8, .long x8), (10, .int x10), (11, .int x11), (12, .int x12), (13, .int x13), (14, .int x14)] [.int y1, .int y0] h := by
  unfold wL_isWhole_J199 at w
  refine X_icmp_ne (tgt := 242) (show decode cL_isWhole 199 = .ok (.if_icmp .ne 43, 3) by decide +kernel) (by decide) ⟨fun c49 => ?_, fun c49 => ?_⟩
  · have w := w.1 c49
    refine X_room (rc' := (rc0 + 2)) (rs' := (rs0 + 12)) (by omega) (by omega) ?_
    refine X_pick (ls' := [(0, .ref _), (1, .ref _), (2, .int _), (3, .int _), (4, .int _), (5, .int _), (6, .int _), (7, .int _), (8, .long _), (10, .int _), (11, .int _), (12, .int _), (13, .int _)]) [0, 1, 2, 3, 4, 5, 6, 7, 8, 9, 10, 11, 12] rfl ?_
    exact kL_isWhole_J242 hc106 _ _ _ _ _ _ _ _ _ _ _ _ _ _ w
  · have w := w.2 c49
    refine X_iload (j := 13) (show decode cL_isWhole 202 = .ok (.iload 14, 2) by decide +kernel) rfl ?_
    refine X_bipush (v := (nI 111)) (show decode cL_isWhole 204 = .ok (.bipush 111, 2) by decide +kernel) (by decide) ?_
    refine X_icmp_ne (tgt := 213) (show decode cL_isWhole 206 = .ok (.if_icmp .ne 7, 3) by decide +kernel) (by decide) ⟨fun c50 => ?_, fun c50 => ?_⟩
    · have w := w.1 c50
      refine X_iconst (v := (nI 0)) (show decode cL_isWhole 213 = .ok (.iconst 0, 1) by decide +kernel) (by decide) ?_
      refine X_pick (ls' := [(0, .ref _), (1, .ref _), (2, .int _), (3, .int _), (4, .int _), (5, .int _), (6, .int _), (7, .int _), (8, .long _), (10, .int _), (11, .int _), (12, .int _), (13, .int _)]) [0, 1, 2, 3, 4, 5, 6, 7, 8, 9, 10, 11, 12] rfl ?_
      exact kL_isWhole_J214 hc106 _ _ _ _ _ _ _ _ _ _ _ _ _ _ _ w
    · have w := w.2 c50
      refine X_iconst (v := (nI 1)) (show decode cL_isWhole 209 = .ok (.iconst 1, 1) by decide +kernel) (by decide) ?_
      refine X_goto (tgt := 214) (show decode cL_isWhole 210 = .ok (.goto 4, 3) by decide +kernel) (by decide) ?_
      refine X_pick (ls' := [(0, .ref _), (1, .ref _), (2, .int _), (3, .int _), (4, .int _), (5, .int _), (6, .int _), (7, .int _), (8, .long _), (10, .int _), (11, .int _), (12, .int _), (13, .int _)]) [0, 1, 2, 3, 4, 5, 6, 7, 8, 9, 10, 11, 12] rfl ?_
      exact kL_isWhole_J214 hc106 _ _ _ _ _ _ _ _ _ _ _ _ _ _ _ w
set_option maxRecDepth 100000 in
set_option maxHeartbeats 4000000 in
theorem kL_isWhole_J189 {rc0 rs0 : Nat} {K : Int32 → AH → Prop} {c106 : Nat → Nat → Int32 → Int32 → Int32 → Int32 → Int32 → Int32 → Int64 → Int32 → Int32 → Int32 → AH → Prop} (hc106 : ∀ x0 x1 x2 x3 x4 x5 x6 x7 x8 x10 x11 x12 h, c106 x0 x1 x2 x3 x4 x5 x6 x7 x8 x10 x11 x12 h → X mL_isWhole 21 (KI K) T0 rc0 rs0 106 [(0, .ref x0), (1, .ref x1), (2, .int x2), (3, .int x3), (4, .int x4), (5, .int x5), (6, .int x6), (7, .int x7), (8, .long x8), (10, .int x10), (11, .int x11), (12, .int x12)] [] h) (x0 : Nat) (x1 : Nat) (x2 : Int32) (x3 : Int32) (x4 : Int32) (x5 : Int32) (x6 : Int32) (x7 : Int32) (x8 : Int64) (x10 : Int32) (x11 : Int32) (x12 : Int32) (x13 : Int32) (x14 : Int32) (y0 : Int32) (h : AH) (w : wL_isWhole_J189 K c106 x0 x1 x2 x3 x4 x5 x6 x7 x8 x10 x11 x12 x13 x14 y0 h) : X mL_isWhole 21 (KI K) T0 (rc0 + 3) (rs0 + 18) 189 [(0, .ref x0), (1, .ref x1), (2, .int x2), (3, .int x3), (4, .int x4), (5, .int x5), (6, .int x6), (7, .int x7), (8, .long x8), (10, .int x10), (11, .int x11), (12, .int x12), (13, .int x13), (14, .int x14)] [.int y0] h := by
  unfold wL_isWhole_J189 at w
  refine X_iload (j := 12) (show decode cL_isWhole 189 = .ok (.iload 13, 2) by decide +kernel) rfl ?_
  refine X_if_ge (tgt := 198) (show decode cL_isWhole 191 = .ok (.ifCond .ge 7, 3) by decide +kernel) (by decide) ⟨fun c48 => ?_, fun c48 => ?_⟩
  · have w := w.1 c48
    refine X_iconst (v := (nI 0)) (show decode cL_isWhole 198 = .ok (.iconst 0, 1) by decide +kernel) (by decide) ?_
    exact kL_isWhole_J199 hc106 _ _ _ _ _ _ _ _ _ _ _ _ _ _ _ _ _ w
  · have w := w.2 c48
    refine X_iconst (v := (nI 1)) (show decode cL_isWhole 194 = .ok (.iconst 1, 1) by decide +kernel) (by decide) ?_
    refine X_goto (tgt := 199) (show decode cL_isWhole 195 = .ok (.goto 4, 3) by decide +kernel) (by decide) ?_
    exact kL_isWhole_J199 hc106 _ _ _ _ _ _ _ _ _ _ _ _ _ _ _ _ _ w
set_option maxRecDepth 100000 in
set_option maxHeartbeats 4000000 in
theorem kL_isWhole_J159 {rc0 rs0 : Nat} {K : Int32 → AH → Prop} {c106 : Nat → Nat → Int32 → Int32 → Int32 → Int32 → Int32 → Int32 → Int64 → Int32 → Int32 → Int32 → AH → Prop} (hc106 : ∀ x0 x1 x2 x3 x4 x5 x6 x7 x8 x10 x11 x12 h, c106 x0 x1 x2 x3 x4 x5 x6 x7 x8 x10 x11 x12 h → X mL_isWhole 21 (KI K) T0 rc0 rs0 106 [(0, .ref x0), (1, .ref x1), (2, .int x2), (3, .int x3), (4, .int x4), (5, .int x5), (6, .int x6), (7, .int x7), (8, .long x8), (10, .int x10), (11, .int x11), (12, .int x12)] [] h) (x0 : Nat) (x1 : Nat) (x2 : Int32) (x3 : Int32) (x4 : Int32) (x5 : Int32) (x6 : Int32) (x7 : Int32) (x8 : Int64) (x10 : Int32) (x12 : Int32) (x13 : Int32) (y0 : Int32) (y1 : Int32) (h : AH) (w : wL_isWhole_J159 K c106 x0 x1 x2 x3 x4 x5 x6 x7 x8 x10 x12 x13 y0 y1 h) : X mL_isWhole 21 (KI K) T0 (rc0 + 4) (rs0 + 24) 159 [(0, .ref x0), (1, .ref x1), (2, .int x2), (3, .int x3), (4, .int x4), (5, .int x5), (6, .int x6), (7, .int x7), (8, .long x8), (10, .int x10), (12, .int x12), (13, .int x13)] [.int y1, .int y0] h := by
  unfold wL_isWhole_J159 at w
  refine X_iadd (show decode cL_isWhole 159 = .ok (.iadd, 1) by decide +kernel) ?_
  refine X_istore (ls' := [(0, .ref _), (1, .ref _), (2, .int _), (3, .int _), (4, .int _), (5, .int _), (6, .int _), (7, .int _), (8, .long _), (10, .int _), (11, .int _), (12, .int _), (13, .int _)]) (show decode cL_isWhole 160 = .ok (.istore 11, 2) by decide +kernel) (by decide) rfl ?_
  refine X_aload_n (j := 0) (show decode cL_isWhole 162 = .ok (.aload_n 0, 1) by decide +kernel) rfl rfl ?_
  refine X_iload (j := 11) (show decode cL_isWhole 163 = .ok (.iload 12, 2) by decide +kernel) rfl ?_
  refine X_sH (rc' := (rc0 + 3)) (rs' := (rs0 + 18)) (as := [.ref _, .int _]) msh_L_245 (show decode cL_isWhole 165 = .ok (.invokestatic 245, 3) by decide +kernel) (by decide) (by omega) (by omega) rfl rfl (Nat.le_of_ble_eq_true rfl) (kL_blockState w) (fun r37 h36 w => ?_)
  refine X_istore (ls' := [(0, .ref _), (1, .ref _), (2, .int _), (3, .int _), (4, .int _), (5, .int _), (6, .int _), (7, .int _), (8, .long _), (10, .int _), (11, .int _), (12, .int _), (13, .int _), (14, .int _)]) (show decode cL_isWhole 168 = .ok (.istore 14, 2) by decide +kernel) (by decide) rfl ?_
  refine X_iload (j := 13) (show decode cL_isWhole 170 = .ok (.iload 14, 2) by decide +kernel) rfl ?_
  refine X_bipush (v := (nI 115)) (show decode cL_isWhole 172 = .ok (.bipush 115, 2) by decide +kernel) (by decide) ?_
  refine X_icmp_eq (tgt := 238) (show decode cL_isWhole 174 = .ok (.if_icmp .eq 64, 3) by decide +kernel) (by decide) ⟨fun c38 => ?_, fun c38 => ?_⟩
  · have w := w.1 c38
    refine X_room (rc' := (rc0 + 2)) (rs' := (rs0 + 12)) (by omega) (by omega) ?_
    refine X_pick (ls' := [(0, .ref _), (1, .ref _), (2, .int _), (3, .int _), (4, .int _), (5, .int _), (6, .int _), (7, .int _), (8, .long _), (10, .int _), (11, .int _), (12, .int _), (13, .int _)]) [0, 1, 2, 3, 4, 5, 6, 7, 8, 9, 10, 11, 12] rfl ?_
    exact kL_isWhole_J238 hc106 _ _ _ _ _ _ _ _ _ _ _ _ _ _ w
  · have w := w.2 c38
    refine X_iload (j := 13) (show decode cL_isWhole 177 = .ok (.iload 14, 2) by decide +kernel) rfl ?_
    refine X_bipush (v := (nI 102)) (show decode cL_isWhole 179 = .ok (.bipush 102, 2) by decide +kernel) (by decide) ?_
    refine X_icmp_ne (tgt := 188) (show decode cL_isWhole 181 = .ok (.if_icmp .ne 7, 3) by decide +kernel) (by decide) ⟨fun c47 => ?_, fun c47 => ?_⟩
    · have w := w.1 c47
      refine X_iconst (v := (nI 0)) (show decode cL_isWhole 188 = .ok (.iconst 0, 1) by decide +kernel) (by decide) ?_
      exact kL_isWhole_J189 hc106 _ _ _ _ _ _ _ _ _ _ _ _ _ _ _ _ w
    · have w := w.2 c47
      refine X_iconst (v := (nI 1)) (show decode cL_isWhole 184 = .ok (.iconst 1, 1) by decide +kernel) (by decide) ?_
      refine X_goto (tgt := 189) (show decode cL_isWhole 185 = .ok (.goto 4, 3) by decide +kernel) (by decide) ?_
      exact kL_isWhole_J189 hc106 _ _ _ _ _ _ _ _ _ _ _ _ _ _ _ _ w
set_option maxRecDepth 100000 in
set_option maxHeartbeats 4000000 in
theorem kL_isWhole_J158 {rc0 rs0 : Nat} {K : Int32 → AH → Prop} {c106 : Nat → Nat → Int32 → Int32 → Int32 → Int32 → Int32 → Int32 → Int64 → Int32 → Int32 → Int32 → AH → Prop} (hc106 : ∀ x0 x1 x2 x3 x4 x5 x6 x7 x8 x10 x11 x12 h, c106 x0 x1 x2 x3 x4 x5 x6 x7 x8 x10 x11 x12 h → X mL_isWhole 21 (KI K) T0 rc0 rs0 106 [(0, .ref x0), (1, .ref x1), (2, .int x2), (3, .int x3), (4, .int x4), (5, .int x5), (6, .int x6), (7, .int x7), (8, .long x8), (10, .int x10), (11, .int x11), (12, .int x12)] [] h) (x0 : Nat) (x1 : Nat) (x2 : Int32) (x3 : Int32) (x4 : Int32) (x5 : Int32) (x6 : Int32) (x7 : Int32) (x8 : Int64) (x10 : Int32) (x12 : Int32) (x13 : Int32) (y0 : Int32) (h : AH) (w : wL_isWhole_J158 K c106 x0 x1 x2 x3 x4 x5 x6 x7 x8 x10 x12 x13 y0 h) : X mL_isWhole 21 (KI K) T0 (rc0 + 4) (rs0 + 24) 158 [(0, .ref x0), (1, .ref x1), (2, .int x2), (3, .int x3), (4, .int x4), (5, .int x5), (6, .int x6), (7, .int x7), (8, .long x8), (10, .int x10), (12, .int x12), (13, .int x13)] [.int y0] h := by
  unfold wL_isWhole_J158 at w
  refine X_iconst (v := (nI 0)) (show decode cL_isWhole 158 = .ok (.iconst 0, 1) by decide +kernel) (by decide) ?_
  exact kL_isWhole_J159 hc106 _ _ _ _ _ _ _ _ _ _ _ _ _ _ _ w
set_option maxRecDepth 100000 in
set_option maxHeartbeats 4000000 in
theorem kL_isWhole_J133 {rc0 rs0 : Nat} {K : Int32 → AH → Prop} {c106 : Nat → Nat → Int32 → Int32 → Int32 → Int32 → Int32 → Int32 → Int64 → Int32 → Int32 → Int32 → AH → Prop} (hc106 : ∀ x0 x1 x2 x3 x4 x5 x6 x7 x8 x10 x11 x12 h, c106 x0 x1 x2 x3 x4 x5 x6 x7 x8 x10 x11 x12 h → X mL_isWhole 21 (KI K) T0 rc0 rs0 106 [(0, .ref x0), (1, .ref x1), (2, .int x2), (3, .int x3), (4, .int x4), (5, .int x5), (6, .int x6), (7, .int x7), (8, .long x8), (10, .int x10), (11, .int x11), (12, .int x12)] [] h) (x0 : Nat) (x1 : Nat) (x2 : Int32) (x3 : Int32) (x4 : Int32) (x5 : Int32) (x6 : Int32) (x7 : Int32) (x8 : Int64) (x11 : Int32) (x12 : Int32) (x13 : Int32) (y0 : Int32) (y1 : Int32) (h : AH) (w : wL_isWhole_J133 K c106 x0 x1 x2 x3 x4 x5 x6 x7 x8 x11 x12 x13 y0 y1 h) : X mL_isWhole 21 (KI K) T0 (rc0 + 5) (rs0 + 30) 133 [(0, .ref x0), (1, .ref x1), (2, .int x2), (3, .int x3), (4, .int x4), (5, .int x5), (6, .int x6), (7, .int x7), (8, .long x8), (11, .int x11), (12, .int x12), (13, .int x13)] [.int y1, .int y0] h := by
  unfold wL_isWhole_J133 at w
  refine X_iadd (show decode cL_isWhole 133 = .ok (.iadd, 1) by decide +kernel) ?_
  refine X_istore (ls' := [(0, .ref _), (1, .ref _), (2, .int _), (3, .int _), (4, .int _), (5, .int _), (6, .int _), (7, .int _), (8, .long _), (10, .int _), (11, .int _), (12, .int _), (13, .int _)]) (show decode cL_isWhole 134 = .ok (.istore 10, 2) by decide +kernel) (by decide) rfl ?_
  refine X_iload (j := 10) (show decode cL_isWhole 136 = .ok (.iload 11, 2) by decide +kernel) rfl ?_
  refine X_iload (j := 12) (show decode cL_isWhole 138 = .ok (.iload 13, 2) by decide +kernel) rfl ?_
  refine X_if_lt (tgt := 158) (show decode cL_isWhole 140 = .ok (.ifCond .lt 18, 3) by decide +kernel) (by decide) ⟨fun c35 => ?_, fun c35 => ?_⟩
  · have w := w.1 c35
    refine X_room (rc' := (rc0 + 4)) (rs' := (rs0 + 24)) (by omega) (by omega) ?_
    refine X_pick (ls' := [(0, .ref _), (1, .ref _), (2, .int _), (3, .int _), (4, .int _), (5, .int _), (6, .int _), (7, .int _), (8, .long _), (10, .int _), (12, .int _), (13, .int _)]) [0, 1, 2, 3, 4, 5, 6, 7, 8, 9, 11, 12] rfl ?_
    exact kL_isWhole_J158 hc106 _ _ _ _ _ _ _ _ _ _ _ _ _ _ w
  · have w := w.2 c35
    refine X_aload_n (j := 0) (show decode cL_isWhole 143 = .ok (.aload_n 0, 1) by decide +kernel) rfl rfl ?_
    refine X_iload (j := 12) (show decode cL_isWhole 144 = .ok (.iload 13, 2) by decide +kernel) rfl ?_
    refine X_sH (rc' := (rc0 + 4)) (rs' := (rs0 + 24)) (as := [.ref _, .int _]) msh_L_227 (show decode cL_isWhole 146 = .ok (.invokestatic 227, 3) by decide +kernel) (by decide) (by omega) (by omega) rfl rfl (Nat.le_of_ble_eq_true rfl) (kL_blockOf w) (fun r57 h56 w => ?_)
    refine X_iload (j := 11) (show decode cL_isWhole 149 = .ok (.iload 12, 2) by decide +kernel) rfl ?_
    refine X_icmp_ne (tgt := 158) (show decode cL_isWhole 151 = .ok (.if_icmp .ne 7, 3) by decide +kernel) (by decide) ⟨fun c58 => ?_, fun c58 => ?_⟩
    · have w := w.1 c58
      refine X_pick (ls' := [(0, .ref _), (1, .ref _), (2, .int _), (3, .int _), (4, .int _), (5, .int _), (6, .int _), (7, .int _), (8, .long _), (10, .int _), (12, .int _), (13, .int _)]) [0, 1, 2, 3, 4, 5, 6, 7, 8, 9, 11, 12] rfl ?_
      exact kL_isWhole_J158 hc106 _ _ _ _ _ _ _ _ _ _ _ _ _ _ w
    · have w := w.2 c58
      refine X_iconst (v := (nI 1)) (show decode cL_isWhole 154 = .ok (.iconst 1, 1) by decide +kernel) (by decide) ?_
      refine X_goto (tgt := 159) (show decode cL_isWhole 155 = .ok (.goto 4, 3) by decide +kernel) (by decide) ?_
      refine X_pick (ls' := [(0, .ref _), (1, .ref _), (2, .int _), (3, .int _), (4, .int _), (5, .int _), (6, .int _), (7, .int _), (8, .long _), (10, .int _), (12, .int _), (13, .int _)]) [0, 1, 2, 3, 4, 5, 6, 7, 8, 9, 11, 12] rfl ?_
      exact kL_isWhole_J159 hc106 _ _ _ _ _ _ _ _ _ _ _ _ _ _ _ w
set_option maxRecDepth 100000 in
set_option maxHeartbeats 4000000 in
theorem kL_isWhole_L106 {K : Int32 → AH → Prop} {c284 : Nat → Nat → Int32 → Int32 → Int32 → Int32 → Int32 → Int32 → Int64 → Int32 → Int32 → AH → Prop} (hc284 : ∀ x0 x1 x2 x3 x4 x5 x6 x7 x8 x10 x11 h, c284 x0 x1 x2 x3 x4 x5 x6 x7 x8 x10 x11 h → X mL_isWhole 21 (KI K) T0 307 1842 284 [(0, .ref x0), (1, .ref x1), (2, .int x2), (3, .int x3), (4, .int x4), (5, .int x5), (6, .int x6), (7, .int x7), (8, .long x8), (10, .int x10), (11, .int x11)] [] h)  : ∀ (n : Nat) (b : Nat) (x0 : Nat) (x1 : Nat) (x2 : Int32) (x3 : Int32) (x4 : Int32) (x5 : Int32) (x6 : Int32) (x7 : Int32) (x8 : Int64) (x10 : Int32) (x11 : Int32) (x12 : Int32) (h : AH), wL_isWhole_L106 K c284  n b x0 x1 x2 x3 x4 x5 x6 x7 x8 x10 x11 x12 h → X mL_isWhole 21 (KI K) T0 (b * 7 + 307) (b * 42 + 1842) 106 [(0, .ref x0), (1, .ref x1), (2, .int x2), (3, .int x3), (4, .int x4), (5, .int x5), (6, .int x6), (7, .int x7), (8, .long x8), (10, .int x10), (11, .int x11), (12, .int x12)] [] h := by
  intro n
  induction n with
  | zero => intro _ _ _ _ _ _ _ _ _ _ _ _ _ _ w; exact w.elim
  | succ n ih =>
    intro b x0 x1 x2 x3 x4 x5 x6 x7 x8 x10 x11 x12 h w
    rw [wL_isWhole_L106] at w
    refine X_iload (j := 11) (show decode cL_isWhole 106 = .ok (.iload 12, 2) by decide +kernel) rfl ?_
    refine X_iload (j := 5) (show decode cL_isWhole 108 = .ok (.iload 5, 2) by decide +kernel) rfl ?_
    refine X_icmp_ge (tgt := 284) (show decode cL_isWhole 110 = .ok (.if_icmp .ge 174, 3) by decide +kernel) (by decide) ⟨fun c30 => ?_, fun c30 => ?_⟩
    · have w := w.1 c30
      refine X_room (rc' := 307) (rs' := 1842) (by omega) (by omega) ?_
      refine X_pick (ls' := [(0, .ref _), (1, .ref _), (2, .int _), (3, .int _), (4, .int _), (5, .int _), (6, .int _), (7, .int _), (8, .long _), (10, .int _), (11, .int _)]) [0, 1, 2, 3, 4, 5, 6, 7, 8, 9, 10] rfl ?_
      exact hc284 _ _ _ _ _ _ _ _ _ _ _ _ w
    · have w := w.2 c30
      refine X_aload_n (j := 0) (show decode cL_isWhole 113 = .ok (.aload_n 0, 1) by decide +kernel) rfl rfl ?_
      refine X_iload (j := 11) (show decode cL_isWhole 114 = .ok (.iload 12, 2) by decide +kernel) rfl ?_
      obtain ⟨s31, w⟩ := w
      refine X_room (rc' := ((b - 1) * 7 + 314)) (rs' := ((b - 1) * 42 + 1884)) (by omega) (by omega) ?_
      refine X_sH (rc' := ((b - 1) * 7 + 312)) (rs' := ((b - 1) * 42 + 1872)) (as := [.ref _, .int _]) msh_L_311 (show decode cL_isWhole 116 = .ok (.invokestatic 311, 3) by decide +kernel) (by decide) (by omega) (by omega) rfl rfl (Nat.le_of_ble_eq_true rfl) (kL_trainAt w) (fun r33 h32 w => ?_)
      refine X_istore (ls' := [(0, .ref _), (1, .ref _), (2, .int _), (3, .int _), (4, .int _), (5, .int _), (6, .int _), (7, .int _), (8, .long _), (10, .int _), (11, .int _), (12, .int _), (13, .int _)]) (show decode cL_isWhole 119 = .ok (.istore 13, 2) by decide +kernel) (by decide) rfl ?_
      refine X_iload (j := 9) (show decode cL_isWhole 121 = .ok (.iload 10, 2) by decide +kernel) rfl ?_
      refine X_iload (j := 12) (show decode cL_isWhole 123 = .ok (.iload 13, 2) by decide +kernel) rfl ?_
      refine X_if_lt (tgt := 132) (show decode cL_isWhole 125 = .ok (.ifCond .lt 7, 3) by decide +kernel) (by decide) ⟨fun c34 => ?_, fun c34 => ?_⟩
      · have w := w.1 c34
        refine X_iconst (v := (nI 0)) (show decode cL_isWhole 132 = .ok (.iconst 0, 1) by decide +kernel) (by decide) ?_
        refine X_pick (ls' := [(0, .ref _), (1, .ref _), (2, .int _), (3, .int _), (4, .int _), (5, .int _), (6, .int _), (7, .int _), (8, .long _), (11, .int _), (12, .int _), (13, .int _)]) [0, 1, 2, 3, 4, 5, 6, 7, 8, 10, 11, 12] rfl ?_
        exact kL_isWhole_J133 (ih (b - 1)) _ _ _ _ _ _ _ _ _ _ _ _ _ _ _ w
      · have w := w.2 c34
        refine X_iconst (v := (nI 1)) (show decode cL_isWhole 128 = .ok (.iconst 1, 1) by decide +kernel) (by decide) ?_
        refine X_goto (tgt := 133) (show decode cL_isWhole 129 = .ok (.goto 4, 3) by decide +kernel) (by decide) ?_
        refine X_pick (ls' := [(0, .ref _), (1, .ref _), (2, .int _), (3, .int _), (4, .int _), (5, .int _), (6, .int _), (7, .int _), (8, .long _), (11, .int _), (12, .int _), (13, .int _)]) [0, 1, 2, 3, 4, 5, 6, 7, 8, 10, 11, 12] rfl ?_
        exact kL_isWhole_J133 (ih (b - 1)) _ _ _ _ _ _ _ _ _ _ _ _ _ _ _ w
set_option maxRecDepth 100000 in
set_option maxHeartbeats 4000000 in
theorem kL_isWhole_L287 {K : Int32 → AH → Prop} {c318 : Nat → Nat → Int32 → Int32 → Int32 → Int32 → Int32 → Int32 → Int64 → Int32 → Int32 → AH → Prop} (hc318 : ∀ x0 x1 x2 x3 x4 x5 x6 x7 x8 x10 x11 h, c318 x0 x1 x2 x3 x4 x5 x6 x7 x8 x10 x11 h → X mL_isWhole 21 (KI K) T0 291 1746 318 [(0, .ref x0), (1, .ref x1), (2, .int x2), (3, .int x3), (4, .int x4), (5, .int x5), (6, .int x6), (7, .int x7), (8, .long x8), (10, .int x10), (11, .int x11)] [] h)  : ∀ (n : Nat) (b : Nat) (x0 : Nat) (x1 : Nat) (x2 : Int32) (x3 : Int32) (x4 : Int32) (x5 : Int32) (x6 : Int32) (x7 : Int32) (x8 : Int64) (x10 : Int32) (x11 : Int32) (x12 : Int32) (h : AH), wL_isWhole_L287 K c318  n b x0 x1 x2 x3 x4 x5 x6 x7 x8 x10 x11 x12 h → X mL_isWhole 21 (KI K) T0 (b * 2 + 291) (b * 12 + 1746) 287 [(0, .ref x0), (1, .ref x1), (2, .int x2), (3, .int x3), (4, .int x4), (5, .int x5), (6, .int x6), (7, .int x7), (8, .long x8), (10, .int x10), (11, .int x11), (12, .int x12)] [] h := by
  intro n
  induction n with
  | zero => intro _ _ _ _ _ _ _ _ _ _ _ _ _ _ w; exact w.elim
  | succ n ih =>
    intro b x0 x1 x2 x3 x4 x5 x6 x7 x8 x10 x11 x12 h w
    rw [wL_isWhole_L287] at w
    refine X_iload (j := 11) (show decode cL_isWhole 287 = .ok (.iload 12, 2) by decide +kernel) rfl ?_
    refine X_iload (j := 6) (show decode cL_isWhole 289 = .ok (.iload 6, 2) by decide +kernel) rfl ?_
    refine X_iload (j := 7) (show decode cL_isWhole 291 = .ok (.iload 7, 2) by decide +kernel) rfl ?_
    refine X_isub (show decode cL_isWhole 293 = .ok (.isub, 1) by decide +kernel) ?_
    refine X_icmp_ge (tgt := 318) (show decode cL_isWhole 294 = .ok (.if_icmp .ge 24, 3) by decide +kernel) (by decide) ⟨fun c71 => ?_, fun c71 => ?_⟩
    · have w := w.1 c71
      refine X_room (rc' := 291) (rs' := 1746) (by omega) (by omega) ?_
      refine X_pick (ls' := [(0, .ref _), (1, .ref _), (2, .int _), (3, .int _), (4, .int _), (5, .int _), (6, .int _), (7, .int _), (8, .long _), (10, .int _), (11, .int _)]) [0, 1, 2, 3, 4, 5, 6, 7, 8, 9, 10] rfl ?_
      exact hc318 _ _ _ _ _ _ _ _ _ _ _ _ w
    · have w := w.2 c71
      refine X_aload_n (j := 0) (show decode cL_isWhole 297 = .ok (.aload_n 0, 1) by decide +kernel) rfl rfl ?_
      refine X_aload_n (j := 0) (show decode cL_isWhole 298 = .ok (.aload_n 0, 1) by decide +kernel) rfl rfl ?_
      refine X_iload (j := 11) (show decode cL_isWhole 299 = .ok (.iload 12, 2) by decide +kernel) rfl ?_
      obtain ⟨s72, w⟩ := w
      refine X_room (rc' := ((b - 1) * 2 + 293)) (rs' := ((b - 1) * 12 + 1758)) (by omega) (by omega) ?_
      refine X_sH (rc' := ((b - 1) * 2 + 292)) (rs' := ((b - 1) * 12 + 1752)) (as := [.ref _, .int _]) msh_L_241 (show decode cL_isWhole 301 = .ok (.invokestatic 241, 3) by decide +kernel) (by decide) (by omega) (by omega) rfl rfl (Nat.le_of_ble_eq_true rfl) (kL_queued w) (fun r74 h73 w => ?_)
      refine X_sH (rc' := ((b - 1) * 2 + 291)) (rs' := ((b - 1) * 12 + 1746)) (as := [.ref _, .int _]) msh_L_203 (show decode cL_isWhole 304 = .ok (.invokestatic 203, 3) by decide +kernel) (by decide) (by omega) (by omega) rfl rfl (Nat.le_of_ble_eq_true rfl) (kL_hasRoute w) (fun r76 h75 w => ?_)
      refine X_if_eq (tgt := 312) (show decode cL_isWhole 307 = .ok (.ifCond .eq 5, 3) by decide +kernel) (by decide) ⟨fun c77 => ?_, fun c77 => ?_⟩
      · have w := w.1 c77
        refine X_iinc (j := 11) (v := _ + (nI 1)) (ls' := [(0, .ref _), (1, .ref _), (2, .int _), (3, .int _), (4, .int _), (5, .int _), (6, .int _), (7, .int _), (8, .long _), (10, .int _), (11, .int _), (12, .int _)]) (show decode cL_isWhole 312 = .ok (.iinc 12 1, 3) by decide +kernel) rfl rfl (Nat.le_of_ble_eq_true rfl) rfl ?_
        refine X_goto (tgt := 287) (show decode cL_isWhole 315 = .ok (.goto (-28), 3) by decide +kernel) (by decide) ?_
        exact ih (b - 1) _ _ _ _ _ _ _ _ _ _ _ _ _ w
      · have w := w.2 c77
        refine X_iconst (v := (nI 0)) (show decode cL_isWhole 310 = .ok (.iconst 0, 1) by decide +kernel) (by decide) ?_
        exact X_iret ⟨(show decode cL_isWhole 311 = .ok (.ireturn, 1) by decide +kernel), .boolean, rfl, (by decide)⟩ ⟨_, rfl, w⟩
set_option maxRecDepth 100000 in
set_option maxHeartbeats 4000000 in
theorem kL_isWhole_L321 {K : Int32 → AH → Prop} {c359 : Nat → Nat → Int32 → Int32 → Int32 → Int32 → Int32 → Int32 → Int64 → Int32 → Int32 → AH → Prop} (hc359 : ∀ x0 x1 x2 x3 x4 x5 x6 x7 x8 x10 x11 h, c359 x0 x1 x2 x3 x4 x5 x6 x7 x8 x10 x11 h → X mL_isWhole 21 (KI K) T0 251 1506 359 [(0, .ref x0), (1, .ref x1), (2, .int x2), (3, .int x3), (4, .int x4), (5, .int x5), (6, .int x6), (7, .int x7), (8, .long x8), (10, .int x10), (11, .int x11)] [] h)  : ∀ (n : Nat) (b : Nat) (x0 : Nat) (x1 : Nat) (x2 : Int32) (x3 : Int32) (x4 : Int32) (x5 : Int32) (x6 : Int32) (x7 : Int32) (x8 : Int64) (x10 : Int32) (x11 : Int32) (x12 : Int32) (h : AH), wL_isWhole_L321 K c359  n b x0 x1 x2 x3 x4 x5 x6 x7 x8 x10 x11 x12 h → X mL_isWhole 21 (KI K) T0 (b * 5 + 251) (b * 30 + 1506) 321 [(0, .ref x0), (1, .ref x1), (2, .int x2), (3, .int x3), (4, .int x4), (5, .int x5), (6, .int x6), (7, .int x7), (8, .long x8), (10, .int x10), (11, .int x11), (12, .int x12)] [] h := by
  intro n
  induction n with
  | zero => intro _ _ _ _ _ _ _ _ _ _ _ _ _ _ w; exact w.elim
  | succ n ih =>
    intro b x0 x1 x2 x3 x4 x5 x6 x7 x8 x10 x11 x12 h w
    rw [wL_isWhole_L321] at w
    refine X_iload (j := 11) (show decode cL_isWhole 321 = .ok (.iload 12, 2) by decide +kernel) rfl ?_
    refine X_bipush (v := (nI 8)) (show decode cL_isWhole 323 = .ok (.bipush 8, 2) by decide +kernel) (by decide) ?_
    refine X_icmp_ge (tgt := 359) (show decode cL_isWhole 325 = .ok (.if_icmp .ge 34, 3) by decide +kernel) (by decide) ⟨fun c90 => ?_, fun c90 => ?_⟩
    · have w := w.1 c90
      refine X_room (rc' := 251) (rs' := 1506) (by omega) (by omega) ?_
      refine X_pick (ls' := [(0, .ref _), (1, .ref _), (2, .int _), (3, .int _), (4, .int _), (5, .int _), (6, .int _), (7, .int _), (8, .long _), (10, .int _), (11, .int _)]) [0, 1, 2, 3, 4, 5, 6, 7, 8, 9, 10] rfl ?_
      exact hc359 _ _ _ _ _ _ _ _ _ _ _ _ w
    · have w := w.2 c90
      refine X_aload_n (j := 0) (show decode cL_isWhole 328 = .ok (.aload_n 0, 1) by decide +kernel) rfl rfl ?_
      refine X_iload (j := 11) (show decode cL_isWhole 329 = .ok (.iload 12, 2) by decide +kernel) rfl ?_
      obtain ⟨s91, w⟩ := w
      refine X_room (rc' := ((b - 1) * 5 + 256)) (rs' := ((b - 1) * 30 + 1536)) (by omega) (by omega) ?_
      refine X_sH (rc' := ((b - 1) * 5 + 254)) (rs' := ((b - 1) * 30 + 1524)) (as := [.ref _, .int _]) msh_L_321 (show decode cL_isWhole 331 = .ok (.invokestatic 321, 3) by decide +kernel) (by decide) (by omega) (by omega) rfl rfl (Nat.le_of_ble_eq_true rfl) (kL_lockedBy w) (fun r93 h92 w => ?_)
      refine X_if_lt (tgt := 353) (show decode cL_isWhole 334 = .ok (.ifCond .lt 19, 3) by decide +kernel) (by decide) ⟨fun c94 => ?_, fun c94 => ?_⟩
      · have w := w.1 c94
        refine X_iinc (j := 11) (v := _ + (nI 1)) (ls' := [(0, .ref _), (1, .ref _), (2, .int _), (3, .int _), (4, .int _), (5, .int _), (6, .int _), (7, .int _), (8, .long _), (10, .int _), (11, .int _), (12, .int _)]) (show decode cL_isWhole 353 = .ok (.iinc 12 1, 3) by decide +kernel) rfl rfl (Nat.le_of_ble_eq_true rfl) rfl ?_
        refine X_goto (tgt := 321) (show decode cL_isWhole 356 = .ok (.goto (-35), 3) by decide +kernel) (by decide) ?_
        refine X_room (rc' := ((b - 1) * 5 + 251)) (rs' := ((b - 1) * 30 + 1506)) (by omega) (by omega) ?_
        exact ih (b - 1) _ _ _ _ _ _ _ _ _ _ _ _ _ w
      · have w := w.2 c94
        refine X_aload_n (j := 0) (show decode cL_isWhole 337 = .ok (.aload_n 0, 1) by decide +kernel) rfl rfl ?_
        refine X_aload_n (j := 0) (show decode cL_isWhole 338 = .ok (.aload_n 0, 1) by decide +kernel) rfl rfl ?_
        refine X_iload (j := 11) (show decode cL_isWhole 339 = .ok (.iload 12, 2) by decide +kernel) rfl ?_
        refine X_sH (rc' := ((b - 1) * 5 + 252)) (rs' := ((b - 1) * 30 + 1512)) (as := [.ref _, .int _]) msh_L_321 (show decode cL_isWhole 341 = .ok (.invokestatic 321, 3) by decide +kernel) (by decide) (by omega) (by omega) rfl rfl (Nat.le_of_ble_eq_true rfl) (kL_lockedBy w) (fun r96 h95 w => ?_)
        refine X_sH (rc' := ((b - 1) * 5 + 251)) (rs' := ((b - 1) * 30 + 1506)) (as := [.ref _, .int _]) msh_L_203 (show decode cL_isWhole 344 = .ok (.invokestatic 203, 3) by decide +kernel) (by decide) (by omega) (by omega) rfl rfl (Nat.le_of_ble_eq_true rfl) (kL_hasRoute w) (fun r98 h97 w => ?_)
        refine X_iconst (v := (nI 1)) (show decode cL_isWhole 347 = .ok (.iconst 1, 1) by decide +kernel) (by decide) ?_
        refine X_icmp_eq (tgt := 353) (show decode cL_isWhole 348 = .ok (.if_icmp .eq 5, 3) by decide +kernel) (by decide) ⟨fun c99 => ?_, fun c99 => ?_⟩
        · have w := w.1 c99
          refine X_iinc (j := 11) (v := _ + (nI 1)) (ls' := [(0, .ref _), (1, .ref _), (2, .int _), (3, .int _), (4, .int _), (5, .int _), (6, .int _), (7, .int _), (8, .long _), (10, .int _), (11, .int _), (12, .int _)]) (show decode cL_isWhole 353 = .ok (.iinc 12 1, 3) by decide +kernel) rfl rfl (Nat.le_of_ble_eq_true rfl) rfl ?_
          refine X_goto (tgt := 321) (show decode cL_isWhole 356 = .ok (.goto (-35), 3) by decide +kernel) (by decide) ?_
          exact ih (b - 1) _ _ _ _ _ _ _ _ _ _ _ _ _ w
        · have w := w.2 c99
          refine X_iconst (v := (nI 0)) (show decode cL_isWhole 351 = .ok (.iconst 0, 1) by decide +kernel) (by decide) ?_
          exact X_iret ⟨(show decode cL_isWhole 352 = .ok (.ireturn, 1) by decide +kernel), .boolean, rfl, (by decide)⟩ ⟨_, rfl, w⟩
set_option maxRecDepth 100000 in
set_option maxHeartbeats 4000000 in
theorem kL_isWhole_J567 {K : Int32 → AH → Prop}   (x0 : Nat) (x3 : Int32) (x6 : Int32) (x7 : Int32) (x8 : Int64) (x11 : Int32) (x12 : Int32) (x15 : Int32) (y0 : Int32) (h : AH) (w : wL_isWhole_J567 K  x0 x3 x6 x7 x8 x11 x12 x15 y0 h) : X mL_isWhole 21 (KI K) T0 10 60 567 [(0, .ref x0), (3, .int x3), (6, .int x6), (7, .int x7), (8, .long x8), (11, .int x11), (12, .int x12), (15, .int x15)] [.int y0] h := by
  unfold wL_isWhole_J567 at w
  refine X_istore (ls' := [(0, .ref _), (3, .int _), (6, .int _), (7, .int _), (8, .long _), (11, .int _), (12, .int _), (15, .int _), (16, .int _)]) (show decode cL_isWhole 567 = .ok (.istore 16, 2) by decide +kernel) (by decide) rfl ?_
  refine X_iload (j := 6) (show decode cL_isWhole 569 = .ok (.iload 12, 2) by decide +kernel) rfl ?_
  refine X_if_eq (tgt := 644) (show decode cL_isWhole 571 = .ok (.ifCond .eq 73, 3) by decide +kernel) (by decide) ⟨fun c123 => ?_, fun c123 => ?_⟩
  · have w := w.1 c123
    refine X_iconst (v := (nI 0)) (show decode cL_isWhole 644 = .ok (.iconst 0, 1) by decide +kernel) (by decide) ?_
    exact X_iret ⟨(show decode cL_isWhole 645 = .ok (.ireturn, 1) by decide +kernel), .boolean, rfl, (by decide)⟩ ⟨_, rfl, w⟩
  · have w := w.2 c123
    refine X_iload (j := 7) (show decode cL_isWhole 574 = .ok (.iload 15, 2) by decide +kernel) rfl ?_
    refine X_if_eq (tgt := 644) (show decode cL_isWhole 576 = .ok (.ifCond .eq 68, 3) by decide +kernel) (by decide) ⟨fun c124 => ?_, fun c124 => ?_⟩
    · have w := w.1 c124
      refine X_iconst (v := (nI 0)) (show decode cL_isWhole 644 = .ok (.iconst 0, 1) by decide +kernel) (by decide) ?_
      exact X_iret ⟨(show decode cL_isWhole 645 = .ok (.ireturn, 1) by decide +kernel), .boolean, rfl, (by decide)⟩ ⟨_, rfl, w⟩
    · have w := w.2 c124
      refine X_iload (j := 8) (show decode cL_isWhole 579 = .ok (.iload 16, 2) by decide +kernel) rfl ?_
      refine X_if_eq (tgt := 644) (show decode cL_isWhole 581 = .ok (.ifCond .eq 63, 3) by decide +kernel) (by decide) ⟨fun c125 => ?_, fun c125 => ?_⟩
      · have w := w.1 c125
        refine X_iconst (v := (nI 0)) (show decode cL_isWhole 644 = .ok (.iconst 0, 1) by decide +kernel) (by decide) ?_
        exact X_iret ⟨(show decode cL_isWhole 645 = .ok (.ireturn, 1) by decide +kernel), .boolean, rfl, (by decide)⟩ ⟨_, rfl, w⟩
      · have w := w.2 c125
        refine X_aload_n (j := 0) (show decode cL_isWhole 584 = .ok (.aload_n 0, 1) by decide +kernel) rfl rfl ?_
        obtain ⟨s142, w⟩ := w
        refine X_vI (rc' := 10) (rs' := 60) (as := []) mv_L_224 (show decode cL_isWhole 585 = .ok (.invokevirtual 224, 3) by decide +kernel) (by decide) (Nat.le_of_ble_eq_true rfl) (Nat.le_of_ble_eq_true rfl) rfl rfl (Nat.le_of_ble_eq_true rfl) (rcvD s142 (by decide) rfl) (kX9_trains w) (fun E h hk => hk.elim) (fun r127 h126 w => ?_)
        refine X_iload (j := 2) (show decode cL_isWhole 588 = .ok (.iload 6, 2) by decide +kernel) rfl ?_
        refine X_icmp_ne (tgt := 644) (show decode cL_isWhole 590 = .ok (.if_icmp .ne 54, 3) by decide +kernel) (by decide) ⟨fun c128 => ?_, fun c128 => ?_⟩
        · have w := w.1 c128
          refine X_iconst (v := (nI 0)) (show decode cL_isWhole 644 = .ok (.iconst 0, 1) by decide +kernel) (by decide) ?_
          exact X_iret ⟨(show decode cL_isWhole 645 = .ok (.ireturn, 1) by decide +kernel), .boolean, rfl, (by decide)⟩ ⟨_, rfl, w⟩
        · have w := w.2 c128
          refine X_iload (j := 2) (show decode cL_isWhole 593 = .ok (.iload 6, 2) by decide +kernel) rfl ?_
          refine X_bipush (v := (nI 8)) (show decode cL_isWhole 595 = .ok (.bipush 8, 2) by decide +kernel) (by decide) ?_
          refine X_icmp_gt (tgt := 644) (show decode cL_isWhole 597 = .ok (.if_icmp .gt 47, 3) by decide +kernel) (by decide) ⟨fun c129 => ?_, fun c129 => ?_⟩
          · have w := w.1 c129
            refine X_iconst (v := (nI 0)) (show decode cL_isWhole 644 = .ok (.iconst 0, 1) by decide +kernel) (by decide) ?_
            exact X_iret ⟨(show decode cL_isWhole 645 = .ok (.ireturn, 1) by decide +kernel), .boolean, rfl, (by decide)⟩ ⟨_, rfl, w⟩
          · have w := w.2 c129
            refine X_iload (j := 5) (show decode cL_isWhole 600 = .ok (.iload 11, 2) by decide +kernel) rfl ?_
            refine X_iload (j := 2) (show decode cL_isWhole 602 = .ok (.iload 6, 2) by decide +kernel) rfl ?_
            refine X_icmp_ne (tgt := 644) (show decode cL_isWhole 604 = .ok (.if_icmp .ne 40, 3) by decide +kernel) (by decide) ⟨fun c130 => ?_, fun c130 => ?_⟩
            · have w := w.1 c130
              refine X_iconst (v := (nI 0)) (show decode cL_isWhole 644 = .ok (.iconst 0, 1) by decide +kernel) (by decide) ?_
              exact X_iret ⟨(show decode cL_isWhole 645 = .ok (.ireturn, 1) by decide +kernel), .boolean, rfl, (by decide)⟩ ⟨_, rfl, w⟩
            · have w := w.2 c130
              refine X_aload_n (j := 0) (show decode cL_isWhole 607 = .ok (.aload_n 0, 1) by decide +kernel) rfl rfl ?_
              refine X_sI (rc' := 0) (rs' := 0) (as := [.ref _]) ms_L_221 (show decode cL_isWhole 608 = .ok (.invokestatic 221, 3) by decide +kernel) (by decide) (Nat.le_of_ble_eq_true rfl) (Nat.le_of_ble_eq_true rfl) rfl rfl (Nat.le_of_ble_eq_true rfl) (kL_waiting w) (fun E h hk => hk.elim) (fun r132 h131 w => ?_)
              refine X_iload (j := 2) (show decode cL_isWhole 611 = .ok (.iload 6, 2) by decide +kernel) rfl ?_
              refine X_iload (j := 3) (show decode cL_isWhole 613 = .ok (.iload 7, 2) by decide +kernel) rfl ?_
              refine X_isub (show decode cL_isWhole 615 = .ok (.isub, 1) by decide +kernel) ?_
              refine X_icmp_ne (tgt := 644) (show decode cL_isWhole 616 = .ok (.if_icmp .ne 28, 3) by decide +kernel) (by decide) ⟨fun c133 => ?_, fun c133 => ?_⟩
              · have w := w.1 c133
                refine X_iconst (v := (nI 0)) (show decode cL_isWhole 644 = .ok (.iconst 0, 1) by decide +kernel) (by decide) ?_
                exact X_iret ⟨(show decode cL_isWhole 645 = .ok (.ireturn, 1) by decide +kernel), .boolean, rfl, (by decide)⟩ ⟨_, rfl, w⟩
              · have w := w.2 c133
                refine X_lload (j := 4) (show decode cL_isWhole 619 = .ok (.lload 8, 2) by decide +kernel) rfl ?_
                refine X_aload_n (j := 0) (show decode cL_isWhole 621 = .ok (.aload_n 0, 1) by decide +kernel) rfl rfl ?_
                obtain ⟨s141, w⟩ := w
                refine X_vL (rc' := 0) (rs' := 0) (as := []) mv_L_217 (show decode cL_isWhole 622 = .ok (.invokevirtual 217, 3) by decide +kernel) (by decide) (Nat.le_of_ble_eq_true rfl) (Nat.le_of_ble_eq_true rfl) rfl rfl (Nat.le_of_ble_eq_true rfl) (rcvD s141 (by decide) rfl) (kX9_totalDelay w) (fun E h hk => hk.elim) (fun r135 h134 w => ?_)
                refine X_lcmp (show decode cL_isWhole 625 = .ok (.lcmp, 1) by decide +kernel) ?_
                refine X_if_gt (tgt := 644) (show decode cL_isWhole 626 = .ok (.ifCond .gt 18, 3) by decide +kernel) (by decide) ⟨fun c136 => ?_, fun c136 => ?_⟩
                · have w := w.1 c136
                  refine X_iconst (v := (nI 0)) (show decode cL_isWhole 644 = .ok (.iconst 0, 1) by decide +kernel) (by decide) ?_
                  exact X_iret ⟨(show decode cL_isWhole 645 = .ok (.ireturn, 1) by decide +kernel), .boolean, rfl, (by decide)⟩ ⟨_, rfl, w⟩
                · have w := w.2 c136
                  refine X_aload_n (j := 0) (show decode cL_isWhole 629 = .ok (.aload_n 0, 1) by decide +kernel) rfl rfl ?_
                  obtain ⟨s140, w⟩ := w
                  refine X_vI (rc' := 0) (rs' := 0) (as := []) mv_L_211 (show decode cL_isWhole 630 = .ok (.invokevirtual 211, 3) by decide +kernel) (by decide) (Nat.le_of_ble_eq_true rfl) (Nat.le_of_ble_eq_true rfl) rfl rfl (Nat.le_of_ble_eq_true rfl) (rcvD s140 (by decide) rfl) (kX9_arrived w) (fun E h hk => hk.elim) (fun r138 h137 w => ?_)
                  refine X_iload (j := 2) (show decode cL_isWhole 633 = .ok (.iload 6, 2) by decide +kernel) rfl ?_
                  refine X_iadd (show decode cL_isWhole 635 = .ok (.iadd, 1) by decide +kernel) ?_
                  refine X_iload_n (j := 1) (show decode cL_isWhole 636 = .ok (.iload_n 3, 1) by decide +kernel) rfl rfl ?_
                  refine X_icmp_ne (tgt := 644) (show decode cL_isWhole 637 = .ok (.if_icmp .ne 7, 3) by decide +kernel) (by decide) ⟨fun c139 => ?_, fun c139 => ?_⟩
                  · have w := w.1 c139
                    refine X_iconst (v := (nI 0)) (show decode cL_isWhole 644 = .ok (.iconst 0, 1) by decide +kernel) (by decide) ?_
                    exact X_iret ⟨(show decode cL_isWhole 645 = .ok (.ireturn, 1) by decide +kernel), .boolean, rfl, (by decide)⟩ ⟨_, rfl, w⟩
                  · have w := w.2 c139
                    refine X_iconst (v := (nI 1)) (show decode cL_isWhole 640 = .ok (.iconst 1, 1) by decide +kernel) (by decide) ?_
                    refine X_goto (tgt := 645) (show decode cL_isWhole 641 = .ok (.goto 4, 3) by decide +kernel) (by decide) ?_
                    exact X_iret ⟨(show decode cL_isWhole 645 = .ok (.ireturn, 1) by decide +kernel), .boolean, rfl, (by decide)⟩ ⟨_, rfl, w⟩
set_option maxRecDepth 100000 in
set_option maxHeartbeats 4000000 in
theorem kL_isWhole_J566 {K : Int32 → AH → Prop}   (x0 : Nat) (x3 : Int32) (x6 : Int32) (x7 : Int32) (x8 : Int64) (x11 : Int32) (x12 : Int32) (x15 : Int32) (h : AH) (w : wL_isWhole_J566 K  x0 x3 x6 x7 x8 x11 x12 x15 h) : X mL_isWhole 21 (KI K) T0 10 60 566 [(0, .ref x0), (3, .int x3), (6, .int x6), (7, .int x7), (8, .long x8), (11, .int x11), (12, .int x12), (15, .int x15)] [] h := by
  unfold wL_isWhole_J566 at w
  refine X_iconst (v := (nI 0)) (show decode cL_isWhole 566 = .ok (.iconst 0, 1) by decide +kernel) (by decide) ?_
  exact kL_isWhole_J567  _ _ _ _ _ _ _ _ _ _ w
set_option maxRecDepth 100000 in
set_option maxHeartbeats 4000000 in
theorem kL_isWhole_J558 {K : Int32 → AH → Prop}   (x0 : Nat) (x3 : Int32) (x6 : Int32) (x7 : Int32) (x8 : Int64) (x11 : Int32) (x12 : Int32) (x15 : Int32) (y0 : UInt32) (y1 : UInt32) (h : AH) (w : wL_isWhole_J558 K  x0 x3 x6 x7 x8 x11 x12 x15 y0 y1 h) : X mL_isWhole 21 (KI K) T0 10 60 558 [(0, .ref x0), (3, .int x3), (6, .int x6), (7, .int x7), (8, .long x8), (11, .int x11), (12, .int x12), (15, .int x15)] [.float y1, .float y0] h := by
  unfold wL_isWhole_J558 at w
  refine X_fcmp (show decode cL_isWhole 558 = .ok (.fcmp .l, 1) by decide +kernel) ?_
  refine X_if_ne (tgt := 566) (show decode cL_isWhole 559 = .ok (.ifCond .ne 7, 3) by decide +kernel) (by decide) ⟨fun c147 => ?_, fun c147 => ?_⟩
  · have w := w.1 c147
    exact kL_isWhole_J566  _ _ _ _ _ _ _ _ _ w
  · have w := w.2 c147
    refine X_iconst (v := (nI 1)) (show decode cL_isWhole 562 = .ok (.iconst 1, 1) by decide +kernel) (by decide) ?_
    refine X_goto (tgt := 567) (show decode cL_isWhole 563 = .ok (.goto 4, 3) by decide +kernel) (by decide) ?_
    exact kL_isWhole_J567  _ _ _ _ _ _ _ _ _ _ w
set_option maxRecDepth 100000 in
set_option maxHeartbeats 4000000 in
theorem kL_isWhole_J533 {K : Int32 → AH → Prop}   (x0 : Nat) (x3 : Int32) (x5 : Int32) (x6 : Int32) (x7 : Int32) (x8 : Int64) (x10 : Int32) (x11 : Int32) (x12 : Int32) (x15 : Int32) (y0 : UInt64) (y1 : UInt64) (h : AH) (w : wL_isWhole_J533 K  x0 x3 x5 x6 x7 x8 x10 x11 x12 x15 y0 y1 h) : X mL_isWhole 21 (KI K) T0 11 66 533 [(0, .ref x0), (3, .int x3), (5, .int x5), (6, .int x6), (7, .int x7), (8, .long x8), (10, .int x10), (11, .int x11), (12, .int x12), (15, .int x15)] [.double y1, .double y0] h := by
  unfold wL_isWhole_J533 at w
  refine X_dcmp (show decode cL_isWhole 533 = .ok (.dcmp .l, 1) by decide +kernel) ?_
  refine X_if_ne (tgt := 566) (show decode cL_isWhole 534 = .ok (.ifCond .ne 32, 3) by decide +kernel) (by decide) ⟨fun c122 => ?_, fun c122 => ?_⟩
  · have w := w.1 c122
    refine X_room (rc' := 10) (rs' := 60) (Nat.le_of_ble_eq_true rfl) (Nat.le_of_ble_eq_true rfl) ?_
    refine X_pick (ls' := [(0, .ref _), (3, .int _), (6, .int _), (7, .int _), (8, .long _), (11, .int _), (12, .int _), (15, .int _)]) [0, 1, 3, 4, 5, 7, 8, 9] rfl ?_
    exact kL_isWhole_J566  _ _ _ _ _ _ _ _ _ w
  · have w := w.2 c122
    refine X_aload_n (j := 0) (show decode cL_isWhole 537 = .ok (.aload_n 0, 1) by decide +kernel) rfl rfl ?_
    refine X_sHF (rc' := 10) (rs' := 60) (as := [.ref _]) msh_L_361 (show decode cL_isWhole 538 = .ok (.invokestatic 361, 3) by decide +kernel) (by decide) (Nat.le_of_ble_eq_true rfl) (Nat.le_of_ble_eq_true rfl) rfl rfl (Nat.le_of_ble_eq_true rfl) (kL_usedShare w) (fun r144 h143 w => ?_)
    refine X_iload (j := 2) (show decode cL_isWhole 541 = .ok (.iload 5, 2) by decide +kernel) rfl ?_
    refine X_if_ne (tgt := 551) (show decode cL_isWhole 543 = .ok (.ifCond .ne 8, 3) by decide +kernel) (by decide) ⟨fun c145 => ?_, fun c145 => ?_⟩
    · have w := w.1 c145
      refine X_iload (j := 6) (show decode cL_isWhole 551 = .ok (.iload 10, 2) by decide +kernel) rfl ?_
      refine X_i2f (show decode cL_isWhole 553 = .ok (.i2f, 1) by decide +kernel) ?_
      refine X_iload (j := 2) (show decode cL_isWhole 554 = .ok (.iload 5, 2) by decide +kernel) rfl ?_
      refine X_i2f (show decode cL_isWhole 556 = .ok (.i2f, 1) by decide +kernel) ?_
      obtain ⟨s146, w⟩ := w
      refine X_fdiv (show decode cL_isWhole 557 = .ok (.fdiv, 1) by decide +kernel) s146 ?_
      refine X_pick (ls' := [(0, .ref _), (3, .int _), (6, .int _), (7, .int _), (8, .long _), (11, .int _), (12, .int _), (15, .int _)]) [0, 1, 3, 4, 5, 7, 8, 9] rfl ?_
      exact kL_isWhole_J558  _ _ _ _ _ _ _ _ _ _ _ w
    · have w := w.2 c145
      refine X_ldcf (v := 3264479232) (show decode cL_isWhole 546 = .ok (.ldc 142, 2) by decide +kernel) gcf_L_142 ?_
      refine X_goto (tgt := 558) (show decode cL_isWhole 548 = .ok (.goto 10, 3) by decide +kernel) (by decide) ?_
      refine X_pick (ls' := [(0, .ref _), (3, .int _), (6, .int _), (7, .int _), (8, .long _), (11, .int _), (12, .int _), (15, .int _)]) [0, 1, 3, 4, 5, 7, 8, 9] rfl ?_
      exact kL_isWhole_J558  _ _ _ _ _ _ _ _ _ _ _ w
set_option maxRecDepth 100000 in
set_option maxHeartbeats 4000000 in
theorem kL_isWhole_J509 {K : Int32 → AH → Prop}   (x0 : Nat) (x3 : Int32) (x5 : Int32) (x6 : Int32) (x7 : Int32) (x8 : Int64) (x10 : Int32) (x11 : Int32) (x12 : Int32) (y0 : Int32) (h : AH) (w : wL_isWhole_J509 K  x0 x3 x5 x6 x7 x8 x10 x11 x12 y0 h) : X mL_isWhole 21 (KI K) T0 12 72 509 [(0, .ref x0), (3, .int x3), (5, .int x5), (6, .int x6), (7, .int x7), (8, .long x8), (10, .int x10), (11, .int x11), (12, .int x12)] [.int y0] h := by
  unfold wL_isWhole_J509 at w
  refine X_istore (ls' := [(0, .ref _), (3, .int _), (5, .int _), (6, .int _), (7, .int _), (8, .long _), (10, .int _), (11, .int _), (12, .int _), (15, .int _)]) (show decode cL_isWhole 509 = .ok (.istore 15, 2) by decide +kernel) (by decide) rfl ?_
  refine X_aload_n (j := 0) (show decode cL_isWhole 511 = .ok (.aload_n 0, 1) by decide +kernel) rfl rfl ?_
  refine X_sHD (rc' := 11) (rs' := 66) (as := [.ref _]) msh_L_358 (show decode cL_isWhole 512 = .ok (.invokestatic 358, 3) by decide +kernel) (by decide) (Nat.le_of_ble_eq_true rfl) (Nat.le_of_ble_eq_true rfl) rfl rfl (Nat.le_of_ble_eq_true rfl) (kL_meanDelay w) (fun r117 h116 w => ?_)
  refine X_iload_n (j := 1) (show decode cL_isWhole 515 = .ok (.iload_n 3, 1) by decide +kernel) rfl rfl ?_
  refine X_if_ne (tgt := 525) (show decode cL_isWhole 516 = .ok (.ifCond .ne 9, 3) by decide +kernel) (by decide) ⟨fun c118 => ?_, fun c118 => ?_⟩
  · have w := w.1 c118
    refine X_aload_n (j := 0) (show decode cL_isWhole 525 = .ok (.aload_n 0, 1) by decide +kernel) rfl rfl ?_
    obtain ⟨s148, w⟩ := w
    refine X_vL (rc' := 11) (rs' := 66) (as := []) mv_L_217 (show decode cL_isWhole 526 = .ok (.invokevirtual 217, 3) by decide +kernel) (by decide) (Nat.le_of_ble_eq_true rfl) (Nat.le_of_ble_eq_true rfl) rfl rfl (Nat.le_of_ble_eq_true rfl) (rcvD s148 (by decide) rfl) (kX9_totalDelay w) (fun E h hk => hk.elim) (fun r120 h119 w => ?_)
    refine X_l2d (show decode cL_isWhole 529 = .ok (.l2d, 1) by decide +kernel) ?_
    refine X_iload_n (j := 1) (show decode cL_isWhole 530 = .ok (.iload_n 3, 1) by decide +kernel) rfl rfl ?_
    refine X_i2d (show decode cL_isWhole 531 = .ok (.i2d, 1) by decide +kernel) ?_
    obtain ⟨s121, w⟩ := w
    refine X_ddiv (show decode cL_isWhole 532 = .ok (.ddiv, 1) by decide +kernel) s121 ?_
    exact kL_isWhole_J533  _ _ _ _ _ _ _ _ _ _ _ _ _ w
  · have w := w.2 c118
    refine X_ldc2d (v := 13858279740860792832) (show decode cL_isWhole 519 = .ok (.ldc2_w 136, 3) by decide +kernel) gcd_L_136 ?_
    refine X_goto (tgt := 533) (show decode cL_isWhole 522 = .ok (.goto 11, 3) by decide +kernel) (by decide) ?_
    exact kL_isWhole_J533  _ _ _ _ _ _ _ _ _ _ _ _ _ w
set_option maxRecDepth 100000 in
set_option maxHeartbeats 4000000 in
theorem kL_isWhole_J504 {K : Int32 → AH → Prop}   (x0 : Nat) (x3 : Int32) (x5 : Int32) (x6 : Int32) (x7 : Int32) (x8 : Int64) (x10 : Int32) (x11 : Int32) (x12 : Int32) (h : AH) (w : wL_isWhole_J504 K  x0 x3 x5 x6 x7 x8 x10 x11 x12 h) : X mL_isWhole 21 (KI K) T0 12 72 504 [(0, .ref x0), (3, .int x3), (5, .int x5), (6, .int x6), (7, .int x7), (8, .long x8), (10, .int x10), (11, .int x11), (12, .int x12)] [] h := by
  unfold wL_isWhole_J504 at w
  refine X_iconst (v := (nI 1)) (show decode cL_isWhole 504 = .ok (.iconst 1, 1) by decide +kernel) (by decide) ?_
  refine X_goto (tgt := 509) (show decode cL_isWhole 505 = .ok (.goto 4, 3) by decide +kernel) (by decide) ?_
  exact kL_isWhole_J509  _ _ _ _ _ _ _ _ _ _ _ w
set_option maxRecDepth 100000 in
set_option maxHeartbeats 4000000 in
theorem kL_isWhole_J508 {K : Int32 → AH → Prop}   (x0 : Nat) (x3 : Int32) (x5 : Int32) (x6 : Int32) (x7 : Int32) (x8 : Int64) (x10 : Int32) (x11 : Int32) (x12 : Int32) (h : AH) (w : wL_isWhole_J508 K  x0 x3 x5 x6 x7 x8 x10 x11 x12 h) : X mL_isWhole 21 (KI K) T0 12 72 508 [(0, .ref x0), (3, .int x3), (5, .int x5), (6, .int x6), (7, .int x7), (8, .long x8), (10, .int x10), (11, .int x11), (12, .int x12)] [] h := by
  unfold wL_isWhole_J508 at w
  refine X_iconst (v := (nI 0)) (show decode cL_isWhole 508 = .ok (.iconst 0, 1) by decide +kernel) (by decide) ?_
  exact kL_isWhole_J509  _ _ _ _ _ _ _ _ _ _ _ w
set_option maxRecDepth 100000 in
set_option maxHeartbeats 4000000 in
theorem kL_isWhole_J494 {K : Int32 → AH → Prop}   (x0 : Nat) (x3 : Int32) (x5 : Int32) (x6 : Int32) (x7 : Int32) (x8 : Int64) (x10 : Int32) (x11 : Int32) (x12 : Int32) (y0 : Int32) (y1 : Int32) (h : AH) (w : wL_isWhole_J494 K  x0 x3 x5 x6 x7 x8 x10 x11 x12 y0 y1 h) : X mL_isWhole 21 (KI K) T0 12 72 494 [(0, .ref x0), (3, .int x3), (5, .int x5), (6, .int x6), (7, .int x7), (8, .long x8), (10, .int x10), (11, .int x11), (12, .int x12)] [.int y1, .int y0] h := by
  unfold wL_isWhole_J494 at w
  refine X_icmp_ne (tgt := 508) (show decode cL_isWhole 494 = .ok (.if_icmp .ne 14, 3) by decide +kernel) (by decide) ⟨fun c160 => ?_, fun c160 => ?_⟩
  · have w := w.1 c160
    exact kL_isWhole_J508  _ _ _ _ _ _ _ _ _ _ w
  · have w := w.2 c160
    refine X_aload_n (j := 0) (show decode cL_isWhole 497 = .ok (.aload_n 0, 1) by decide +kernel) rfl rfl ?_
    obtain ⟨s164, w⟩ := w
    refine X_vI (rc' := 12) (rs' := 72) (as := []) mv_L_354 (show decode cL_isWhole 498 = .ok (.invokevirtual 354, 3) by decide +kernel) (by decide) (Nat.le_of_ble_eq_true rfl) (Nat.le_of_ble_eq_true rfl) rfl rfl (Nat.le_of_ble_eq_true rfl) (rcvD s164 (by decide) rfl) (kX9_isConsistent w) (fun E h hk => hk.elim) (fun r162 h161 w => ?_)
    refine X_if_eq (tgt := 508) (show decode cL_isWhole 501 = .ok (.ifCond .eq 7, 3) by decide +kernel) (by decide) ⟨fun c163 => ?_, fun c163 => ?_⟩
    · have w := w.1 c163
      exact kL_isWhole_J508  _ _ _ _ _ _ _ _ _ _ w
    · have w := w.2 c163
      exact kL_isWhole_J504  _ _ _ _ _ _ _ _ _ _ w
set_option maxRecDepth 100000 in
set_option maxHeartbeats 4000000 in
theorem kL_isWhole_J483 {K : Int32 → AH → Prop}   (x0 : Nat) (x3 : Int32) (x5 : Int32) (x6 : Int32) (x7 : Int32) (x8 : Int64) (x10 : Int32) (x11 : Int32) (x12 : Int32) (y0 : Int32) (h : AH) (w : wL_isWhole_J483 K  x0 x3 x5 x6 x7 x8 x10 x11 x12 y0 h) : X mL_isWhole 21 (KI K) T0 12 72 483 [(0, .ref x0), (3, .int x3), (5, .int x5), (6, .int x6), (7, .int x7), (8, .long x8), (10, .int x10), (11, .int x11), (12, .int x12)] [.int y0] h := by
  unfold wL_isWhole_J483 at w
  refine X_iload (j := 3) (show decode cL_isWhole 483 = .ok (.iload 6, 2) by decide +kernel) rfl ?_
  refine X_iconst (v := (nI 1)) (show decode cL_isWhole 485 = .ok (.iconst 1, 1) by decide +kernel) (by decide) ?_
  refine X_icmp_lt (tgt := 493) (show decode cL_isWhole 486 = .ok (.if_icmp .lt 7, 3) by decide +kernel) (by decide) ⟨fun c159 => ?_, fun c159 => ?_⟩
  · have w := w.1 c159
    refine X_iconst (v := (nI 0)) (show decode cL_isWhole 493 = .ok (.iconst 0, 1) by decide +kernel) (by decide) ?_
    exact kL_isWhole_J494  _ _ _ _ _ _ _ _ _ _ _ _ w
  · have w := w.2 c159
    refine X_iconst (v := (nI 1)) (show decode cL_isWhole 489 = .ok (.iconst 1, 1) by decide +kernel) (by decide) ?_
    refine X_goto (tgt := 494) (show decode cL_isWhole 490 = .ok (.goto 4, 3) by decide +kernel) (by decide) ?_
    exact kL_isWhole_J494  _ _ _ _ _ _ _ _ _ _ _ _ w
set_option maxRecDepth 100000 in
set_option maxHeartbeats 4000000 in
theorem kL_isWhole_J424 {K : Int32 → AH → Prop}   (x0 : Nat) (x3 : Int32) (x4 : Int32) (x5 : Int32) (x6 : Int32) (x7 : Int32) (x8 : Int64) (x10 : Int32) (x11 : Int32) (x12 : Int32) (x13 : Int32) (y0 : Int32) (h : AH) (w : wL_isWhole_J424 K  x0 x3 x4 x5 x6 x7 x8 x10 x11 x12 x13 y0 h) : X mL_isWhole 21 (KI K) T0 12 72 424 [(0, .ref x0), (3, .int x3), (4, .int x4), (5, .int x5), (6, .int x6), (7, .int x7), (8, .long x8), (10, .int x10), (11, .int x11), (12, .int x12), (13, .int x13)] [.int y0] h := by
  unfold wL_isWhole_J424 at w
  refine X_istore (ls' := [(0, .ref _), (3, .int _), (4, .int _), (5, .int _), (6, .int _), (7, .int _), (8, .long _), (10, .int _), (11, .int _), (12, .int _), (13, .int _), (14, .int _)]) (show decode cL_isWhole 424 = .ok (.istore 14, 2) by decide +kernel) (by decide) rfl ?_
  refine X_iload (j := 2) (show decode cL_isWhole 426 = .ok (.iload 4, 2) by decide +kernel) rfl ?_
  refine X_if_eq (tgt := 504) (show decode cL_isWhole 428 = .ok (.ifCond .eq 76, 3) by decide +kernel) (by decide) ⟨fun c115 => ?_, fun c115 => ?_⟩
  · have w := w.1 c115
    refine X_pick (ls' := [(0, .ref _), (3, .int _), (5, .int _), (6, .int _), (7, .int _), (8, .long _), (10, .int _), (11, .int _), (12, .int _)]) [0, 1, 3, 4, 5, 6, 7, 8, 9] rfl ?_
    exact kL_isWhole_J504  _ _ _ _ _ _ _ _ _ _ w
  · have w := w.2 c115
    refine X_aload_n (j := 0) (show decode cL_isWhole 431 = .ok (.aload_n 0, 1) by decide +kernel) rfl rfl ?_
    obtain ⟨s166, w⟩ := w
    refine X_vI (rc' := 12) (rs' := 72) (as := []) mv_L_348 (show decode cL_isWhole 432 = .ok (.invokevirtual 348, 3) by decide +kernel) (by decide) (Nat.le_of_ble_eq_true rfl) (Nat.le_of_ble_eq_true rfl) rfl rfl (Nat.le_of_ble_eq_true rfl) (rcvD s166 (by decide) rfl) (kX9_deadlockedByPairs w) (fun E h hk => hk.elim) (fun r150 h149 w => ?_)
    refine X_iload (j := 10) (show decode cL_isWhole 435 = .ok (.iload 13, 2) by decide +kernel) rfl ?_
    refine X_icmp_ne (tgt := 508) (show decode cL_isWhole 437 = .ok (.if_icmp .ne 71, 3) by decide +kernel) (by decide) ⟨fun c151 => ?_, fun c151 => ?_⟩
    · have w := w.1 c151
      refine X_pick (ls' := [(0, .ref _), (3, .int _), (5, .int _), (6, .int _), (7, .int _), (8, .long _), (10, .int _), (11, .int _), (12, .int _)]) [0, 1, 3, 4, 5, 6, 7, 8, 9] rfl ?_
      exact kL_isWhole_J508  _ _ _ _ _ _ _ _ _ _ w
    · have w := w.2 c151
      refine X_iload (j := 10) (show decode cL_isWhole 440 = .ok (.iload 13, 2) by decide +kernel) rfl ?_
      refine X_iconst (v := (nI 1)) (show decode cL_isWhole 442 = .ok (.iconst 1, 1) by decide +kernel) (by decide) ?_
      refine X_icmp_eq (tgt := 508) (show decode cL_isWhole 443 = .ok (.if_icmp .eq 65, 3) by decide +kernel) (by decide) ⟨fun c152 => ?_, fun c152 => ?_⟩
      · have w := w.1 c152
        refine X_pick (ls' := [(0, .ref _), (3, .int _), (5, .int _), (6, .int _), (7, .int _), (8, .long _), (10, .int _), (11, .int _), (12, .int _)]) [0, 1, 3, 4, 5, 6, 7, 8, 9] rfl ?_
        exact kL_isWhole_J508  _ _ _ _ _ _ _ _ _ _ w
      · have w := w.2 c152
        refine X_iload (j := 10) (show decode cL_isWhole 446 = .ok (.iload 13, 2) by decide +kernel) rfl ?_
        refine X_iload (j := 4) (show decode cL_isWhole 448 = .ok (.iload 6, 2) by decide +kernel) rfl ?_
        refine X_iload (j := 5) (show decode cL_isWhole 450 = .ok (.iload 7, 2) by decide +kernel) rfl ?_
        refine X_isub (show decode cL_isWhole 452 = .ok (.isub, 1) by decide +kernel) ?_
        refine X_icmp_gt (tgt := 508) (show decode cL_isWhole 453 = .ok (.if_icmp .gt 55, 3) by decide +kernel) (by decide) ⟨fun c153 => ?_, fun c153 => ?_⟩
        · have w := w.1 c153
          refine X_pick (ls' := [(0, .ref _), (3, .int _), (5, .int _), (6, .int _), (7, .int _), (8, .long _), (10, .int _), (11, .int _), (12, .int _)]) [0, 1, 3, 4, 5, 6, 7, 8, 9] rfl ?_
          exact kL_isWhole_J508  _ _ _ _ _ _ _ _ _ _ w
        · have w := w.2 c153
          refine X_aload_n (j := 0) (show decode cL_isWhole 456 = .ok (.aload_n 0, 1) by decide +kernel) rfl rfl ?_
          obtain ⟨s165, w⟩ := w
          refine X_vI (rc' := 12) (rs' := 72) (as := []) mv_L_351 (show decode cL_isWhole 457 = .ok (.invokevirtual 351, 3) by decide +kernel) (by decide) (Nat.le_of_ble_eq_true rfl) (Nat.le_of_ble_eq_true rfl) rfl rfl (Nat.le_of_ble_eq_true rfl) (rcvD s165 (by decide) rfl) (kX9_mostWithoutConflictBySets w) (fun E h hk => hk.elim) (fun r155 h154 w => ?_)
          refine X_iload (j := 11) (show decode cL_isWhole 460 = .ok (.iload 14, 2) by decide +kernel) rfl ?_
          refine X_icmp_ne (tgt := 508) (show decode cL_isWhole 462 = .ok (.if_icmp .ne 46, 3) by decide +kernel) (by decide) ⟨fun c156 => ?_, fun c156 => ?_⟩
          · have w := w.1 c156
            refine X_pick (ls' := [(0, .ref _), (3, .int _), (5, .int _), (6, .int _), (7, .int _), (8, .long _), (10, .int _), (11, .int _), (12, .int _)]) [0, 1, 3, 4, 5, 6, 7, 8, 9] rfl ?_
            exact kL_isWhole_J508  _ _ _ _ _ _ _ _ _ _ w
          · have w := w.2 c156
            refine X_iload (j := 11) (show decode cL_isWhole 465 = .ok (.iload 14, 2) by decide +kernel) rfl ?_
            refine X_iload (j := 4) (show decode cL_isWhole 467 = .ok (.iload 6, 2) by decide +kernel) rfl ?_
            refine X_icmp_gt (tgt := 508) (show decode cL_isWhole 469 = .ok (.if_icmp .gt 39, 3) by decide +kernel) (by decide) ⟨fun c157 => ?_, fun c157 => ?_⟩
            · have w := w.1 c157
              refine X_pick (ls' := [(0, .ref _), (3, .int _), (5, .int _), (6, .int _), (7, .int _), (8, .long _), (10, .int _), (11, .int _), (12, .int _)]) [0, 1, 3, 4, 5, 6, 7, 8, 9] rfl ?_
              exact kL_isWhole_J508  _ _ _ _ _ _ _ _ _ _ w
            · have w := w.2 c157
              refine X_iload (j := 11) (show decode cL_isWhole 472 = .ok (.iload 14, 2) by decide +kernel) rfl ?_
              refine X_iconst (v := (nI 1)) (show decode cL_isWhole 474 = .ok (.iconst 1, 1) by decide +kernel) (by decide) ?_
              refine X_icmp_lt (tgt := 482) (show decode cL_isWhole 475 = .ok (.if_icmp .lt 7, 3) by decide +kernel) (by decide) ⟨fun c158 => ?_, fun c158 => ?_⟩
              · have w := w.1 c158
                refine X_iconst (v := (nI 0)) (show decode cL_isWhole 482 = .ok (.iconst 0, 1) by decide +kernel) (by decide) ?_
                refine X_pick (ls' := [(0, .ref _), (3, .int _), (5, .int _), (6, .int _), (7, .int _), (8, .long _), (10, .int _), (11, .int _), (12, .int _)]) [0, 1, 3, 4, 5, 6, 7, 8, 9] rfl ?_
                exact kL_isWhole_J483  _ _ _ _ _ _ _ _ _ _ _ w
              · have w := w.2 c158
                refine X_iconst (v := (nI 1)) (show decode cL_isWhole 478 = .ok (.iconst 1, 1) by decide +kernel) (by decide) ?_
                refine X_goto (tgt := 483) (show decode cL_isWhole 479 = .ok (.goto 4, 3) by decide +kernel) (by decide) ?_
                refine X_pick (ls' := [(0, .ref _), (3, .int _), (5, .int _), (6, .int _), (7, .int _), (8, .long _), (10, .int _), (11, .int _), (12, .int _)]) [0, 1, 3, 4, 5, 6, 7, 8, 9] rfl ?_
                exact kL_isWhole_J483  _ _ _ _ _ _ _ _ _ _ _ w
set_option maxRecDepth 100000 in
set_option maxHeartbeats 4000000 in
theorem kL_isWhole_J409 {K : Int32 → AH → Prop}   (x0 : Nat) (x3 : Int32) (x4 : Int32) (x5 : Int32) (x6 : Int32) (x7 : Int32) (x8 : Int64) (x10 : Int32) (x11 : Int32) (x12 : Int32) (y0 : Int32) (h : AH) (w : wL_isWhole_J409 K  x0 x3 x4 x5 x6 x7 x8 x10 x11 x12 y0 h) : X mL_isWhole 21 (KI K) T0 12 72 409 [(0, .ref x0), (3, .int x3), (4, .int x4), (5, .int x5), (6, .int x6), (7, .int x7), (8, .long x8), (10, .int x10), (11, .int x11), (12, .int x12)] [.int y0] h := by
  unfold wL_isWhole_J409 at w
  refine X_istore (ls' := [(0, .ref _), (3, .int _), (4, .int _), (5, .int _), (6, .int _), (7, .int _), (8, .long _), (10, .int _), (11, .int _), (12, .int _), (13, .int _)]) (show decode cL_isWhole 409 = .ok (.istore 13, 2) by decide +kernel) (by decide) rfl ?_
  refine X_iload (j := 2) (show decode cL_isWhole 411 = .ok (.iload 4, 2) by decide +kernel) rfl ?_
  refine X_if_eq (tgt := 423) (show decode cL_isWhole 413 = .ok (.ifCond .eq 10, 3) by decide +kernel) (by decide) ⟨fun c114 => ?_, fun c114 => ?_⟩
  · have w := w.1 c114
    refine X_iconst (v := (nI 0)) (show decode cL_isWhole 423 = .ok (.iconst 0, 1) by decide +kernel) (by decide) ?_
    exact kL_isWhole_J424  _ _ _ _ _ _ _ _ _ _ _ _ _ w
  · have w := w.2 c114
    refine X_aload_n (j := 0) (show decode cL_isWhole 416 = .ok (.aload_n 0, 1) by decide +kernel) rfl rfl ?_
    obtain ⟨s169, w⟩ := w
    refine X_vI (rc' := 12) (rs' := 72) (as := []) mv_L_345 (show decode cL_isWhole 417 = .ok (.invokevirtual 345, 3) by decide +kernel) (by decide) (Nat.le_of_ble_eq_true rfl) (Nat.le_of_ble_eq_true rfl) rfl rfl (Nat.le_of_ble_eq_true rfl) (rcvD s169 (by decide) rfl) (kX9_mostWithoutConflict w) (fun E h hk => hk.elim) (fun r168 h167 w => ?_)
    refine X_goto (tgt := 424) (show decode cL_isWhole 420 = .ok (.goto 4, 3) by decide +kernel) (by decide) ?_
    exact kL_isWhole_J424  _ _ _ _ _ _ _ _ _ _ _ _ _ w
set_option maxRecDepth 100000 in
set_option maxHeartbeats 4000000 in
theorem kL_isWhole_J394 {K : Int32 → AH → Prop}   (x0 : Nat) (x3 : Int32) (x4 : Int32) (x5 : Int32) (x6 : Int32) (x7 : Int32) (x8 : Int64) (x10 : Int32) (x11 : Int32) (y0 : Int32) (h : AH) (w : wL_isWhole_J394 K  x0 x3 x4 x5 x6 x7 x8 x10 x11 y0 h) : X mL_isWhole 21 (KI K) T0 12 72 394 [(0, .ref x0), (3, .int x3), (4, .int x4), (5, .int x5), (6, .int x6), (7, .int x7), (8, .long x8), (10, .int x10), (11, .int x11)] [.int y0] h := by
  unfold wL_isWhole_J394 at w
  refine X_istore (ls' := [(0, .ref _), (3, .int _), (4, .int _), (5, .int _), (6, .int _), (7, .int _), (8, .long _), (10, .int _), (11, .int _), (12, .int _)]) (show decode cL_isWhole 394 = .ok (.istore 12, 2) by decide +kernel) (by decide) rfl ?_
  refine X_iload (j := 2) (show decode cL_isWhole 396 = .ok (.iload 4, 2) by decide +kernel) rfl ?_
  refine X_if_eq (tgt := 408) (show decode cL_isWhole 398 = .ok (.ifCond .eq 10, 3) by decide +kernel) (by decide) ⟨fun c113 => ?_, fun c113 => ?_⟩
  · have w := w.1 c113
    refine X_iconst (v := (nI 0)) (show decode cL_isWhole 408 = .ok (.iconst 0, 1) by decide +kernel) (by decide) ?_
    exact kL_isWhole_J409  _ _ _ _ _ _ _ _ _ _ _ _ w
  · have w := w.2 c113
    refine X_aload_n (j := 0) (show decode cL_isWhole 401 = .ok (.aload_n 0, 1) by decide +kernel) rfl rfl ?_
    obtain ⟨s172, w⟩ := w
    refine X_vI (rc' := 12) (rs' := 72) (as := []) mv_L_342 (show decode cL_isWhole 402 = .ok (.invokevirtual 342, 3) by decide +kernel) (by decide) (Nat.le_of_ble_eq_true rfl) (Nat.le_of_ble_eq_true rfl) rfl rfl (Nat.le_of_ble_eq_true rfl) (rcvD s172 (by decide) rfl) (kX9_deadlocked w) (fun E h hk => hk.elim) (fun r171 h170 w => ?_)
    refine X_goto (tgt := 409) (show decode cL_isWhole 405 = .ok (.goto 4, 3) by decide +kernel) (by decide) ?_
    exact kL_isWhole_J409  _ _ _ _ _ _ _ _ _ _ _ _ w
set_option maxRecDepth 100000 in
set_option maxHeartbeats 4000000 in
theorem kL_isWhole_J389 {K : Int32 → AH → Prop}   (x0 : Nat) (x3 : Int32) (x4 : Int32) (x5 : Int32) (x6 : Int32) (x7 : Int32) (x8 : Int64) (x10 : Int32) (x11 : Int32) (h : AH) (w : wL_isWhole_J389 K  x0 x3 x4 x5 x6 x7 x8 x10 x11 h) : X mL_isWhole 21 (KI K) T0 12 72 389 [(0, .ref x0), (3, .int x3), (4, .int x4), (5, .int x5), (6, .int x6), (7, .int x7), (8, .long x8), (10, .int x10), (11, .int x11)] [] h := by
  unfold wL_isWhole_J389 at w
  refine X_iconst (v := (nI 1)) (show decode cL_isWhole 389 = .ok (.iconst 1, 1) by decide +kernel) (by decide) ?_
  refine X_goto (tgt := 394) (show decode cL_isWhole 390 = .ok (.goto 4, 3) by decide +kernel) (by decide) ?_
  exact kL_isWhole_J394  _ _ _ _ _ _ _ _ _ _ _ w
set_option maxRecDepth 100000 in
set_option maxHeartbeats 4000000 in
theorem kL_isWhole {a0 : Nat} {a1 : Nat} {a2 : Int32} {a3 : Int32} {a4 : Int32} {h : AH} {K : Int32 → AH → Prop} (w : wL_isWhole a0 a1 a2 a3 a4 h K) : Cn mL_isWhole (cwd mL_isWhole) 21 1447 79128 [.ref a0, .ref a1, .int a2, .int a3, .int a4] h (KI K) T0 := by
  refine Cn_of (by decide +kernel) rfl (Nat.le_of_ble_eq_true rfl) ?_
  show X mL_isWhole 21 (KI K) T0 1447 79128 0 [(0, .ref a0), (1, .ref a1), (2, .int a2), (3, .int a3), (4, .int a4)] [] h
  unfold wL_isWhole at w
  refine X_aload_n (j := 0) (show decode cL_isWhole 0 = .ok (.aload_n 0, 1) by decide +kernel) rfl rfl ?_
  obtain ⟨s184, w⟩ := w
  refine X_vI (rc' := 1447) (rs' := 79128) (as := []) mv_L_196 (show decode cL_isWhole 1 = .ok (.invokevirtual 196, 3) by decide +kernel) (by decide) (Nat.le_of_ble_eq_true rfl) (Nat.le_of_ble_eq_true rfl) rfl rfl (Nat.le_of_ble_eq_true rfl) (rcvD s184 (by decide) rfl) (kX9_blocks w) (fun E h hk => hk.elim) (fun r2 h1 w => ?_)
  refine X_istore (ls' := [(0, .ref _), (1, .ref _), (2, .int _), (3, .int _), (4, .int _), (5, .int _)]) (show decode cL_isWhole 4 = .ok (.istore 5, 2) by decide +kernel) (by decide) rfl ?_
  refine X_iconst (v := (nI 0)) (show decode cL_isWhole 6 = .ok (.iconst 0, 1) by decide +kernel) (by decide) ?_
  refine X_istore (ls' := [(0, .ref _), (1, .ref _), (2, .int _), (3, .int _), (4, .int _), (5, .int _), (6, .int _)]) (show decode cL_isWhole 7 = .ok (.istore 6, 2) by decide +kernel) (by decide) rfl ?_
  refine X_iconst (v := (nI 0)) (show decode cL_isWhole 9 = .ok (.iconst 0, 1) by decide +kernel) (by decide) ?_
  refine X_istore (ls' := [(0, .ref _), (1, .ref _), (2, .int _), (3, .int _), (4, .int _), (5, .int _), (6, .int _), (7, .int _)]) (show decode cL_isWhole 10 = .ok (.istore 7, 2) by decide +kernel) (by decide) rfl ?_
  refine X_lconst (v := 0) (show decode cL_isWhole 12 = .ok (.lconst 0, 1) by decide +kernel) (by decide) ?_
  refine X_lstore (ls' := [(0, .ref _), (1, .ref _), (2, .int _), (3, .int _), (4, .int _), (5, .int _), (6, .int _), (7, .int _), (8, .long _)]) (show decode cL_isWhole 13 = .ok (.lstore 8, 2) by decide +kernel) (by decide) rfl ?_
  refine X_iconst (v := (nI 0)) (show decode cL_isWhole 15 = .ok (.iconst 0, 1) by decide +kernel) (by decide) ?_
  refine X_istore (ls' := [(0, .ref _), (1, .ref _), (2, .int _), (3, .int _), (4, .int _), (5, .int _), (6, .int _), (7, .int _), (8, .long _), (10, .int _)]) (show decode cL_isWhole 16 = .ok (.istore 10, 2) by decide +kernel) (by decide) rfl ?_
  obtain ⟨n183, bn183, hbn183, w⟩ := w
  refine X_room (rc' := bn183 * 132 + 391) (rs' := bn183 * 8792 + 8792) (by omega) (by omega) ?_
  refine kL_isWhole_L18 ?_ n183 bn183 _ _ _ _ _ _ _ _ _ _ _ w
  · intro x0_20 x1_21 x2_22 x3_23 x4_24 x5_25 x6_26 x7_27 x8_28 h29 w
    refine X_iconst (v := (nI 0)) (show decode cL_isWhole 97 = .ok (.iconst 0, 1) by decide +kernel) (by decide) ?_
    refine X_istore (ls' := [(0, .ref _), (1, .ref _), (2, .int _), (3, .int _), (4, .int _), (5, .int _), (6, .int _), (7, .int _), (8, .long _), (10, .int _)]) (show decode cL_isWhole 98 = .ok (.istore 10, 2) by decide +kernel) (by decide) rfl ?_
    refine X_iconst (v := (nI 0)) (show decode cL_isWhole 100 = .ok (.iconst 0, 1) by decide +kernel) (by decide) ?_
    refine X_istore (ls' := [(0, .ref _), (1, .ref _), (2, .int _), (3, .int _), (4, .int _), (5, .int _), (6, .int _), (7, .int _), (8, .long _), (10, .int _), (11, .int _)]) (show decode cL_isWhole 101 = .ok (.istore 11, 2) by decide +kernel) (by decide) rfl ?_
    refine X_iconst (v := (nI 0)) (show decode cL_isWhole 103 = .ok (.iconst 0, 1) by decide +kernel) (by decide) ?_
    refine X_istore (ls' := [(0, .ref _), (1, .ref _), (2, .int _), (3, .int _), (4, .int _), (5, .int _), (6, .int _), (7, .int _), (8, .long _), (10, .int _), (11, .int _), (12, .int _)]) (show decode cL_isWhole 104 = .ok (.istore 12, 2) by decide +kernel) (by decide) rfl ?_
    obtain ⟨n182, bn182, hbn182, w⟩ := w
    refine X_room (rc' := bn182 * 7 + 307) (rs' := bn182 * 42 + 1842) (by omega) (by omega) ?_
    refine kL_isWhole_L106 ?_ n182 bn182 _ _ _ _ _ _ _ _ _ _ _ _ _ w
    · intro x0_59 x1_60 x2_61 x3_62 x4_63 x5_64 x6_65 x7_66 x8_67 x10_68 x11_69 h70 w
      refine X_iconst (v := (nI 0)) (show decode cL_isWhole 284 = .ok (.iconst 0, 1) by decide +kernel) (by decide) ?_
      refine X_istore (ls' := [(0, .ref _), (1, .ref _), (2, .int _), (3, .int _), (4, .int _), (5, .int _), (6, .int _), (7, .int _), (8, .long _), (10, .int _), (11, .int _), (12, .int _)]) (show decode cL_isWhole 285 = .ok (.istore 12, 2) by decide +kernel) (by decide) rfl ?_
      obtain ⟨n181, bn181, hbn181, w⟩ := w
      refine X_room (rc' := bn181 * 2 + 291) (rs' := bn181 * 12 + 1746) (by omega) (by omega) ?_
      refine kL_isWhole_L287 ?_ n181 bn181 _ _ _ _ _ _ _ _ _ _ _ _ _ w
      · intro x0_78 x1_79 x2_80 x3_81 x4_82 x5_83 x6_84 x7_85 x8_86 x10_87 x11_88 h89 w
        refine X_iconst (v := (nI 0)) (show decode cL_isWhole 318 = .ok (.iconst 0, 1) by decide +kernel) (by decide) ?_
        refine X_istore (ls' := [(0, .ref _), (1, .ref _), (2, .int _), (3, .int _), (4, .int _), (5, .int _), (6, .int _), (7, .int _), (8, .long _), (10, .int _), (11, .int _), (12, .int _)]) (show decode cL_isWhole 319 = .ok (.istore 12, 2) by decide +kernel) (by decide) rfl ?_
        obtain ⟨n180, bn180, hbn180, w⟩ := w
        refine X_room (rc' := bn180 * 5 + 251) (rs' := bn180 * 30 + 1506) (by omega) (by omega) ?_
        refine kL_isWhole_L321 ?_ n180 bn180 _ _ _ _ _ _ _ _ _ _ _ _ _ w
        · intro x0_100 x1_101 x2_102 x3_103 x4_104 x5_105 x6_106 x7_107 x8_108 x10_109 x11_110 h111 w
          refine X_iload (j := 5) (show decode cL_isWhole 359 = .ok (.iload 5, 2) by decide +kernel) rfl ?_
          refine X_if_eq (tgt := 389) (show decode cL_isWhole 361 = .ok (.ifCond .eq 28, 3) by decide +kernel) (by decide) ⟨fun c112 => ?_, fun c112 => ?_⟩
          · have w := w.1 c112
            refine X_room (rc' := 12) (rs' := 72) (Nat.le_of_ble_eq_true rfl) (Nat.le_of_ble_eq_true rfl) ?_
            refine X_pick (ls' := [(0, .ref _), (3, .int _), (4, .int _), (5, .int _), (6, .int _), (7, .int _), (8, .long _), (10, .int _), (11, .int _)]) [0, 3, 4, 5, 6, 7, 8, 9, 10] rfl ?_
            exact kL_isWhole_J389  _ _ _ _ _ _ _ _ _ _ w
          · have w := w.2 c112
            refine X_aload_n (j := 0) (show decode cL_isWhole 364 = .ok (.aload_n 0, 1) by decide +kernel) rfl rfl ?_
            refine X_aload_n (j := 1) (show decode cL_isWhole 365 = .ok (.aload_n 1, 1) by decide +kernel) rfl rfl ?_
            refine X_iload_n (j := 2) (show decode cL_isWhole 366 = .ok (.iload_n 2, 1) by decide +kernel) rfl rfl ?_
            refine X_iconst (v := (nI 2)) (show decode cL_isWhole 367 = .ok (.iconst 2, 1) by decide +kernel) (by decide) ?_
            refine X_iadd (show decode cL_isWhole 368 = .ok (.iadd, 1) by decide +kernel) ?_
            refine X_iload (j := 5) (show decode cL_isWhole 369 = .ok (.iload 5, 2) by decide +kernel) rfl ?_
            refine X_sI (rc' := 251) (rs' := 1506) (as := [.ref _, .int _, .int _]) ms_L_192 (show decode cL_isWhole 371 = .ok (.invokestatic 192, 3) by decide +kernel) (by decide) (Nat.le_of_ble_eq_true rfl) (Nat.le_of_ble_eq_true rfl) rfl rfl (Nat.le_of_ble_eq_true rfl) (kL_pick w) (fun E h hk => hk.elim) (fun r174 h173 w => ?_)
            refine X_aload_n (j := 1) (show decode cL_isWhole 374 = .ok (.aload_n 1, 1) by decide +kernel) rfl rfl ?_
            refine X_iload_n (j := 2) (show decode cL_isWhole 375 = .ok (.iload_n 2, 1) by decide +kernel) rfl rfl ?_
            refine X_iconst (v := (nI 3)) (show decode cL_isWhole 376 = .ok (.iconst 3, 1) by decide +kernel) (by decide) ?_
            refine X_iadd (show decode cL_isWhole 377 = .ok (.iadd, 1) by decide +kernel) ?_
            refine X_iload (j := 5) (show decode cL_isWhole 378 = .ok (.iload 5, 2) by decide +kernel) rfl ?_
            refine X_sI (rc' := 251) (rs' := 1506) (as := [.ref _, .int _, .int _]) ms_L_192 (show decode cL_isWhole 380 = .ok (.invokestatic 192, 3) by decide +kernel) (by decide) (Nat.le_of_ble_eq_true rfl) (Nat.le_of_ble_eq_true rfl) rfl rfl (Nat.le_of_ble_eq_true rfl) (kL_pick w) (fun E h hk => hk.elim) (fun r176 h175 w => ?_)
            refine X_sI (rc' := 12) (rs' := 72) (as := [.ref _, .int _, .int _]) ms_L_339 (show decode cL_isWhole 383 = .ok (.invokestatic 339, 3) by decide +kernel) (by decide) (Nat.le_of_ble_eq_true rfl) (Nat.le_of_ble_eq_true rfl) rfl rfl (Nat.le_of_ble_eq_true rfl) (kL_isRoute w) (fun E h hk => hk.elim) (fun r178 h177 w => ?_)
            refine X_if_eq (tgt := 393) (show decode cL_isWhole 386 = .ok (.ifCond .eq 7, 3) by decide +kernel) (by decide) ⟨fun c179 => ?_, fun c179 => ?_⟩
            · have w := w.1 c179
              refine X_iconst (v := (nI 0)) (show decode cL_isWhole 393 = .ok (.iconst 0, 1) by decide +kernel) (by decide) ?_
              refine X_pick (ls' := [(0, .ref _), (3, .int _), (4, .int _), (5, .int _), (6, .int _), (7, .int _), (8, .long _), (10, .int _), (11, .int _)]) [0, 3, 4, 5, 6, 7, 8, 9, 10] rfl ?_
              exact kL_isWhole_J394  _ _ _ _ _ _ _ _ _ _ _ w
            · have w := w.2 c179
              refine X_pick (ls' := [(0, .ref _), (3, .int _), (4, .int _), (5, .int _), (6, .int _), (7, .int _), (8, .long _), (10, .int _), (11, .int _)]) [0, 3, 4, 5, 6, 7, 8, 9, 10] rfl ?_
              exact kL_isWhole_J389  _ _ _ _ _ _ _ _ _ _ w
