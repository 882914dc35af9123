set_option maxRecDepth 100000 in
set_option maxHeartbeats 4000000 in
theorem kL_law_J98 {rc0 rs0 : Nat} {K : Int32 → AH → Prop} {c31 : Nat → Nat → Nat → Int32 → Int32 → Int32 → Int32 → AH → Prop} (hc31 : ∀ x0 x1 x2 x3 x4 x5 x6 h, c31 x0 x1 x2 x3 x4 x5 x6 h → X mZ_law 22 (KI K) T0 rc0 rs0 31 [(0, .ref x0), (1, .ref x1), (2, .ref x2), (3, .int x3), (4, .int x4), (5, .int x5), (6, .int x6)] [] h) (x0 : Nat) (x1 : Nat) (x2 : Nat) (x3 : Int32) (x4 : Int32) (x5 : Int32) (x6 : Int32) (x7 : Int64) (y0 : Int32) (h : AH) (w : wL_law_J98 K c31 x0 x1 x2 x3 x4 x5 x6 x7 y0 h) : X mZ_law 22 (KI K) T0 (rc0 + 1735) (rs0 + 83098) 98 [(0, .ref x0), (1, .ref x1), (2, .ref x2), (3, .int x3), (4, .int x4), (5, .int x5), (6, .int x6), (7, .long x7)] [.int y0] h := by
  unfold wL_law_J98 at w
  refine X_istore (ls' := [(0, .ref _), (1, .ref _), (2, .ref _), (3, .int _), (4, .int _), (5, .int _), (6, .int _), (7, .long _), (9, .int _)]) (show decode cL_law 98 = .ok (.istore 9, 2) by decide +kernel) (by decide) rfl ?_
  refine X_aload_n (j := 1) (show decode cL_law 100 = .ok (.aload_n 1, 1) by decide +kernel) rfl rfl ?_
  obtain ⟨s204, w⟩ := w
  refine X_vI (rc' := (rc0 + 1735)) (rs' := (rs0 + 83098)) (as := []) mv_L_196 (show decode cL_law 101 = .ok (.invokevirtual 196, 3) by decide +kernel) (by decide) (by omega) (by omega) rfl rfl (Nat.le_of_ble_eq_true rfl) (rcvD s204 (by decide) rfl) (kX9_blocks w) (fun E h hk => hk.elim) (fun r26 h25 w => ?_)
  refine X_istore (ls' := [(0, .ref _), (1, .ref _), (2, .ref _), (3, .int _), (4, .int _), (5, .int _), (6, .int _), (7, .long _), (9, .int _), (10, .int _)]) (show decode cL_law 104 = .ok (.istore 10, 2) by decide +kernel) (by decide) rfl ?_
  refine X_aload_n (j := 1) (show decode cL_law 106 = .ok (.aload_n 1, 1) by decide +kernel) rfl rfl ?_
  refine X_iload (j := 5) (show decode cL_law 107 = .ok (.iload 5, 2) by decide +kernel) rfl ?_
  refine X_aload_n (j := 0) (show decode cL_law 109 = .ok (.aload_n 0, 1) by decide +kernel) rfl rfl ?_
  refine X_iload (j := 4) (show decode cL_law 110 = .ok (.iload 4, 2) by decide +kernel) rfl ?_
  refine X_iconst (v := (nI 1)) (show decode cL_law 112 = .ok (.iconst 1, 1) by decide +kernel) (by decide) ?_
  refine X_iadd (show decode cL_law 113 = .ok (.iadd, 1) by decide +kernel) ?_
  refine X_bipush (v := (nI 8)) (show decode cL_law 114 = .ok (.bipush 8, 2) by decide +kernel) (by decide) ?_
  refine X_sI (rc' := (rc0 + 1735)) (rs' := (rs0 + 83098)) (as := [.ref _, .int _, .int _]) ms_L_192 (show decode cL_law 116 = .ok (.invokestatic 192, 3) by decide +kernel) (by decide) (by omega) (by omega) rfl rfl (Nat.le_of_ble_eq_true rfl) (kL_pick w) (fun E h hk => hk.elim) (fun r28 h27 w => ?_)
  refine X_iload (j := 6) (show decode cL_law 119 = .ok (.iload 6, 2) by decide +kernel) rfl ?_
  refine X_bipush (v := (nI 13)) (show decode cL_law 121 = .ok (.bipush 13, 2) by decide +kernel) (by decide) ?_
  refine X_irem (show decode cL_law 123 = .ok (.irem, 1) by decide +kernel) (by decide) ?_
  refine X_bipush (v := (nI 12)) (show decode cL_law 124 = .ok (.bipush 12, 2) by decide +kernel) (by decide) ?_
  refine X_icmp_ne (tgt := 133) (show decode cL_law 126 = .ok (.if_icmp .ne 7, 3) by decide +kernel) (by decide) ⟨fun c29 => ?_, fun c29 => ?_⟩
  · have w := w.1 c29
    refine X_iconst (v := (nI 0)) (show decode cL_law 133 = .ok (.iconst 0, 1) by decide +kernel) (by decide) ?_
    refine X_pick (ls' := [(0, .ref _), (1, .ref _), (2, .ref _), (3, .int _), (4, .int _), (5, .int _), (6, .int _), (7, .long _), (9, .int _)]) [0, 1, 2, 3, 4, 5, 6, 7, 8] rfl ?_
    exact kL_law_J134 hc31 _ _ _ _ _ _ _ _ _ _ _ _ _ _ w
  · have w := w.2 c29
    refine X_iconst (v := (nI 1)) (show decode cL_law 129 = .ok (.iconst 1, 1) by decide +kernel) (by decide) ?_
    refine X_goto (tgt := 134) (show decode cL_law 130 = .ok (.goto 4, 3) by decide +kernel) (by decide) ?_
    refine X_pick (ls' := [(0, .ref _), (1, .ref _), (2, .ref _), (3, .int _), (4, .int _), (5, .int _), (6, .int _), (7, .long _), (9, .int _)]) [0, 1, 2, 3, 4, 5, 6, 7, 8] rfl ?_
    exact kL_law_J134 hc31 _ _ _ _ _ _ _ _ _ _ _ _ _ _ w
set_option maxRecDepth 100000 in
set_option maxHeartbeats 4000000 in
theorem kL_law_L31 {K : Int32 → AH → Prop}    : ∀ (n : Nat) (b : Nat) (x0 : Nat) (x1 : Nat) (x2 : Nat) (x3 : Int32) (x4 : Int32) (x5 : Int32) (x6 : Int32) (h : AH), wL_law_L31 K   n b x0 x1 x2 x3 x4 x5 x6 h → X mZ_law 22 (KI K) T0 (b * 1948 + 2142) (b * 84376 + 84376) 31 [(0, .ref x0), (1, .ref x1), (2, .ref x2), (3, .int x3), (4, .int x4), (5, .int x5), (6, .int x6)] [] h := by
  intro n
  induction n with
  | zero => intro _ _ _ _ _ _ _ _ _ w; exact w.elim
  | succ n ih =>
    intro b x0 x1 x2 x3 x4 x5 x6 h w
    rw [wL_law_L31] at w
    refine X_iload (j := 6) (show decode cL_law 31 = .ok (.iload 6, 2) by decide +kernel) rfl ?_
    refine X_bipush (v := (nI 54)) (show decode cL_law 33 = .ok (.bipush 54, 2) by decide +kernel) (by decide) ?_
    refine X_icmp_ge (tgt := 933) (show decode cL_law 35 = .ok (.if_icmp .ge 898, 3) by decide +kernel) (by decide) ⟨fun c11 => ?_, fun c11 => ?_⟩
    · have w := w.1 c11
      refine X_aload_n (j := 1) (show decode cL_law 933 = .ok (.aload_n 1, 1) by decide +kernel) rfl rfl ?_
      refine X_aload_n (j := 2) (show decode cL_law 934 = .ok (.aload_n 2, 1) by decide +kernel) rfl rfl ?_
      refine X_iload_n (j := 3) (show decode cL_law 935 = .ok (.iload_n 3, 1) by decide +kernel) rfl rfl ?_
      obtain ⟨s12, w⟩ := w
      refine X_room (rc' := ((b - 1) * 1948 + 4090)) (rs' := ((b - 1) * 84376 + 168752)) (by omega) (by omega) ?_
      refine X_sI (rc' := ((b - 1) * 1948 + 1948)) (rs' := ((b - 1) * 84376 + 155900)) (as := [.ref _, .ref _, .int _]) ms_L_251 (show decode cL_law 936 = .ok (.invokestatic 251, 3) by decide +kernel) (by decide) (by omega) (by omega) rfl rfl (Nat.le_of_ble_eq_true rfl) (kL_isKept w) (fun E h hk => hk.elim) (fun r14 h13 w => ?_)
      obtain ⟨s15, w⟩ := w
      exact X_iret ⟨(show decode cL_law 939 = .ok (.ireturn, 1) by decide +kernel), .boolean, rfl, s15⟩ ⟨_, rfl, w⟩
    · have w := w.2 c11
      refine X_aload_n (j := 1) (show decode cL_law 38 = .ok (.aload_n 1, 1) by decide +kernel) rfl rfl ?_
      obtain ⟨s16, w⟩ := w
      refine X_room (rc' := ((b - 1) * 1948 + 4090)) (rs' := ((b - 1) * 84376 + 168752)) (by omega) (by omega) ?_
      refine X_sL (rc' := ((b - 1) * 1948 + 3877)) (rs' := ((b - 1) * 84376 + 167474)) (as := [.ref _]) ms_L_188 (show decode cL_law 39 = .ok (.invokestatic 188, 3) by decide +kernel) (by decide) (by omega) (by omega) rfl rfl (Nat.le_of_ble_eq_true rfl) (kL_sum w) (fun E h hk => hk.elim) (fun r18 h17 w => ?_)
      refine X_lstore (ls' := [(0, .ref _), (1, .ref _), (2, .ref _), (3, .int _), (4, .int _), (5, .int _), (6, .int _), (7, .long _)]) (show decode cL_law 42 = .ok (.lstore 7, 2) by decide +kernel) (by decide) rfl ?_
      refine X_iload (j := 6) (show decode cL_law 44 = .ok (.iload 6, 2) by decide +kernel) rfl ?_
      refine X_bipush (v := (nI 8)) (show decode cL_law 46 = .ok (.bipush 8, 2) by decide +kernel) (by decide) ?_
      refine X_icmp_ge (tgt := 55) (show decode cL_law 48 = .ok (.if_icmp .ge 7, 3) by decide +kernel) (by decide) ⟨fun c19 => ?_, fun c19 => ?_⟩
      · have w := w.1 c19
        refine X_iload (j := 6) (show decode cL_law 55 = .ok (.iload 6, 2) by decide +kernel) rfl ?_
        refine X_bipush (v := (nI 12)) (show decode cL_law 57 = .ok (.bipush 12, 2) by decide +kernel) (by decide) ?_
        refine X_icmp_ge (tgt := 66) (show decode cL_law 59 = .ok (.if_icmp .ge 7, 3) by decide +kernel) (by decide) ⟨fun c20 => ?_, fun c20 => ?_⟩
        · have w := w.1 c20
          refine X_iload (j := 6) (show decode cL_law 66 = .ok (.iload 6, 2) by decide +kernel) rfl ?_
          refine X_bipush (v := (nI 17)) (show decode cL_law 68 = .ok (.bipush 17, 2) by decide +kernel) (by decide) ?_
          refine X_icmp_ge (tgt := 78) (show decode cL_law 70 = .ok (.if_icmp .ge 8, 3) by decide +kernel) (by decide) ⟨fun c21 => ?_, fun c21 => ?_⟩
          · have w := w.1 c21
            refine X_iload (j := 6) (show decode cL_law 78 = .ok (.iload 6, 2) by decide +kernel) rfl ?_
            refine X_bipush (v := (nI 20)) (show decode cL_law 80 = .ok (.bipush 20, 2) by decide +kernel) (by decide) ?_
            refine X_icmp_ge (tgt := 90) (show decode cL_law 82 = .ok (.if_icmp .ge 8, 3) by decide +kernel) (by decide) ⟨fun c22 => ?_, fun c22 => ?_⟩
            · have w := w.1 c22
              refine X_aload_n (j := 0) (show decode cL_law 90 = .ok (.aload_n 0, 1) by decide +kernel) rfl rfl ?_
              refine X_iload (j := 4) (show decode cL_law 91 = .ok (.iload 4, 2) by decide +kernel) rfl ?_
              refine X_bipush (v := (nI 48)) (show decode cL_law 93 = .ok (.bipush 48, 2) by decide +kernel) (by decide) ?_
              refine X_sI (rc' := ((b - 1) * 1948 + 3877)) (rs' := ((b - 1) * 84376 + 167474)) (as := [.ref _, .int _, .int _]) ms_L_192 (show decode cL_law 95 = .ok (.invokestatic 192, 3) by decide +kernel) (by decide) (by omega) (by omega) rfl rfl (Nat.le_of_ble_eq_true rfl) (kL_pick w) (fun E h hk => hk.elim) (fun r24 h23 w => ?_)
              exact kL_law_J98 (ih (b - 1)) _ _ _ _ _ _ _ _ _ _ w
            · have w := w.2 c22
              refine X_bipush (v := (nI 14)) (show decode cL_law 85 = .ok (.bipush 14, 2) by decide +kernel) (by decide) ?_
              refine X_goto (tgt := 98) (show decode cL_law 87 = .ok (.goto 11, 3) by decide +kernel) (by decide) ?_
              exact kL_law_J98 (ih (b - 1)) _ _ _ _ _ _ _ _ _ _ w
          · have w := w.2 c21
            refine X_bipush (v := (nI 7)) (show decode cL_law 73 = .ok (.bipush 7, 2) by decide +kernel) (by decide) ?_
            refine X_goto (tgt := 98) (show decode cL_law 75 = .ok (.goto 23, 3) by decide +kernel) (by decide) ?_
            exact kL_law_J98 (ih (b - 1)) _ _ _ _ _ _ _ _ _ _ w
        · have w := w.2 c20
          refine X_iconst (v := (nI 4)) (show decode cL_law 62 = .ok (.iconst 4, 1) by decide +kernel) (by decide) ?_
          refine X_goto (tgt := 98) (show decode cL_law 63 = .ok (.goto 35, 3) by decide +kernel) (by decide) ?_
          exact kL_law_J98 (ih (b - 1)) _ _ _ _ _ _ _ _ _ _ w
      · have w := w.2 c19
        refine X_iconst (v := (nI 0)) (show decode cL_law 51 = .ok (.iconst 0, 1) by decide +kernel) (by decide) ?_
        refine X_goto (tgt := 98) (show decode cL_law 52 = .ok (.goto 46, 3) by decide +kernel) (by decide) ?_
        exact kL_law_J98 (ih (b - 1)) _ _ _ _ _ _ _ _ _ _ w
set_option maxRecDepth 100000 in
set_option maxHeartbeats 4000000 in
theorem xL_law {a0 : Nat} {h : AH} {K : Int32 → AH → Prop} (w : wL_law a0 h K) : X mZ_law 22 (KI K) T0 110152 4733360 0 [(0, .ref a0)] [] h := by
  unfold wL_law at w
  refine X_new (rc' := 110151) (rs' := 4733348) nw_L_15 (show decode cL_law 0 = .ok (.new 15, 3) by decide +kernel) (Nat.le_of_ble_eq_true rfl) (Nat.le_of_ble_eq_true rfl) ?_
  have w := w _ rfl
  refine X_dup (show decode cL_law 3 = .ok (.dup, 1) by decide +kernel) rfl ?_
  obtain ⟨s206, w⟩ := w
  refine X_iV (rc' := 109496) (rs' := 4726404) (as := []) mi_L_187 (show decode cL_law 4 = .ok (.invokespecial 187, 3) by decide +kernel) (by decide) (Nat.le_of_ble_eq_true rfl) (Nat.le_of_ble_eq_true rfl) rfl rfl (Nat.le_of_ble_eq_true rfl) s206 (kX9_init w) (fun h2 w => ?_)
  refine X_astore_n (ls' := [(0, .ref _), (1, .ref _)]) (show decode cL_law 7 = .ok (.astore_n 1, 1) by decide +kernel) rfl (by decide) rfl ?_
  refine X_bipush (v := (nI 70)) (show decode cL_law 8 = .ok (.bipush 70, 2) by decide +kernel) (by decide) ?_
  refine X_newa (N := 70) (rc' := 109495) (rs' := 4726334) na_1 (by decide) (show decode cL_law 10 = .ok (.newarray .long, 2) by decide +kernel) (by decide) (by decide) (Nat.le_of_ble_eq_true rfl) (Nat.le_of_ble_eq_true rfl) (Nat.le_of_ble_eq_true rfl) ?_
  have w := w _ rfl
  refine X_astore_n (ls' := [(0, .ref _), (1, .ref _), (2, .ref _)]) (show decode cL_law 12 = .ok (.astore_n 2, 1) by decide +kernel) rfl (by decide) rfl ?_
  refine X_iconst (v := (nI 0)) (show decode cL_law 13 = .ok (.iconst 0, 1) by decide +kernel) (by decide) ?_
  refine X_istore_n (ls' := [(0, .ref _), (1, .ref _), (2, .ref _), (3, .int _)]) (show decode cL_law 14 = .ok (.istore_n 3, 1) by decide +kernel) rfl (by decide) rfl ?_
  refine X_aload_n (j := 2) (show decode cL_law 15 = .ok (.aload_n 2, 1) by decide +kernel) rfl rfl ?_
  refine X_iload_n (j := 3) (show decode cL_law 16 = .ok (.iload_n 3, 1) by decide +kernel) rfl rfl ?_
  refine X_aload_n (j := 1) (show decode cL_law 17 = .ok (.aload_n 1, 1) by decide +kernel) rfl rfl ?_
  refine X_sL (rc' := 109282) (rs' := 4725056) (as := [.ref _]) ms_L_188 (show decode cL_law 18 = .ok (.invokestatic 188, 3) by decide +kernel) (by decide) (Nat.le_of_ble_eq_true rfl) (Nat.le_of_ble_eq_true rfl) rfl rfl (Nat.le_of_ble_eq_true rfl) (kL_sum w) (fun E h hk => hk.elim) (fun r6 h5 w => ?_)
  obtain ⟨s7, w⟩ := w
  obtain ⟨s8, w⟩ := w
  obtain ⟨s9, w⟩ := w
  refine X_last (show decode cL_law 21 = .ok (.lastore, 1) by decide +kernel) (isA_eq s7) s8 s9 ?_
  have w := w _ rfl
  refine X_iconst (v := (nI 0)) (show decode cL_law 22 = .ok (.iconst 0, 1) by decide +kernel) (by decide) ?_
  refine X_istore (ls' := [(0, .ref _), (1, .ref _), (2, .ref _), (3, .int _), (4, .int _)]) (show decode cL_law 23 = .ok (.istore 4, 2) by decide +kernel) (by decide) rfl ?_
  refine X_iconst (v := (nI 0)) (show decode cL_law 25 = .ok (.iconst 0, 1) by decide +kernel) (by decide) ?_
  refine X_istore (ls' := [(0, .ref _), (1, .ref _), (2, .ref _), (3, .int _), (4, .int _), (5, .int _)]) (show decode cL_law 26 = .ok (.istore 5, 2) by decide +kernel) (by decide) rfl ?_
  refine X_iconst (v := (nI 0)) (show decode cL_law 28 = .ok (.iconst 0, 1) by decide +kernel) (by decide) ?_
  refine X_istore (ls' := [(0, .ref _), (1, .ref _), (2, .ref _), (3, .int _), (4, .int _), (5, .int _), (6, .int _)]) (show decode cL_law 29 = .ok (.istore 6, 2) by decide +kernel) (by decide) rfl ?_
  obtain ⟨n205, bn205, hbn205, w⟩ := w
  refine X_room (rc' := bn205 * 1948 + 2142) (rs' := bn205 * 84376 + 84376) (by omega) (by omega) ?_
  exact kL_law_L31  n205 bn205 _ _ _ _ _ _ _ _ w
