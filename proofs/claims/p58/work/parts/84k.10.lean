set_option maxRecDepth 100000 in
set_option maxHeartbeats 4000000 in
theorem kL_isKept_L18 {K : Int32 → AH → Prop}    : ∀ (n : Nat) (b : Nat) (x0 : Nat) (x1 : Nat) (x2 : Int32) (x3 : Int32) (x4 : Int32) (x5 : Int32) (h : AH), wL_isKept_L18 K   n b x0 x1 x2 x3 x4 x5 h → X mL_isKept 21 (KI K) T0 (b * 214 + 216) (b * 1284 + 1296) 18 [(0, .ref x0), (1, .ref x1), (2, .int x2), (3, .int x3), (4, .int x4), (5, .int x5)] [] h := by
  intro n
  induction n with
  | zero => intro _ _ _ _ _ _ _ _ w; exact w.elim
  | succ n ih =>
    intro b x0 x1 x2 x3 x4 x5 h w
    rw [wL_isKept_L18] at w
    refine X_iload (j := 4) (show decode cL_isKept 18 = .ok (.iload 4, 2) by decide +kernel) rfl ?_
    refine X_if_le (tgt := 55) (show decode cL_isKept 20 = .ok (.ifCond .le 35, 3) by decide +kernel) (by decide) ⟨fun c3 => ?_, fun c3 => ?_⟩
    · have w := w.1 c3
      refine X_aload_n (j := 0) (show decode cL_isKept 55 = .ok (.aload_n 0, 1) by decide +kernel) rfl rfl ?_
      obtain ⟨s4, w⟩ := w
      refine X_room (rc' := ((b - 1) * 214 + 430)) (rs' := ((b - 1) * 1284 + 2580)) (by omega) (by omega) ?_
      refine X_sH (rc' := ((b - 1) * 214 + 429)) (rs' := ((b - 1) * 1284 + 2574)) (as := [.ref _]) msh_L_372 (show decode cL_isKept 56 = .ok (.invokestatic 372, 3) by decide +kernel) (by decide) (by omega) (by omega) rfl rfl (Nat.le_of_ble_eq_true rfl) (kL_undo w) (fun r6 h5 w => ?_)
      refine X_bipush (v := (-79)) (show decode cL_isKept 59 = .ok (.bipush (-79), 2) by decide +kernel) (by decide) ?_
      refine X_icmp_ne (tgt := 96) (show decode cL_isKept 61 = .ok (.if_icmp .ne 35, 3) by decide +kernel) (by decide) ⟨fun c7 => ?_, fun c7 => ?_⟩
      · have w := w.1 c7
        refine X_iconst (v := (nI 0)) (show decode cL_isKept 96 = .ok (.iconst 0, 1) by decide +kernel) (by decide) ?_
        exact X_iret ⟨(show decode cL_isKept 97 = .ok (.ireturn, 1) by decide +kernel), .boolean, rfl, (by decide)⟩ ⟨_, rfl, w⟩
      · have w := w.2 c7
        refine X_aload_n (j := 0) (show decode cL_isKept 64 = .ok (.aload_n 0, 1) by decide +kernel) rfl rfl ?_
        refine X_sH (rc' := ((b - 1) * 214 + 428)) (rs' := ((b - 1) * 1284 + 2568)) (as := [.ref _]) msh_L_374 (show decode cL_isKept 65 = .ok (.invokestatic 374, 3) by decide +kernel) (by decide) (by omega) (by omega) rfl rfl (Nat.le_of_ble_eq_true rfl) (kL_restore w) (fun r9 h8 w => ?_)
        refine X_iload_n (j := 3) (show decode cL_isKept 68 = .ok (.iload_n 3, 1) by decide +kernel) rfl rfl ?_
        refine X_icmp_ne (tgt := 96) (show decode cL_isKept 69 = .ok (.if_icmp .ne 27, 3) by decide +kernel) (by decide) ⟨fun c10 => ?_, fun c10 => ?_⟩
        · have w := w.1 c10
          refine X_iconst (v := (nI 0)) (show decode cL_isKept 96 = .ok (.iconst 0, 1) by decide +kernel) (by decide) ?_
          exact X_iret ⟨(show decode cL_isKept 97 = .ok (.ireturn, 1) by decide +kernel), .boolean, rfl, (by decide)⟩ ⟨_, rfl, w⟩
        · have w := w.2 c10
          refine X_aload_n (j := 0) (show decode cL_isKept 72 = .ok (.aload_n 0, 1) by decide +kernel) rfl rfl ?_
          refine X_sL (rc' := ((b - 1) * 214 + 215)) (rs' := ((b - 1) * 1284 + 1290)) (as := [.ref _]) ms_L_188 (show decode cL_isKept 73 = .ok (.invokestatic 188, 3) by decide +kernel) (by decide) (by omega) (by omega) rfl rfl (Nat.le_of_ble_eq_true rfl) (kL_sum w) (fun E h hk => hk.elim) (fun r12 h11 w => ?_)
          refine X_aload_n (j := 1) (show decode cL_isKept 76 = .ok (.aload_n 1, 1) by decide +kernel) rfl rfl ?_
          refine X_iload_n (j := 2) (show decode cL_isKept 77 = .ok (.iload_n 2, 1) by decide +kernel) rfl rfl ?_
          obtain ⟨s13, w⟩ := w
          obtain ⟨s14, w⟩ := w
          refine X_lald (show decode cL_isKept 78 = .ok (.laload, 1) by decide +kernel) (isA_eq s13) s14 ?_
          refine X_lcmp (show decode cL_isKept 79 = .ok (.lcmp, 1) by decide +kernel) ?_
          refine X_if_ne (tgt := 96) (show decode cL_isKept 80 = .ok (.ifCond .ne 16, 3) by decide +kernel) (by decide) ⟨fun c15 => ?_, fun c15 => ?_⟩
          · have w := w.1 c15
            refine X_iconst (v := (nI 0)) (show decode cL_isKept 96 = .ok (.iconst 0, 1) by decide +kernel) (by decide) ?_
            exact X_iret ⟨(show decode cL_isKept 97 = .ok (.ireturn, 1) by decide +kernel), .boolean, rfl, (by decide)⟩ ⟨_, rfl, w⟩
          · have w := w.2 c15
            refine X_aload_n (j := 0) (show decode cL_isKept 83 = .ok (.aload_n 0, 1) by decide +kernel) rfl rfl ?_
            refine X_sH (rc' := ((b - 1) * 214 + 214)) (rs' := ((b - 1) * 1284 + 1284)) (as := [.ref _]) msh_L_372 (show decode cL_isKept 84 = .ok (.invokestatic 372, 3) by decide +kernel) (by decide) (by omega) (by omega) rfl rfl (Nat.le_of_ble_eq_true rfl) (kL_undo w) (fun r17 h16 w => ?_)
            refine X_bipush (v := (-79)) (show decode cL_isKept 87 = .ok (.bipush (-79), 2) by decide +kernel) (by decide) ?_
            refine X_icmp_ne (tgt := 96) (show decode cL_isKept 89 = .ok (.if_icmp .ne 7, 3) by decide +kernel) (by decide) ⟨fun c18 => ?_, fun c18 => ?_⟩
            · have w := w.1 c18
              refine X_iconst (v := (nI 0)) (show decode cL_isKept 96 = .ok (.iconst 0, 1) by decide +kernel) (by decide) ?_
              exact X_iret ⟨(show decode cL_isKept 97 = .ok (.ireturn, 1) by decide +kernel), .boolean, rfl, (by decide)⟩ ⟨_, rfl, w⟩
            · have w := w.2 c18
              refine X_iconst (v := (nI 1)) (show decode cL_isKept 92 = .ok (.iconst 1, 1) by decide +kernel) (by decide) ?_
              refine X_goto (tgt := 97) (show decode cL_isKept 93 = .ok (.goto 4, 3) by decide +kernel) (by decide) ?_
              exact X_iret ⟨(show decode cL_isKept 97 = .ok (.ireturn, 1) by decide +kernel), .boolean, rfl, (by decide)⟩ ⟨_, rfl, w⟩
    · have w := w.2 c3
      refine X_iinc (j := 4) (v := _ + (-1)) (ls' := [(0, .ref _), (1, .ref _), (2, .int _), (3, .int _), (4, .int _), (5, .int _)]) (show decode cL_isKept 23 = .ok (.iinc 4 (-1), 3) by decide +kernel) rfl rfl (Nat.le_of_ble_eq_true rfl) rfl ?_
      refine X_aload_n (j := 0) (show decode cL_isKept 26 = .ok (.aload_n 0, 1) by decide +kernel) rfl rfl ?_
      obtain ⟨s19, w⟩ := w
      refine X_room (rc' := ((b - 1) * 214 + 430)) (rs' := ((b - 1) * 1284 + 2580)) (by omega) (by omega) ?_
      refine X_sH (rc' := ((b - 1) * 214 + 429)) (rs' := ((b - 1) * 1284 + 2574)) (as := [.ref _]) msh_L_372 (show decode cL_isKept 27 = .ok (.invokestatic 372, 3) by decide +kernel) (by decide) (by omega) (by omega) rfl rfl (Nat.le_of_ble_eq_true rfl) (kL_undo w) (fun r21 h20 w => ?_)
      refine X_iload (j := 4) (show decode cL_isKept 30 = .ok (.iload 4, 2) by decide +kernel) rfl ?_
      refine X_icmp_ne (tgt := 47) (show decode cL_isKept 32 = .ok (.if_icmp .ne 15, 3) by decide +kernel) (by decide) ⟨fun c22 => ?_, fun c22 => ?_⟩
      · have w := w.1 c22
        refine X_iconst (v := (nI 0)) (show decode cL_isKept 47 = .ok (.iconst 0, 1) by decide +kernel) (by decide) ?_
        exact X_iret ⟨(show decode cL_isKept 48 = .ok (.ireturn, 1) by decide +kernel), .boolean, rfl, (by decide)⟩ ⟨_, rfl, w⟩
      · have w := w.2 c22
        refine X_aload_n (j := 0) (show decode cL_isKept 35 = .ok (.aload_n 0, 1) by decide +kernel) rfl rfl ?_
        refine X_sL (rc' := ((b - 1) * 214 + 216)) (rs' := ((b - 1) * 1284 + 1296)) (as := [.ref _]) ms_L_188 (show decode cL_isKept 36 = .ok (.invokestatic 188, 3) by decide +kernel) (by decide) (by omega) (by omega) rfl rfl (Nat.le_of_ble_eq_true rfl) (kL_sum w) (fun E h hk => hk.elim) (fun r24 h23 w => ?_)
        refine X_aload_n (j := 1) (show decode cL_isKept 39 = .ok (.aload_n 1, 1) by decide +kernel) rfl rfl ?_
        refine X_iload (j := 5) (show decode cL_isKept 40 = .ok (.iload 5, 2) by decide +kernel) rfl ?_
        obtain ⟨s25, w⟩ := w
        obtain ⟨s26, w⟩ := w
        refine X_lald (show decode cL_isKept 42 = .ok (.laload, 1) by decide +kernel) (isA_eq s25) s26 ?_
        refine X_lcmp (show decode cL_isKept 43 = .ok (.lcmp, 1) by decide +kernel) ?_
        refine X_if_eq (tgt := 49) (show decode cL_isKept 44 = .ok (.ifCond .eq 5, 3) by decide +kernel) (by decide) ⟨fun c27 => ?_, fun c27 => ?_⟩
        · have w := w.1 c27
          refine X_iinc (j := 5) (v := _ + (-1)) (ls' := [(0, .ref _), (1, .ref _), (2, .int _), (3, .int _), (4, .int _), (5, .int _)]) (show decode cL_isKept 49 = .ok (.iinc 5 (-1), 3) by decide +kernel) rfl rfl (Nat.le_of_ble_eq_true rfl) rfl ?_
          refine X_goto (tgt := 18) (show decode cL_isKept 52 = .ok (.goto (-34), 3) by decide +kernel) (by decide) ?_
          exact ih (b - 1) _ _ _ _ _ _ _ w
        · have w := w.2 c27
          refine X_iconst (v := (nI 0)) (show decode cL_isKept 47 = .ok (.iconst 0, 1) by decide +kernel) (by decide) ?_
          exact X_iret ⟨(show decode cL_isKept 48 = .ok (.ireturn, 1) by decide +kernel), .boolean, rfl, (by decide)⟩ ⟨_, rfl, w⟩
set_option maxRecDepth 100000 in
set_option maxHeartbeats 4000000 in
theorem kL_isKept {a0 : Nat} {a1 : Nat} {a2 : Int32} {h : AH} {K : Int32 → AH → Prop} (w : wL_isKept a0 a1 a2 h K) : Cn mL_isKept (cwd mL_isKept) 21 2142 12852 [.ref a0, .ref a1, .int a2] h (KI K) T0 := by
  refine Cn_of (by decide +kernel) rfl (Nat.le_of_ble_eq_true rfl) ?_
  show X mL_isKept 21 (KI K) T0 2142 12852 0 [(0, .ref a0), (1, .ref a1), (2, .int a2)] [] h
  unfold wL_isKept at w
  refine X_aload_n (j := 0) (show decode cL_isKept 0 = .ok (.aload_n 0, 1) by decide +kernel) rfl rfl ?_
  obtain ⟨s29, w⟩ := w
  refine X_vI (rc' := 2142) (rs' := 12852) (as := []) mv_L_364 (show decode cL_isKept 1 = .ok (.invokevirtual 364, 3) by decide +kernel) (by decide) (Nat.le_of_ble_eq_true rfl) (Nat.le_of_ble_eq_true rfl) rfl rfl (Nat.le_of_ble_eq_true rfl) (rcvD s29 (by decide) rfl) (kX9_save w) (fun E h hk => hk.elim) (fun r2 h1 w => ?_)
  refine X_istore_n (ls' := [(0, .ref _), (1, .ref _), (2, .int _), (3, .int _)]) (show decode cL_isKept 4 = .ok (.istore_n 3, 1) by decide +kernel) rfl (by decide) rfl ?_
  refine X_bipush (v := (nI 8)) (show decode cL_isKept 5 = .ok (.bipush 8, 2) by decide +kernel) (by decide) ?_
  refine X_iload_n (j := 2) (show decode cL_isKept 7 = .ok (.iload_n 2, 1) by decide +kernel) rfl rfl ?_
  refine X_mmin (show decode cL_isKept 8 = .ok (.invokestatic 367, 3) by decide +kernel) gl_L_367 gst_min gin_Math gco_min (by decide) (Nat.le_of_ble_eq_true rfl) ?_
  refine X_istore (ls' := [(0, .ref _), (1, .ref _), (2, .int _), (3, .int _), (4, .int _)]) (show decode cL_isKept 11 = .ok (.istore 4, 2) by decide +kernel) (by decide) rfl ?_
  refine X_iload_n (j := 2) (show decode cL_isKept 13 = .ok (.iload_n 2, 1) by decide +kernel) rfl rfl ?_
  refine X_iconst (v := (nI 1)) (show decode cL_isKept 14 = .ok (.iconst 1, 1) by decide +kernel) (by decide) ?_
  refine X_isub (show decode cL_isKept 15 = .ok (.isub, 1) by decide +kernel) ?_
  refine X_istore (ls' := [(0, .ref _), (1, .ref _), (2, .int _), (3, .int _), (4, .int _), (5, .int _)]) (show decode cL_isKept 16 = .ok (.istore 5, 2) by decide +kernel) (by decide) rfl ?_
  obtain ⟨n28, bn28, hbn28, w⟩ := w
  refine X_room (rc' := bn28 * 214 + 216) (rs' := bn28 * 1284 + 1296) (by omega) (by omega) ?_
  exact kL_isKept_L18  n28 bn28 _ _ _ _ _ _ _ w
