set_option maxRecDepth 100000 in
set_option maxHeartbeats 4000000 in
theorem kJ0_coder_7d493 {a0 : Nat} {h : AH} {K : Int32 → AH → Prop} (w : wJ0_coder_7d493 a0 h K) : Cn mJ0_coder_7d493 (cwd mJ0_coder_7d493) 1 0 0 [.ref a0] h (KI K) T0 := by
  refine Cn_of (by decide +kernel) rfl (Nat.le_of_ble_eq_true rfl) ?_
  show X mJ0_coder_7d493 1 (KI K) T0 0 0 0 [(0, .ref a0)] [] h
  unfold wJ0_coder_7d493 at w
  refine X_getstI (j := 3) rfl gz_J0_38 (show decode cJ0_coder_7d493 0 = .ok (.getstatic 38, 3) by decide +kernel) ?_
  refine X_if_eq (tgt := 13) (show decode cJ0_coder_7d493 3 = .ok (.ifCond .eq 10, 3) by decide +kernel) (by decide) ⟨fun c1 => ?_, fun c1 => ?_⟩
  · have w := w.1 c1
    refine X_iconst (v := 1) (show decode cJ0_coder_7d493 13 = .ok (.iconst 1, 1) by decide +kernel) (by decide) ?_
    exact X_iret ⟨(show decode cJ0_coder_7d493 14 = .ok (.ireturn, 1) by decide +kernel), .byte, rfl, (by decide)⟩ ⟨_, rfl, w⟩
  · have w := w.2 c1
    refine X_aload_n (j := 0) (show decode cJ0_coder_7d493 6 = .ok (.aload_n 0, 1) by decide +kernel) rfl rfl ?_
    obtain ⟨s2, w⟩ := w
    obtain ⟨s3, w⟩ := w
    refine X_getS (j := 1) (kd := 20) (c := 0) (show decode cJ0_coder_7d493 7 = .ok (.getfield 15, 3) by decide +kernel) (by decide) rfl rfl (Or.inl (gw_of (List.mem_of_getElem? (i := 912) (by decide +kernel)) (by decide +kernel))) s2 s3 ?_
    show X _ _ _ _ _ _ _ _ (.int (mI _ _ 1) :: _) _
    refine X_goto (tgt := 14) (show decode cJ0_coder_7d493 10 = .ok (.goto 4, 3) by decide +kernel) (by decide) ?_
    obtain ⟨s4, w⟩ := w
    exact X_iret ⟨(show decode cJ0_coder_7d493 14 = .ok (.ireturn, 1) by decide +kernel), .byte, rfl, s4⟩ ⟨_, rfl, w⟩
set_option maxRecDepth 100000 in
set_option maxHeartbeats 4000000 in
theorem kJ0_length_8abf5 {a0 : Nat} {h : AH} {K : Int32 → AH → Prop} (w : wJ0_length_8abf5 a0 h K) : Cn mJ0_length_8abf5 (cwd mJ0_length_8abf5) 2 0 0 [.ref a0] h (KI K) T0 := by
  refine Cn_of (by decide +kernel) rfl (Nat.le_of_ble_eq_true rfl) ?_
  show X mJ0_length_8abf5 2 (KI K) T0 0 0 0 [(0, .ref a0)] [] h
  unfold wJ0_length_8abf5 at w
  refine X_aload_n (j := 0) (show decode cJ0_length_8abf5 0 = .ok (.aload_n 0, 1) by decide +kernel) rfl rfl ?_
  obtain ⟨s1, w⟩ := w
  obtain ⟨s2, w⟩ := w
  refine X_getS (j := 0) (kd := 20) (c := 1) (show decode cJ0_length_8abf5 1 = .ok (.getfield 9, 3) by decide +kernel) (by decide) rfl rfl (Or.inl (gw_of (List.mem_of_getElem? (i := 911) (by decide +kernel)) (by decide +kernel))) s1 s2 ?_
  show X _ _ _ _ _ _ _ _ (.ref (mR _ _ 0) :: _) _
  obtain ⟨s3, w⟩ := w
  refine X_alen (v := nI (ln _ _)) (show decode cJ0_length_8abf5 4 = .ok (.arraylength, 1) by decide +kernel) (by decide) (isA_eq s3) rfl ?_
  refine X_aload_n (j := 0) (show decode cJ0_length_8abf5 5 = .ok (.aload_n 0, 1) by decide +kernel) rfl rfl ?_
  refine X_vI (rc' := 0) (rs' := 0) (as := []) mv_J0_335 (show decode cJ0_length_8abf5 6 = .ok (.invokevirtual 335, 3) by decide +kernel) (by decide) (Nat.le_of_ble_eq_true rfl) (Nat.le_of_ble_eq_true rfl) rfl rfl (Nat.le_of_ble_eq_true rfl) (Or.inr ⟨s2, Or.inl ⟨s1, rfl⟩⟩) (kJ0_coder_7d493 w) (fun E h hk => hk.elim) (fun r5 h4 w => ?_)
  refine X_ishr (show decode cJ0_length_8abf5 9 = .ok (.ishr, 1) by decide +kernel) ?_
  exact X_iret ⟨(show decode cJ0_length_8abf5 10 = .ok (.ireturn, 1) by decide +kernel), .int, rfl, rfl⟩ ⟨_, rfl, w⟩
set_option maxRecDepth 100000 in
set_option maxHeartbeats 4000000 in
theorem kJ2_inflate_0e8fd_L10 {K : AH → Prop}   {x0 : Nat} {x2 : Nat} {x4 : Int32} : ∀ (n : Nat) (x1 : Int32) (x3 : Int32) (x5 : Int32) (h : AH), wJ2_inflate_0e8fd_L10 K  x0 x2 x4 n x1 x3 x5 h → X mJ2_inflate_0e8fd 5 (KV K) T0 0 0 10 [(0, .ref x0), (1, .int x1), (2, .ref x2), (3, .int x3), (4, .int x4), (5, .int x5)] [] h := by
  intro n
  induction n with
  | zero => intro _ _ _ _ w; exact w.elim
  | succ n ih =>
    intro x1 x3 x5 h w
    rw [wJ2_inflate_0e8fd_L10] at w
    refine X_iload (j := 5) (show decode cJ2_inflate_0e8fd 10 = .ok (.iload 5, 2) by decide +kernel) rfl ?_
    refine X_iload (j := 4) (show decode cJ2_inflate_0e8fd 12 = .ok (.iload 4, 2) by decide +kernel) rfl ?_
    refine X_icmp_ge (tgt := 41) (show decode cJ2_inflate_0e8fd 14 = .ok (.if_icmp .ge 27, 3) by decide +kernel) (by decide) ⟨fun c3 => ?_, fun c3 => ?_⟩
    · have w := w.1 c3
      exact X_vret ⟨(show decode cJ2_inflate_0e8fd 41 = .ok (.return_, 1) by decide +kernel), rfl⟩ ⟨rfl, w⟩
    · have w := w.2 c3
      refine X_aload_n (j := 2) (show decode cJ2_inflate_0e8fd 17 = .ok (.aload_n 2, 1) by decide +kernel) rfl rfl ?_
      refine X_iload_n (j := 3) (show decode cJ2_inflate_0e8fd 18 = .ok (.iload_n 3, 1) by decide +kernel) rfl rfl ?_
      refine X_iinc (j := 3) (v := _ + 1) (ls' := [(0, .ref _), (1, .int _), (2, .ref _), (3, .int _), (4, .int _), (5, .int _)]) (show decode cJ2_inflate_0e8fd 19 = .ok (.iinc 3 1, 3) by decide +kernel) rfl rfl (Nat.le_of_ble_eq_true rfl) rfl ?_
      refine X_aload_n (j := 0) (show decode cJ2_inflate_0e8fd 22 = .ok (.aload_n 0, 1) by decide +kernel) rfl rfl ?_
      refine X_iload_n (j := 1) (show decode cJ2_inflate_0e8fd 23 = .ok (.iload_n 1, 1) by decide +kernel) rfl rfl ?_
      refine X_iinc (j := 1) (v := _ + 1) (ls' := [(0, .ref _), (1, .int _), (2, .ref _), (3, .int _), (4, .int _), (5, .int _)]) (show decode cJ2_inflate_0e8fd 24 = .ok (.iinc 1 1, 3) by decide +kernel) rfl rfl (Nat.le_of_ble_eq_true rfl) rfl ?_
      obtain ⟨s4, w⟩ := w
      obtain ⟨s5, w⟩ := w
      refine X_bald (show decode cJ2_inflate_0e8fd 27 = .ok (.baload, 1) by decide +kernel) (isA_eq s4) s5 ?_
      refine X_sipush (v := 255) (show decode cJ2_inflate_0e8fd 28 = .ok (.sipush 255, 3) by decide +kernel) (by decide) ?_
      refine X_iand (show decode cJ2_inflate_0e8fd 31 = .ok (.iand, 1) by decide +kernel) ?_
      refine X_sV (rc' := 0) (rs' := 0) (as := [.ref _, .int _, .int _]) ms_J2_111 (show decode cJ2_inflate_0e8fd 32 = .ok (.invokestatic 111, 3) by decide +kernel) (by decide) (Nat.le_of_ble_eq_true rfl) (Nat.le_of_ble_eq_true rfl) rfl rfl (Nat.le_of_ble_eq_true rfl) (kJ2_putChar_b72d1 w) (fun E h hk => hk.elim) (fun h6 w => ?_)
      refine X_iinc (j := 5) (v := _ + 1) (ls' := [(0, .ref _), (1, .int _), (2, .ref _), (3, .int _), (4, .int _), (5, .int _)]) (show decode cJ2_inflate_0e8fd 35 = .ok (.iinc 5 1, 3) by decide +kernel) rfl rfl (Nat.le_of_ble_eq_true rfl) rfl ?_
      refine X_goto (tgt := 10) (show decode cJ2_inflate_0e8fd 38 = .ok (.goto (-28), 3) by decide +kernel) (by decide) ?_
      exact ih _ _ _ _ _ _ _ w
set_option maxRecDepth 100000 in
set_option maxHeartbeats 4000000 in
theorem kJ2_inflate_0e8fd {a0 : Nat} {a1 : Int32} {a2 : Nat} {a3 : Int32} {a4 : Int32} {h : AH} {K : AH → Prop} (w : wJ2_inflate_0e8fd a0 a1 a2 a3 a4 h K) : Cn mJ2_inflate_0e8fd (cwd mJ2_inflate_0e8fd) 5 0 0 [.ref a0, .int a1, .ref a2, .int a3, .int a4] h (KV K) T0 := by
  refine Cn_of (by decide +kernel) rfl (Nat.le_of_ble_eq_true rfl) ?_
  show X mJ2_inflate_0e8fd 5 (KV K) T0 0 0 0 [(0, .ref a0), (1, .int a1), (2, .ref a2), (3, .int a3), (4, .int a4)] [] h
  unfold wJ2_inflate_0e8fd at w
  refine X_iload_n (j := 3) (show decode cJ2_inflate_0e8fd 0 = .ok (.iload_n 3, 1) by decide +kernel) rfl rfl ?_
  refine X_iload (j := 4) (show decode cJ2_inflate_0e8fd 1 = .ok (.iload 4, 2) by decide +kernel) rfl ?_
  refine X_aload_n (j := 2) (show decode cJ2_inflate_0e8fd 3 = .ok (.aload_n 2, 1) by decide +kernel) rfl rfl ?_
  refine X_sV (rc' := 0) (rs' := 0) (as := [.int _, .int _, .ref _]) ms_J2_173 (show decode cJ2_inflate_0e8fd 4 = .ok (.invokestatic 173, 3) by decide +kernel) (by decide) (Nat.le_of_ble_eq_true rfl) (Nat.le_of_ble_eq_true rfl) rfl rfl (Nat.le_of_ble_eq_true rfl) (kJ2_checkBoundsOffCount_d044e w) (fun E h hk => hk.elim) (fun h1 w => ?_)
  refine X_iconst (v := 0) (show decode cJ2_inflate_0e8fd 7 = .ok (.iconst 0, 1) by decide +kernel) (by decide) ?_
  refine X_istore (ls' := [(0, .ref _), (1, .int _), (2, .ref _), (3, .int _), (4, .int _), (5, .int _)]) (show decode cJ2_inflate_0e8fd 8 = .ok (.istore 5, 2) by decide +kernel) (by decide) rfl ?_
  obtain ⟨n8, w⟩ := w
  exact kJ2_inflate_0e8fd_L10  n8 _ _ _ _ w
set_option maxRecDepth 100000 in
set_option maxHeartbeats 4000000 in
theorem kJ1_inflate_0e8fd {a0 : Nat} {a1 : Int32} {a2 : Nat} {a3 : Int32} {a4 : Int32} {h : AH} {K : AH → Prop} (w : wJ1_inflate_0e8fd a0 a1 a2 a3 a4 h K) : Cn mJ1_inflate_0e8fd (cwd mJ1_inflate_0e8fd) 6 0 0 [.ref a0, .int a1, .ref a2, .int a3, .int a4] h (KV K) T0 := by
  refine Cn_of (by decide +kernel) rfl (Nat.le_of_ble_eq_true rfl) ?_
  show X mJ1_inflate_0e8fd 6 (KV K) T0 0 0 0 [(0, .ref a0), (1, .int a1), (2, .ref a2), (3, .int a3), (4, .int a4)] [] h
  unfold wJ1_inflate_0e8fd at w
  refine X_aload_n (j := 0) (show decode cJ1_inflate_0e8fd 0 = .ok (.aload_n 0, 1) by decide +kernel) rfl rfl ?_
  refine X_iload_n (j := 1) (show decode cJ1_inflate_0e8fd 1 = .ok (.iload_n 1, 1) by decide +kernel) rfl rfl ?_
  refine X_aload_n (j := 2) (show decode cJ1_inflate_0e8fd 2 = .ok (.aload_n 2, 1) by decide +kernel) rfl rfl ?_
  refine X_iload_n (j := 3) (show decode cJ1_inflate_0e8fd 3 = .ok (.iload_n 3, 1) by decide +kernel) rfl rfl ?_
  refine X_iload (j := 4) (show decode cJ1_inflate_0e8fd 4 = .ok (.iload 4, 2) by decide +kernel) rfl ?_
  refine X_sV (rc' := 0) (rs' := 0) (as := [.ref _, .int _, .ref _, .int _, .int _]) ms_J1_240 (show decode cJ1_inflate_0e8fd 6 = .ok (.invokestatic 240, 3) by decide +kernel) (by decide) (Nat.le_of_ble_eq_true rfl) (Nat.le_of_ble_eq_true rfl) rfl rfl (Nat.le_of_ble_eq_true rfl) (kJ2_inflate_0e8fd w) (fun E h hk => hk.elim) (fun h1 w => ?_)
  exact X_vret ⟨(show decode cJ1_inflate_0e8fd 9 = .ok (.return_, 1) by decide +kernel), rfl⟩ ⟨rfl, w⟩
set_option maxRecDepth 100000 in
set_option maxHeartbeats 4000000 in
theorem kJ5_inflate_da8c8 {a0 : Nat} {h : AH} {K : AH → Prop} (w : wJ5_inflate_da8c8 a0 h K) : Cn mJ5_inflate_da8c8 (cwd mJ5_inflate_da8c8) 7 0 0 [.ref a0] h (KV K) T0 := by
  refine Cn_of (by decide +kernel) rfl (Nat.le_of_ble_eq_true rfl) ?_
  show X mJ5_inflate_da8c8 7 (KV K) T0 0 0 0 [(0, .ref a0)] [] h
  unfold wJ5_inflate_da8c8 at w
  refine X_aload_n (j := 0) (show decode cJ5_inflate_da8c8 0 = .ok (.aload_n 0, 1) by decide +kernel) rfl rfl ?_
  obtain ⟨s6, w⟩ := w
  refine X_vI (rc' := 0) (rs' := 0) (as := []) mv_J5_83_J4 (show decode cJ5_inflate_da8c8 1 = .ok (.invokevirtual 83, 3) by decide +kernel) (by decide) (Nat.le_of_ble_eq_true rfl) (Nat.le_of_ble_eq_true rfl) rfl rfl (Nat.le_of_ble_eq_true rfl) (rcvD s6 (by decide) rfl) (kJ5_isLatin1_aae02 w) (fun E h hk => hk.elim) (fun r2 h1 w => ?_)
  refine X_if_ne (tgt := 8) (show decode cJ5_inflate_da8c8 4 = .ok (.ifCond .ne 4, 3) by decide +kernel) (by decide) ⟨fun c3 => ?_, fun c3 => ?_⟩
  · have w := w.1 c3
    exact w.elim
  · have w := w.2 c3
    exact X_vret ⟨(show decode cJ5_inflate_da8c8 7 = .ok (.return_, 1) by decide +kernel), rfl⟩ ⟨rfl, w⟩
set_option maxRecDepth 100000 in
set_option maxHeartbeats 4000000 in
theorem kJ5_inflateIfNeededFor_a7421 {a0 : Nat} {a1 : Nat} {h : AH} {K : AH → Prop} (w : wJ5_inflateIfNeededFor_a7421 a0 a1 h K) : Cn mJ5_inflateIfNeededFor_a7421 (cwd mJ5_inflateIfNeededFor_a7421) 8 0 0 [.ref a0, .ref a1] h (KV K) T0 := by
  refine Cn_of (by decide +kernel) rfl (Nat.le_of_ble_eq_true rfl) ?_
  show X mJ5_inflateIfNeededFor_a7421 8 (KV K) T0 0 0 0 [(0, .ref a0), (1, .ref a1)] [] h
  unfold wJ5_inflateIfNeededFor_a7421 at w
  refine X_getstI (j := 3) rfl gz_J5_18 (show decode cJ5_inflateIfNeededFor_a7421 0 = .ok (.getstatic 18, 3) by decide +kernel) ?_
  refine X_if_eq (tgt := 21) (show decode cJ5_inflateIfNeededFor_a7421 3 = .ok (.ifCond .eq 18, 3) by decide +kernel) (by decide) ⟨fun c1 => ?_, fun c1 => ?_⟩
  · have w := w.1 c1
    exact X_vret ⟨(show decode cJ5_inflateIfNeededFor_a7421 21 = .ok (.return_, 1) by decide +kernel), rfl⟩ ⟨rfl, w⟩
  · have w := w.2 c1
    refine X_aload_n (j := 0) (show decode cJ5_inflateIfNeededFor_a7421 6 = .ok (.aload_n 0, 1) by decide +kernel) rfl rfl ?_
    obtain ⟨s2, w⟩ := w
    refine X_getI fl_J5_22 (show decode cJ5_inflateIfNeededFor_a7421 7 = .ok (.getfield 22, 3) by decide +kernel) s2 ?_
    refine X_aload_n (j := 1) (show decode cJ5_inflateIfNeededFor_a7421 10 = .ok (.aload_n 1, 1) by decide +kernel) rfl rfl ?_
    obtain ⟨s8, w⟩ := w
    obtain ⟨s9, w⟩ := w
    refine X_vI (rc' := 0) (rs' := 0) (as := []) mv_J5_40 (show decode cJ5_inflateIfNeededFor_a7421 11 = .ok (.invokevirtual 40, 3) by decide +kernel) (by decide) (Nat.le_of_ble_eq_true rfl) (Nat.le_of_ble_eq_true rfl) rfl rfl (Nat.le_of_ble_eq_true rfl) (Or.inr ⟨s9, Or.inl ⟨s8, rfl⟩⟩) (kJ0_coder_7d493 w) (fun E h hk => hk.elim) (fun r4 h3 w => ?_)
    refine X_icmp_eq (tgt := 21) (show decode cJ5_inflateIfNeededFor_a7421 14 = .ok (.if_icmp .eq 7, 3) by decide +kernel) (by decide) ⟨fun c5 => ?_, fun c5 => ?_⟩
    · have w := w.1 c5
      exact X_vret ⟨(show decode cJ5_inflateIfNeededFor_a7421 21 = .ok (.return_, 1) by decide +kernel), rfl⟩ ⟨rfl, w⟩
    · have w := w.2 c5
      exact w.elim
set_option maxRecDepth 100000 in
set_option maxHeartbeats 4000000 in
theorem kJ0_getBytes_840e7 {a0 : Nat} {a1 : Nat} {a2 : Int32} {a3 : Int32} {h : AH} {K : AH → Prop} (w : wJ0_getBytes_840e7 a0 a1 a2 a3 h K) : Cn mJ0_getBytes_840e7 (cwd mJ0_getBytes_840e7) 7 0 0 [.ref a0, .ref a1, .int a2, .int a3] h (KV K) T0 := by
  refine Cn_of (by decide +kernel) rfl (Nat.le_of_ble_eq_true rfl) ?_
  show X mJ0_getBytes_840e7 7 (KV K) T0 0 0 0 [(0, .ref a0), (1, .ref a1), (2, .int a2), (3, .int a3)] [] h
  unfold wJ0_getBytes_840e7 at w
  refine X_aload_n (j := 0) (show decode cJ0_getBytes_840e7 0 = .ok (.aload_n 0, 1) by decide +kernel) rfl rfl ?_
  obtain ⟨s21, w⟩ := w
  obtain ⟨s22, w⟩ := w
  refine X_vI (rc' := 0) (rs' := 0) (as := []) mv_J0_335 (show decode cJ0_getBytes_840e7 1 = .ok (.invokevirtual 335, 3) by decide +kernel) (by decide) (Nat.le_of_ble_eq_true rfl) (Nat.le_of_ble_eq_true rfl) rfl rfl (Nat.le_of_ble_eq_true rfl) (Or.inr ⟨s22, Or.inl ⟨s21, rfl⟩⟩) (kJ0_coder_7d493 w) (fun E h hk => hk.elim) (fun r2 h1 w => ?_)
  refine X_iload_n (j := 3) (show decode cJ0_getBytes_840e7 4 = .ok (.iload_n 3, 1) by decide +kernel) rfl rfl ?_
  refine X_icmp_ne (tgt := 28) (show decode cJ0_getBytes_840e7 5 = .ok (.if_icmp .ne 23, 3) by decide +kernel) (by decide) ⟨fun c3 => ?_, fun c3 => ?_⟩
  · have w := w.1 c3
    refine X_aload_n (j := 0) (show decode cJ0_getBytes_840e7 28 = .ok (.aload_n 0, 1) by decide +kernel) rfl rfl ?_
    obtain ⟨s4, w⟩ := w
    obtain ⟨s5, w⟩ := w
    refine X_getS (j := 0) (kd := 20) (c := 1) (show decode cJ0_getBytes_840e7 29 = .ok (.getfield 9, 3) by decide +kernel) (by decide) rfl rfl (Or.inl (gw_of (List.mem_of_getElem? (i := 911) (by decide +kernel)) (by decide +kernel))) s4 s5 ?_
    show X _ _ _ _ _ _ _ _ (.ref (mR _ _ 0) :: _) _
    refine X_iconst (v := 0) (show decode cJ0_getBytes_840e7 32 = .ok (.iconst 0, 1) by decide +kernel) (by decide) ?_
    refine X_aload_n (j := 1) (show decode cJ0_getBytes_840e7 33 = .ok (.aload_n 1, 1) by decide +kernel) rfl rfl ?_
    refine X_iload_n (j := 2) (show decode cJ0_getBytes_840e7 34 = .ok (.iload_n 2, 1) by decide +kernel) rfl rfl ?_
    refine X_aload_n (j := 0) (show decode cJ0_getBytes_840e7 35 = .ok (.aload_n 0, 1) by decide +kernel) rfl rfl ?_
    refine X_getS (j := 0) (kd := 20) (c := 1) (show decode cJ0_getBytes_840e7 36 = .ok (.getfield 9, 3) by decide +kernel) (by decide) rfl rfl (Or.inl (gw_of (List.mem_of_getElem? (i := 911) (by decide +kernel)) (by decide +kernel))) s4 s5 ?_
    show X _ _ _ _ _ _ _ _ (.ref (mR _ _ 0) :: _) _
    obtain ⟨s6, w⟩ := w
    refine X_alen (v := nI (ln _ _)) (show decode cJ0_getBytes_840e7 39 = .ok (.arraylength, 1) by decide +kernel) (by decide) (isA_eq s6) rfl ?_
    refine X_sV (rc' := 0) (rs' := 0) (as := [.ref _, .int _, .ref _, .int _, .int _]) ms_J0_106 (show decode cJ0_getBytes_840e7 40 = .ok (.invokestatic 106, 3) by decide +kernel) (by decide) (Nat.le_of_ble_eq_true rfl) (Nat.le_of_ble_eq_true rfl) rfl rfl (Nat.le_of_ble_eq_true rfl) (kJ1_inflate_0e8fd w) (fun E h hk => hk.elim) (fun h7 w => ?_)
    exact X_vret ⟨(show decode cJ0_getBytes_840e7 43 = .ok (.return_, 1) by decide +kernel), rfl⟩ ⟨rfl, w⟩
  · have w := w.2 c3
    refine X_aload_n (j := 0) (show decode cJ0_getBytes_840e7 8 = .ok (.aload_n 0, 1) by decide +kernel) rfl rfl ?_
    obtain ⟨s9, w⟩ := w
    obtain ⟨s10, w⟩ := w
    refine X_getS (j := 0) (kd := 20) (c := 1) (show decode cJ0_getBytes_840e7 9 = .ok (.getfield 9, 3) by decide +kernel) (by decide) rfl rfl (Or.inl (gw_of (List.mem_of_getElem? (i := 911) (by decide +kernel)) (by decide +kernel))) s9 s10 ?_
    show X _ _ _ _ _ _ _ _ (.ref (mR _ _ 0) :: _) _
    refine X_iconst (v := 0) (show decode cJ0_getBytes_840e7 12 = .ok (.iconst 0, 1) by decide +kernel) (by decide) ?_
    refine X_aload_n (j := 1) (show decode cJ0_getBytes_840e7 13 = .ok (.aload_n 1, 1) by decide +kernel) rfl rfl ?_
    refine X_iload_n (j := 2) (show decode cJ0_getBytes_840e7 14 = .ok (.iload_n 2, 1) by decide +kernel) rfl rfl ?_
    refine X_iload_n (j := 3) (show decode cJ0_getBytes_840e7 15 = .ok (.iload_n 3, 1) by decide +kernel) rfl rfl ?_
    refine X_ishl (show decode cJ0_getBytes_840e7 16 = .ok (.ishl, 1) by decide +kernel) ?_
    refine X_aload_n (j := 0) (show decode cJ0_getBytes_840e7 17 = .ok (.aload_n 0, 1) by decide +kernel) rfl rfl ?_
    refine X_getS (j := 0) (kd := 20) (c := 1) (show decode cJ0_getBytes_840e7 18 = .ok (.getfield 9, 3) by decide +kernel) (by decide) rfl rfl (Or.inl (gw_of (List.mem_of_getElem? (i := 911) (by decide +kernel)) (by decide +kernel))) s9 s10 ?_
    show X _ _ _ _ _ _ _ _ (.ref (mR _ _ 0) :: _) _
    obtain ⟨s11, w⟩ := w
    refine X_alen (v := nI (ln _ _)) (show decode cJ0_getBytes_840e7 21 = .ok (.arraylength, 1) by decide +kernel) (by decide) (isA_eq s11) rfl ?_
    obtain ⟨s12, w⟩ := w
    obtain ⟨s13, w⟩ := w
    obtain ⟨s14, w⟩ := w
    obtain ⟨s15, w⟩ := w
    obtain ⟨s16, w⟩ := w
    obtain ⟨s17, w⟩ := w
    obtain ⟨s18, w⟩ := w
    obtain ⟨s19, w⟩ := w
    refine X_copy (t := 3) (show decode cJ0_getBytes_840e7 22 = .ok (.invokestatic 212, 3) by decide +kernel) gl_J0_212 gna_copy gst_copy gin_Sys (by decide) (Nat.le_of_ble_eq_true rfl) (by decide) (isA_eq s11) (isA_eq s12) s13 s14 (by decide) s15 s16 s17 s18 s19 ?_
    have w := w _ rfl
    refine X_goto (tgt := 43) (show decode cJ0_getBytes_840e7 25 = .ok (.goto 18, 3) by decide +kernel) (by decide) ?_
    exact X_vret ⟨(show decode cJ0_getBytes_840e7 43 = .ok (.return_, 1) by decide +kernel), rfl⟩ ⟨rfl, w⟩
set_option maxRecDepth 100000 in
set_option maxHeartbeats 4000000 in
theorem kJ5_putStringAt_47b60 {a0 : Nat} {a1 : Int32} {a2 : Nat} {h : AH} {K : AH → Prop} (w : wJ5_putStringAt_47b60 a0 a1 a2 h K) : Cn mJ5_putStringAt_47b60 (cwd mJ5_putStringAt_47b60) 9 0 0 [.ref a0, .int a1, .ref a2] h (KV K) T0 := by
  refine Cn_of (by decide +kernel) rfl (Nat.le_of_ble_eq_true rfl) ?_
  show X mJ5_putStringAt_47b60 9 (KV K) T0 0 0 0 [(0, .ref a0), (1, .int a1), (2, .ref a2)] [] h
  unfold wJ5_putStringAt_47b60 at w
  exact w.elim
set_option maxRecDepth 100000 in
set_option maxHeartbeats 4000000 in
theorem kJ5_append_cf1ce {a0 : Nat} {a1 : Nat} {h : AH} {K : Nat → AH → Prop} {T : String → AH → Prop} (w : wJ5_append_cf1ce a0 a1 h K T) : Cn mJ5_append_cf1ce (cwd mJ5_append_cf1ce) 20 5 778 [.ref a0, .ref a1] h (KR K) T := by
  refine Cn_of (by decide +kernel) rfl (Nat.le_of_ble_eq_true rfl) ?_
  show X mJ5_append_cf1ce 20 (KR K) T 5 778 0 [(0, .ref a0), (1, .ref a1)] [] h
  unfold wJ5_append_cf1ce at w
  refine X_aload_n (j := 1) (show decode cJ5_append_cf1ce 0 = .ok (.aload_n 1, 1) by decide +kernel) rfl rfl ?_
  refine X_ifnonnull (tgt := 9) (show decode cJ5_append_cf1ce 1 = .ok (.ifnonnull 8, 3) by decide +kernel) (by decide) ⟨fun c1 => ?_, fun c1 => ?_⟩
  · have w := w.1 c1
    exact w.elim
  · have w := w.2 c1
    refine X_aload_n (j := 1) (show decode cJ5_append_cf1ce 9 = .ok (.aload_n 1, 1) by decide +kernel) rfl rfl ?_
    obtain ⟨s14, w⟩ := w
    obtain ⟨s15, w⟩ := w
    refine X_vI (rc' := 5) (rs' := 778) (as := []) mv_J5_32 (show decode cJ5_append_cf1ce 10 = .ok (.invokevirtual 32, 3) by decide +kernel) (by decide) (Nat.le_of_ble_eq_true rfl) (Nat.le_of_ble_eq_true rfl) rfl rfl (Nat.le_of_ble_eq_true rfl) (Or.inr ⟨s15, Or.inl ⟨s14, rfl⟩⟩) (kJ0_length_8abf5 w) (fun E h hk => hk.elim) (fun r5 h4 w => ?_)
    refine X_istore_n (ls' := [(0, .ref _), (1, .ref _), (2, .int _)]) (show decode cJ5_append_cf1ce 13 = .ok (.istore_n 2, 1) by decide +kernel) rfl (by decide) rfl ?_
    refine X_aload_n (j := 0) (show decode cJ5_append_cf1ce 14 = .ok (.aload_n 0, 1) by decide +kernel) rfl rfl ?_
    refine X_aload_n (j := 0) (show decode cJ5_append_cf1ce 15 = .ok (.aload_n 0, 1) by decide +kernel) rfl rfl ?_
    obtain ⟨s6, w⟩ := w
    refine X_getI fl_J5_79 (show decode cJ5_append_cf1ce 16 = .ok (.getfield 79, 3) by decide +kernel) s6 ?_
    refine X_iload_n (j := 2) (show decode cJ5_append_cf1ce 19 = .ok (.iload_n 2, 1) by decide +kernel) rfl rfl ?_
    refine X_iadd (show decode cJ5_append_cf1ce 20 = .ok (.iadd, 1) by decide +kernel) ?_
    refine X_vV (rc' := 0) (rs' := 0) (as := [.int _]) mv_J5_100_J4 (show decode cJ5_append_cf1ce 21 = .ok (.invokevirtual 100, 3) by decide +kernel) (by decide) (Nat.le_of_ble_eq_true rfl) (Nat.le_of_ble_eq_true rfl) rfl rfl (Nat.le_of_ble_eq_true rfl) (rcvD s6 (by decide) rfl) (kJ5_ensureCapacityInternal_d00df w) (fun E h hk => XT_out hk (fun x hx => absurd hx List.not_mem_nil)) (fun h7 w => ?_)
    exact w.elim
set_option maxRecDepth 100000 in
set_option maxHeartbeats 4000000 in
theorem kJ4_append_15ec4 {a0 : Nat} {a1 : Nat} {h : AH} {K : Nat → AH → Prop} {T : String → AH → Prop} (w : wJ4_append_15ec4 a0 a1 h K T) : Cn mJ4_append_15ec4 (cwd mJ4_append_15ec4) 21 5 778 [.ref a0, .ref a1] h (KR K) T := by
  refine Cn_of (by decide +kernel) rfl (Nat.le_of_ble_eq_true rfl) ?_
  show X mJ4_append_15ec4 21 (KR K) T 5 778 0 [(0, .ref a0), (1, .ref a1)] [] h
  unfold wJ4_append_15ec4 at w
  refine X_aload_n (j := 0) (show decode cJ4_append_15ec4 0 = .ok (.aload_n 0, 1) by decide +kernel) rfl rfl ?_
  refine X_aload_n (j := 1) (show decode cJ4_append_15ec4 1 = .ok (.aload_n 1, 1) by decide +kernel) rfl rfl ?_
  obtain ⟨s3, w⟩ := w
  refine X_callP (rc' := 0) (rs' := 0) (as := [.ref _]) mp_J4_29 (show decode cJ4_append_15ec4 2 = .ok (.invokespecial 29, 3) by decide +kernel) (by decide) (Nat.le_of_ble_eq_true rfl) (Nat.le_of_ble_eq_true rfl) rfl rfl (Nat.le_of_ble_eq_true rfl) s3 (kJ5_append_cf1ce w) (fun v9 h1 w => ?_)
  obtain ⟨r2, rfl, w⟩ := w
  refine X_pop (show decode cJ4_append_15ec4 5 = .ok (.pop, 1) by decide +kernel) rfl ?_
  refine X_aload_n (j := 0) (show decode cJ4_append_15ec4 6 = .ok (.aload_n 0, 1) by decide +kernel) rfl rfl ?_
  exact X_aret ⟨(show decode cJ4_append_15ec4 7 = .ok (.areturn, 1) by decide +kernel), _, rfl⟩ ⟨_, rfl, w⟩
set_option maxRecDepth 100000 in
set_option maxHeartbeats 4000000 in
theorem kJ2_newBytesLength_0f7a4 {a0 : Int32} {h : AH} {K : Int32 → AH → Prop} {T : String → AH → Prop} (w : wJ2_newBytesLength_0f7a4 a0 h K T) : Cn mJ2_newBytesLength_0f7a4 (cwd mJ2_newBytesLength_0f7a4) 22 14 2078 [.int a0] h (KI K) T := by
  refine Cn_of (by decide +kernel) rfl (Nat.le_of_ble_eq_true rfl) ?_
  show X mJ2_newBytesLength_0f7a4 22 (KI K) T 14 2078 0 [(0, .int a0)] [] h
  unfold wJ2_newBytesLength_0f7a4 at w
  refine X_iload_n (j := 0) (show decode cJ2_newBytesLength_0f7a4 0 = .ok (.iload_n 0, 1) by decide +kernel) rfl rfl ?_
  refine X_if_ge (tgt := 12) (show decode cJ2_newBytesLength_0f7a4 1 = .ok (.ifCond .ge 11, 3) by decide +kernel) (by decide) ⟨fun c1 => ?_, fun c1 => ?_⟩
  · have w := w.1 c1
    refine X_iload_n (j := 0) (show decode cJ2_newBytesLength_0f7a4 12 = .ok (.iload_n 0, 1) by decide +kernel) rfl rfl ?_
    refine X_ldc (v := 1073741823) (show decode cJ2_newBytesLength_0f7a4 13 = .ok (.ldc 20, 2) by decide +kernel) gc_J2_20 ?_
    refine X_icmp_lt (tgt := 55) (show decode cJ2_newBytesLength_0f7a4 15 = .ok (.if_icmp .lt 40, 3) by decide +kernel) (by decide) ⟨fun c2 => ?_, fun c2 => ?_⟩
    · have w := w.1 c2
      refine X_iload_n (j := 0) (show decode cJ2_newBytesLength_0f7a4 55 = .ok (.iload_n 0, 1) by decide +kernel) rfl rfl ?_
      refine X_iconst (v := 1) (show decode cJ2_newBytesLength_0f7a4 56 = .ok (.iconst 1, 1) by decide +kernel) (by decide) ?_
      refine X_ishl (show decode cJ2_newBytesLength_0f7a4 57 = .ok (.ishl, 1) by decide +kernel) ?_
      exact X_iret ⟨(show decode cJ2_newBytesLength_0f7a4 58 = .ok (.ireturn, 1) by decide +kernel), .int, rfl, rfl⟩ ⟨_, rfl, w⟩
    · have w := w.2 c2
      exact w.elim
  · have w := w.2 c1
    exact w.elim
set_option maxRecDepth 100000 in
set_option maxHeartbeats 4000000 in
theorem kJ2_newBytesFor_77867 {a0 : Int32} {h : AH} {K : Nat → AH → Prop} {T : String → AH → Prop} (w : wJ2_newBytesFor_77867 a0 h K T) : Cn mJ2_newBytesFor_77867 (cwd mJ2_newBytesFor_77867) 23 15 2334 [.int a0] h (KR K) T := by
  refine Cn_of (by decide +kernel) rfl (Nat.le_of_ble_eq_true rfl) ?_
  show X mJ2_newBytesFor_77867 23 (KR K) T 15 2334 0 [(0, .int a0)] [] h
  unfold wJ2_newBytesFor_77867 at w
  refine X_iload_n (j := 0) (show decode cJ2_newBytesFor_77867 0 = .ok (.iload_n 0, 1) by decide +kernel) rfl rfl ?_
  refine X_sI (rc' := 1) (rs' := 256) (as := [.int _]) ms_J2_11 (show decode cJ2_newBytesFor_77867 1 = .ok (.invokestatic 11, 3) by decide +kernel) (by decide) (Nat.le_of_ble_eq_true rfl) (Nat.le_of_ble_eq_true rfl) rfl rfl (Nat.le_of_ble_eq_true rfl) (kJ2_newBytesLength_0f7a4 w) (fun E h hk => XT_out hk (fun x hx => absurd hx List.not_mem_nil)) (fun r2 h1 w => ?_)
  obtain ⟨s3, w⟩ := w
  obtain ⟨s4, w⟩ := w
  refine X_newa (rc' := 0) (rs' := 0) na_3 (by decide) (show decode cJ2_newBytesFor_77867 4 = .ok (.newarray .byte, 2) by decide +kernel) s3 rfl (by have := s4; simp only [ty_, componentBytes]; omega) (Nat.le_of_ble_eq_true rfl) (by omega) ?_
  have w := w _ rfl
  exact X_aret ⟨(show decode cJ2_newBytesFor_77867 6 = .ok (.areturn, 1) by decide +kernel), _, rfl⟩ ⟨_, rfl, w⟩
set_option maxRecDepth 100000 in
set_option maxHeartbeats 4000000 in
theorem kJ5_init_d00df {a0 : Nat} {a1 : Int32} {h : AH} {K : AH → Prop} {T : String → AH → Prop} (w : wJ5_init_d00df a0 a1 h K T) : Cn mJ5_init_d00df (cwd mJ5_init_d00df) 24 15 2334 [.ref a0, .int a1] h (KV K) T := by
  refine Cn_of (by decide +kernel) rfl (Nat.le_of_ble_eq_true rfl) ?_
  show X mJ5_init_d00df 24 (KV K) T 15 2334 0 [(0, .ref a0), (1, .int a1)] [] h
  unfold wJ5_init_d00df at w
  refine X_aload_n (j := 0) (show decode cJ5_init_d00df 0 = .ok (.aload_n 0, 1) by decide +kernel) rfl rfl ?_
  obtain ⟨s1, w⟩ := w
  refine X_objInit (show decode cJ5_init_d00df 1 = .ok (.invokespecial 3, 3) by decide +kernel) gl_J5_3 gi_obj gco_obj s1 (by decide) (by decide) ?_
  refine X_getstI (j := 3) rfl gz_J5_18 (show decode cJ5_init_d00df 4 = .ok (.getstatic 18, 3) by decide +kernel) ?_
  refine X_if_eq (tgt := 25) (show decode cJ5_init_d00df 7 = .ok (.ifCond .eq 18, 3) by decide +kernel) (by decide) ⟨fun c2 => ?_, fun c2 => ?_⟩
  · have w := w.1 c2
    refine X_aload_n (j := 0) (show decode cJ5_init_d00df 25 = .ok (.aload_n 0, 1) by decide +kernel) rfl rfl ?_
    refine X_iload_n (j := 1) (show decode cJ5_init_d00df 26 = .ok (.iload_n 1, 1) by decide +kernel) rfl rfl ?_
    refine X_sR (rc' := 0) (rs' := 0) (as := [.int _]) ms_J5_26 (show decode cJ5_init_d00df 27 = .ok (.invokestatic 26, 3) by decide +kernel) (by decide) (Nat.le_of_ble_eq_true rfl) (Nat.le_of_ble_eq_true rfl) rfl rfl (Nat.le_of_ble_eq_true rfl) (kJ2_newBytesFor_77867 w) (fun E h hk => XT_out hk (fun x hx => absurd hx List.not_mem_nil)) (fun r4 h3 w => ?_)
    obtain ⟨s5, w⟩ := w
    refine X_putR fp_J5_15 (show decode cJ5_init_d00df 30 = .ok (.putfield 15, 3) by decide +kernel) (fun z => nomatch z) (by first | exact Or.inl ⟨_, rfl⟩ | exact Or.inr ⟨_, rfl⟩) s5 ?_
    have w := w _ rfl
    refine X_aload_n (j := 0) (show decode cJ5_init_d00df 33 = .ok (.aload_n 0, 1) by decide +kernel) rfl rfl ?_
    refine X_iconst (v := 1) (show decode cJ5_init_d00df 34 = .ok (.iconst 1, 1) by decide +kernel) (by decide) ?_
    refine X_putI fp_J5_22 (show decode cJ5_init_d00df 35 = .ok (.putfield 22, 3) by decide +kernel) (fun z => nomatch z) s5 (by decide) (by decide) ?_
    have w := w _ rfl
    exact X_vret ⟨(show decode cJ5_init_d00df 38 = .ok (.return_, 1) by decide +kernel), rfl⟩ ⟨rfl, w⟩
  · have w := w.2 c2
    refine X_aload_n (j := 0) (show decode cJ5_init_d00df 10 = .ok (.aload_n 0, 1) by decide +kernel) rfl rfl ?_
    refine X_iload_n (j := 1) (show decode cJ5_init_d00df 11 = .ok (.iload_n 1, 1) by decide +kernel) rfl rfl ?_
    obtain ⟨s8, w⟩ := w
    obtain ⟨s9, w⟩ := w
    refine X_newa (rc' := 14) (rs' := 2078) na_3 (by decide) (show decode cJ5_init_d00df 12 = .ok (.newarray .byte, 2) by decide +kernel) s8 rfl (by have := s9; simp only [ty_, componentBytes]; omega) (Nat.le_of_ble_eq_true rfl) (by omega) ?_
    have w := w _ rfl
    obtain ⟨s11, w⟩ := w
    refine X_putR fp_J5_15 (show decode cJ5_init_d00df 14 = .ok (.putfield 15, 3) by decide +kernel) (fun z => nomatch z) (by first | exact Or.inl ⟨_, rfl⟩ | exact Or.inr ⟨_, rfl⟩) s11 ?_
    have w := w _ rfl
    refine X_aload_n (j := 0) (show decode cJ5_init_d00df 17 = .ok (.aload_n 0, 1) by decide +kernel) rfl rfl ?_
    refine X_iconst (v := 0) (show decode cJ5_init_d00df 18 = .ok (.iconst 0, 1) by decide +kernel) (by decide) ?_
    refine X_putI fp_J5_22 (show decode cJ5_init_d00df 19 = .ok (.putfield 22, 3) by decide +kernel) (fun z => nomatch z) s11 (by decide) (by decide) ?_
    have w := w _ rfl
    refine X_goto (tgt := 38) (show decode cJ5_init_d00df 22 = .ok (.goto 16, 3) by decide +kernel) (by decide) ?_
    exact X_vret ⟨(show decode cJ5_init_d00df 38 = .ok (.return_, 1) by decide +kernel), rfl⟩ ⟨rfl, w⟩
set_option maxRecDepth 100000 in
set_option maxHeartbeats 4000000 in
theorem kJ4_init_da8c8 {a0 : Nat} {h : AH} {K : AH → Prop} {T : String → AH → Prop} (w : wJ4_init_da8c8 a0 h K T) : Cn mJ4_init_da8c8 (cwd mJ4_init_da8c8) 25 15 2334 [.ref a0] h (KV K) T := by
  refine Cn_of (by decide +kernel) rfl (Nat.le_of_ble_eq_true rfl) ?_
  show X mJ4_init_da8c8 25 (KV K) T 15 2334 0 [(0, .ref a0)] [] h
  unfold wJ4_init_da8c8 at w
  refine X_aload_n (j := 0) (show decode cJ4_init_da8c8 0 = .ok (.aload_n 0, 1) by decide +kernel) rfl rfl ?_
  refine X_bipush (v := 16) (show decode cJ4_init_da8c8 1 = .ok (.bipush 16, 2) by decide +kernel) (by decide) ?_
  obtain ⟨s3, w⟩ := w
  refine X_iV (rc' := 0) (rs' := 0) (as := [.int _]) mi_J4_1 (show decode cJ4_init_da8c8 3 = .ok (.invokespecial 1, 3) by decide +kernel) (by decide) (Nat.le_of_ble_eq_true rfl) (Nat.le_of_ble_eq_true rfl) rfl rfl (Nat.le_of_ble_eq_true rfl) s3 (kJ5_init_d00df w) (fun h1 w => ?_)
  exact X_vret ⟨(show decode cJ4_init_da8c8 6 = .ok (.return_, 1) by decide +kernel), rfl⟩ ⟨rfl, w⟩
set_option maxRecDepth 100000 in
set_option maxHeartbeats 4000000 in
theorem kX4_copyFrom_L102 {K : AH → Prop}   {x0 : Nat} {x1 : Nat} : ∀ (n : Nat) (x2 : Int32) (h : AH), wX4_copyFrom_L102 K  x0 x1 n x2 h → X mX4_copyFrom 2 (KV K) T0 0 0 102 [(0, .ref x0), (1, .ref x1), (2, .int x2)] [] h := by
  intro n
  induction n with
  | zero => intro _ _ w; exact w.elim
  | succ n ih =>
    intro x2 h w
    rw [wX4_copyFrom_L102] at w
    refine X_iload_n (j := 2) (show decode cX4_copyFrom 102 = .ok (.iload_n 2, 1) by decide +kernel) rfl rfl ?_
    refine X_bipush (v := 12) (show decode cX4_copyFrom 103 = .ok (.bipush 12, 2) by decide +kernel) (by decide) ?_
    refine X_icmp_ge (tgt := 152) (show decode cX4_copyFrom 105 = .ok (.if_icmp .ge 47, 3) by decide +kernel) (by decide) ⟨fun c36 => ?_, fun c36 => ?_⟩
    · have w := w.1 c36
      exact X_vret ⟨(show decode cX4_copyFrom 152 = .ok (.return_, 1) by decide +kernel), rfl⟩ ⟨rfl, w⟩
    · have w := w.2 c36
      refine X_aload_n (j := 1) (show decode cX4_copyFrom 108 = .ok (.aload_n 1, 1) by decide +kernel) rfl rfl ?_
      obtain ⟨s37, w⟩ := w
      refine X_getR fl_X4_42 (show decode cX4_copyFrom 109 = .ok (.getfield 42, 3) by decide +kernel) s37 ?_
      refine X_iload_n (j := 2) (show decode cX4_copyFrom 112 = .ok (.iload_n 2, 1) by decide +kernel) rfl rfl ?_
      obtain ⟨s38, w⟩ := w
      obtain ⟨s39, w⟩ := w
      obtain ⟨s40, w⟩ := w
      refine X_aaldA (show decode cX4_copyFrom 113 = .ok (.aaload, 1) by decide +kernel) (isA_eq s38) s39 s40 ?_
      refine X_iconst (v := 0) (show decode cX4_copyFrom 114 = .ok (.iconst 0, 1) by decide +kernel) (by decide) ?_
      refine X_aload_n (j := 0) (show decode cX4_copyFrom 115 = .ok (.aload_n 0, 1) by decide +kernel) rfl rfl ?_
      obtain ⟨s41, w⟩ := w
      refine X_getR fl_X4_42 (show decode cX4_copyFrom 116 = .ok (.getfield 42, 3) by decide +kernel) s41 ?_
      refine X_iload_n (j := 2) (show decode cX4_copyFrom 119 = .ok (.iload_n 2, 1) by decide +kernel) rfl rfl ?_
      obtain ⟨s42, w⟩ := w
      obtain ⟨s43, w⟩ := w
      obtain ⟨s44, w⟩ := w
      refine X_aaldA (show decode cX4_copyFrom 120 = .ok (.aaload, 1) by decide +kernel) (isA_eq s42) s43 s44 ?_
      refine X_iconst (v := 0) (show decode cX4_copyFrom 121 = .ok (.iconst 0, 1) by decide +kernel) (by decide) ?_
      refine X_bipush (v := 12) (show decode cX4_copyFrom 122 = .ok (.bipush 12, 2) by decide +kernel) (by decide) ?_
      obtain ⟨s45, w⟩ := w
      obtain ⟨s46, w⟩ := w
      obtain ⟨s47, w⟩ := w
      obtain ⟨s48, w⟩ := w
      obtain ⟨s49, w⟩ := w
      obtain ⟨s50, w⟩ := w
      refine X_copy (t := 0) (show decode cX4_copyFrom 124 = .ok (.invokestatic 51, 3) by decide +kernel) gl_X4_51 gna_copy gst_copy gin_Sys (by decide) (Nat.le_of_ble_eq_true rfl) (by decide) (isA_eq s45) (isA_eq s46) s47 s48 (by decide) (by decide) (by decide) s49 s50 (fun _ _ => rfl) ?_
      have w := w _ rfl
      refine X_aload_n (j := 1) (show decode cX4_copyFrom 127 = .ok (.aload_n 1, 1) by decide +kernel) rfl rfl ?_
      refine X_getR fl_X4_45 (show decode cX4_copyFrom 128 = .ok (.getfield 45, 3) by decide +kernel) s37 ?_
      refine X_iload_n (j := 2) (show decode cX4_copyFrom 131 = .ok (.iload_n 2, 1) by decide +kernel) rfl rfl ?_
      obtain ⟨s52, w⟩ := w
      obtain ⟨s53, w⟩ := w
      obtain ⟨s54, w⟩ := w
      refine X_aaldA (show decode cX4_copyFrom 132 = .ok (.aaload, 1) by decide +kernel) (isA_eq s52) s53 s54 ?_
      refine X_iconst (v := 0) (show decode cX4_copyFrom 133 = .ok (.iconst 0, 1) by decide +kernel) (by decide) ?_
      refine X_aload_n (j := 0) (show decode cX4_copyFrom 134 = .ok (.aload_n 0, 1) by decide +kernel) rfl rfl ?_
      refine X_getR fl_X4_45 (show decode cX4_copyFrom 135 = .ok (.getfield 45, 3) by decide +kernel) s41 ?_
      refine X_iload_n (j := 2) (show decode cX4_copyFrom 138 = .ok (.iload_n 2, 1) by decide +kernel) rfl rfl ?_
      obtain ⟨s55, w⟩ := w
      obtain ⟨s56, w⟩ := w
      obtain ⟨s57, w⟩ := w
      refine X_aaldA (show decode cX4_copyFrom 139 = .ok (.aaload, 1) by decide +kernel) (isA_eq s55) s56 s57 ?_
      refine X_iconst (v := 0) (show decode cX4_copyFrom 140 = .ok (.iconst 0, 1) by decide +kernel) (by decide) ?_
      refine X_bipush (v := 12) (show decode cX4_copyFrom 141 = .ok (.bipush 12, 2) by decide +kernel) (by decide) ?_
      obtain ⟨s58, w⟩ := w
      obtain ⟨s59, w⟩ := w
      obtain ⟨s60, w⟩ := w
      obtain ⟨s61, w⟩ := w
      obtain ⟨s62, w⟩ := w
      obtain ⟨s63, w⟩ := w
      refine X_copy (t := 0) (show decode cX4_copyFrom 143 = .ok (.invokestatic 51, 3) by decide +kernel) gl_X4_51 gna_copy gst_copy gin_Sys (by decide) (Nat.le_of_ble_eq_true rfl) (by decide) (isA_eq s58) (isA_eq s59) s60 s61 (by decide) (by decide) (by decide) s62 s63 (fun _ _ => rfl) ?_
      have w := w _ rfl
      refine X_iinc (j := 2) (v := _ + 1) (ls' := [(0, .ref _), (1, .ref _), (2, .int _)]) (show decode cX4_copyFrom 146 = .ok (.iinc 2 1, 3) by decide +kernel) rfl rfl (Nat.le_of_ble_eq_true rfl) rfl ?_
      refine X_goto (tgt := 102) (show decode cX4_copyFrom 149 = .ok (.goto (-47), 3) by decide +kernel) (by decide) ?_
      exact ih _ _ _ _ w
set_option maxRecDepth 100000 in
set_option maxHeartbeats 4000000 in
theorem kX4_copyFrom {a0 : Nat} {a1 : Nat} {h : AH} {K : AH → Prop} (w : wX4_copyFrom a0 a1 h K) : Cn mX4_copyFrom (cwd mX4_copyFrom) 2 0 0 [.ref a0, .ref a1] h (KV K) T0 := by
  refine Cn_of (by decide +kernel) rfl (Nat.le_of_ble_eq_true rfl) ?_
  show X mX4_copyFrom 2 (KV K) T0 0 0 0 [(0, .ref a0), (1, .ref a1), (2, .int 0)] [] h
  unfold wX4_copyFrom at w
  refine X_aload_n (j := 0) (show decode cX4_copyFrom 0 = .ok (.aload_n 0, 1) by decide +kernel) rfl rfl ?_
  refine X_aload_n (j := 1) (show decode cX4_copyFrom 1 = .ok (.aload_n 1, 1) by decide +kernel) rfl rfl ?_
  obtain ⟨s1, w⟩ := w
  refine X_getI fl_X4_9 (show decode cX4_copyFrom 2 = .ok (.getfield 9, 3) by decide +kernel) s1 ?_
  obtain ⟨s2, w⟩ := w
  refine X_putI fp_X4_9 (show decode cX4_copyFrom 5 = .ok (.putfield 9, 3) by decide +kernel) (fun z => nomatch z) s2 rfl rfl ?_
  have w := w _ rfl
  refine X_aload_n (j := 0) (show decode cX4_copyFrom 8 = .ok (.aload_n 0, 1) by decide +kernel) rfl rfl ?_
  refine X_aload_n (j := 1) (show decode cX4_copyFrom 9 = .ok (.aload_n 1, 1) by decide +kernel) rfl rfl ?_
  refine X_getI fl_X4_15 (show decode cX4_copyFrom 10 = .ok (.getfield 15, 3) by decide +kernel) s1 ?_
  refine X_putI fp_X4_15 (show decode cX4_copyFrom 13 = .ok (.putfield 15, 3) by decide +kernel) (fun z => nomatch z) s2 rfl rfl ?_
  have w := w _ rfl
  refine X_aload_n (j := 0) (show decode cX4_copyFrom 16 = .ok (.aload_n 0, 1) by decide +kernel) rfl rfl ?_
  refine X_aload_n (j := 1) (show decode cX4_copyFrom 17 = .ok (.aload_n 1, 1) by decide +kernel) rfl rfl ?_
  refine X_getI fl_X4_18 (show decode cX4_copyFrom 18 = .ok (.getfield 18, 3) by decide +kernel) s1 ?_
  refine X_putI fp_X4_18 (show decode cX4_copyFrom 21 = .ok (.putfield 18, 3) by decide +kernel) (fun z => nomatch z) s2 rfl rfl ?_
  have w := w _ rfl
  refine X_aload_n (j := 0) (show decode cX4_copyFrom 24 = .ok (.aload_n 0, 1) by decide +kernel) rfl rfl ?_
  refine X_aload_n (j := 1) (show decode cX4_copyFrom 25 = .ok (.aload_n 1, 1) by decide +kernel) rfl rfl ?_
  refine X_getI fl_X4_21 (show decode cX4_copyFrom 26 = .ok (.getfield 21, 3) by decide +kernel) s1 ?_
  refine X_putI fp_X4_21 (show decode cX4_copyFrom 29 = .ok (.putfield 21, 3) by decide +kernel) (fun z => nomatch z) s2 rfl rfl ?_
  have w := w _ rfl
  refine X_aload_n (j := 0) (show decode cX4_copyFrom 32 = .ok (.aload_n 0, 1) by decide +kernel) rfl rfl ?_
  refine X_aload_n (j := 1) (show decode cX4_copyFrom 33 = .ok (.aload_n 1, 1) by decide +kernel) rfl rfl ?_
  refine X_getI fl_X4_24 (show decode cX4_copyFrom 34 = .ok (.getfield 24, 3) by decide +kernel) s1 ?_
  refine X_putI fp_X4_24 (show decode cX4_copyFrom 37 = .ok (.putfield 24, 3) by decide +kernel) (fun z => nomatch z) s2 rfl rfl ?_
  have w := w _ rfl
  refine X_aload_n (j := 1) (show decode cX4_copyFrom 40 = .ok (.aload_n 1, 1) by decide +kernel) rfl rfl ?_
  refine X_getR fl_X4_27 (show decode cX4_copyFrom 41 = .ok (.getfield 27, 3) by decide +kernel) s1 ?_
  refine X_iconst (v := 0) (show decode cX4_copyFrom 44 = .ok (.iconst 0, 1) by decide +kernel) (by decide) ?_
  refine X_aload_n (j := 0) (show decode cX4_copyFrom 45 = .ok (.aload_n 0, 1) by decide +kernel) rfl rfl ?_
  refine X_getR fl_X4_27 (show decode cX4_copyFrom 46 = .ok (.getfield 27, 3) by decide +kernel) s2 ?_
  refine X_iconst (v := 0) (show decode cX4_copyFrom 49 = .ok (.iconst 0, 1) by decide +kernel) (by decide) ?_
  refine X_bipush (v := 12) (show decode cX4_copyFrom 50 = .ok (.bipush 12, 2) by decide +kernel) (by decide) ?_
  obtain ⟨s8, w⟩ := w
  obtain ⟨s9, w⟩ := w
  obtain ⟨s10, w⟩ := w
  obtain ⟨s11, w⟩ := w
  obtain ⟨s12, w⟩ := w
  obtain ⟨s13, w⟩ := w
  refine X_copy (t := 0) (show decode cX4_copyFrom 52 = .ok (.invokestatic 51, 3) by decide +kernel) gl_X4_51 gna_copy gst_copy gin_Sys (by decide) (Nat.le_of_ble_eq_true rfl) (by decide) (isA_eq s8) (isA_eq s9) s10 s11 (by decide) (by decide) (by decide) s12 s13 (fun _ _ => rfl) ?_
  have w := w _ rfl
  refine X_aload_n (j := 1) (show decode cX4_copyFrom 55 = .ok (.aload_n 1, 1) by decide +kernel) rfl rfl ?_
  refine X_getR fl_X4_31 (show decode cX4_copyFrom 56 = .ok (.getfield 31, 3) by decide +kernel) s1 ?_
  refine X_iconst (v := 0) (show decode cX4_copyFrom 59 = .ok (.iconst 0, 1) by decide +kernel) (by decide) ?_
  refine X_aload_n (j := 0) (show decode cX4_copyFrom 60 = .ok (.aload_n 0, 1) by decide +kernel) rfl rfl ?_
  refine X_getR fl_X4_31 (show decode cX4_copyFrom 61 = .ok (.getfield 31, 3) by decide +kernel) s2 ?_
  refine X_iconst (v := 0) (show decode cX4_copyFrom 64 = .ok (.iconst 0, 1) by decide +kernel) (by decide) ?_
  refine X_bipush (v := 12) (show decode cX4_copyFrom 65 = .ok (.bipush 12, 2) by decide +kernel) (by decide) ?_
  obtain ⟨s15, w⟩ := w
  obtain ⟨s16, w⟩ := w
  obtain ⟨s17, w⟩ := w
  obtain ⟨s18, w⟩ := w
  obtain ⟨s19, w⟩ := w
  obtain ⟨s20, w⟩ := w
  refine X_copy (t := 0) (show decode cX4_copyFrom 67 = .ok (.invokestatic 51, 3) by decide +kernel) gl_X4_51 gna_copy gst_copy gin_Sys (by decide) (Nat.le_of_ble_eq_true rfl) (by decide) (isA_eq s15) (isA_eq s16) s17 s18 (by decide) (by decide) (by decide) s19 s20 (fun _ _ => rfl) ?_
  have w := w _ rfl
  refine X_aload_n (j := 1) (show decode cX4_copyFrom 70 = .ok (.aload_n 1, 1) by decide +kernel) rfl rfl ?_
  refine X_getR fl_X4_34 (show decode cX4_copyFrom 71 = .ok (.getfield 34, 3) by decide +kernel) s1 ?_
  refine X_iconst (v := 0) (show decode cX4_copyFrom 74 = .ok (.iconst 0, 1) by decide +kernel) (by decide) ?_
  refine X_aload_n (j := 0) (show decode cX4_copyFrom 75 = .ok (.aload_n 0, 1) by decide +kernel) rfl rfl ?_
  refine X_getR fl_X4_34 (show decode cX4_copyFrom 76 = .ok (.getfield 34, 3) by decide +kernel) s2 ?_
  refine X_iconst (v := 0) (show decode cX4_copyFrom 79 = .ok (.iconst 0, 1) by decide +kernel) (by decide) ?_
  refine X_bipush (v := 12) (show decode cX4_copyFrom 80 = .ok (.bipush 12, 2) by decide +kernel) (by decide) ?_
  obtain ⟨s22, w⟩ := w
  obtain ⟨s23, w⟩ := w
  obtain ⟨s24, w⟩ := w
  obtain ⟨s25, w⟩ := w
  obtain ⟨s26, w⟩ := w
  obtain ⟨s27, w⟩ := w
  refine X_copy (t := 0) (show decode cX4_copyFrom 82 = .ok (.invokestatic 51, 3) by decide +kernel) gl_X4_51 gna_copy gst_copy gin_Sys (by decide) (Nat.le_of_ble_eq_true rfl) (by decide) (isA_eq s22) (isA_eq s23) s24 s25 (by decide) (by decide) (by decide) s26 s27 (fun _ _ => rfl) ?_
  have w := w _ rfl
  refine X_aload_n (j := 1) (show decode cX4_copyFrom 85 = .ok (.aload_n 1, 1) by decide +kernel) rfl rfl ?_
  refine X_getR fl_X4_37 (show decode cX4_copyFrom 86 = .ok (.getfield 37, 3) by decide +kernel) s1 ?_
  refine X_iconst (v := 0) (show decode cX4_copyFrom 89 = .ok (.iconst 0, 1) by decide +kernel) (by decide) ?_
  refine X_aload_n (j := 0) (show decode cX4_copyFrom 90 = .ok (.aload_n 0, 1) by decide +kernel) rfl rfl ?_
  refine X_getR fl_X4_37 (show decode cX4_copyFrom 91 = .ok (.getfield 37, 3) by decide +kernel) s2 ?_
  refine X_iconst (v := 0) (show decode cX4_copyFrom 94 = .ok (.iconst 0, 1) by decide +kernel) (by decide) ?_
  refine X_bipush (v := 8) (show decode cX4_copyFrom 95 = .ok (.bipush 8, 2) by decide +kernel) (by decide) ?_
  obtain ⟨s29, w⟩ := w
  obtain ⟨s30, w⟩ := w
  obtain ⟨s31, w⟩ := w
  obtain ⟨s32, w⟩ := w
  obtain ⟨s33, w⟩ := w
  obtain ⟨s34, w⟩ := w
  refine X_copy (t := 0) (show decode cX4_copyFrom 97 = .ok (.invokestatic 51, 3) by decide +kernel) gl_X4_51 gna_copy gst_copy gin_Sys (by decide) (Nat.le_of_ble_eq_true rfl) (by decide) (isA_eq s29) (isA_eq s30) s31 s32 (by decide) (by decide) (by decide) s33 s34 (fun _ _ => rfl) ?_
  have w := w _ rfl
  refine X_iconst (v := 0) (show decode cX4_copyFrom 100 = .ok (.iconst 0, 1) by decide +kernel) (by decide) ?_
  refine X_istore_n (ls' := [(0, .ref _), (1, .ref _), (2, .int _)]) (show decode cX4_copyFrom 101 = .ok (.istore_n 2, 1) by decide +kernel) rfl (by decide) rfl ?_
  obtain ⟨n65, w⟩ := w
  exact kX4_copyFrom_L102  n65 _ _ w
set_option maxRecDepth 100000 in
set_option maxHeartbeats 4000000 in
theorem kX8_copyFrom {a0 : Nat} {a1 : Nat} {h : AH} {K : AH → Prop} (w : wX8_copyFrom a0 a1 h K) : Cn mX8_copyFrom (cwd mX8_copyFrom) 1 0 0 [.ref a0, .ref a1] h (KV K) T0 := by
  refine Cn_of (by decide +kernel) rfl (Nat.le_of_ble_eq_true rfl) ?_
  show X mX8_copyFrom 1 (KV K) T0 0 0 0 [(0, .ref a0), (1, .ref a1)] [] h
  unfold wX8_copyFrom at w
  refine X_aload_n (j := 0) (show decode cX8_copyFrom 0 = .ok (.aload_n 0, 1) by decide +kernel) rfl rfl ?_
  refine X_aload_n (j := 1) (show decode cX8_copyFrom 1 = .ok (.aload_n 1, 1) by decide +kernel) rfl rfl ?_
  obtain ⟨s1, w⟩ := w
  refine X_getI fl_X8_7 (show decode cX8_copyFrom 2 = .ok (.getfield 7, 3) by decide +kernel) s1 ?_
  obtain ⟨s2, w⟩ := w
  refine X_putI fp_X8_7 (show decode cX8_copyFrom 5 = .ok (.putfield 7, 3) by decide +kernel) (fun z => nomatch z) s2 rfl rfl ?_
  have w := w _ rfl
  refine X_aload_n (j := 0) (show decode cX8_copyFrom 8 = .ok (.aload_n 0, 1) by decide +kernel) rfl rfl ?_
  refine X_aload_n (j := 1) (show decode cX8_copyFrom 9 = .ok (.aload_n 1, 1) by decide +kernel) rfl rfl ?_
  refine X_getI fl_X8_13 (show decode cX8_copyFrom 10 = .ok (.getfield 13, 3) by decide +kernel) s1 ?_
  refine X_putI fp_X8_13 (show decode cX8_copyFrom 13 = .ok (.putfield 13, 3) by decide +kernel) (fun z => nomatch z) s2 rfl rfl ?_
  have w := w _ rfl
  refine X_aload_n (j := 0) (show decode cX8_copyFrom 16 = .ok (.aload_n 0, 1) by decide +kernel) rfl rfl ?_
  refine X_aload_n (j := 1) (show decode cX8_copyFrom 17 = .ok (.aload_n 1, 1) by decide +kernel) rfl rfl ?_
  refine X_getI fl_X8_16 (show decode cX8_copyFrom 18 = .ok (.getfield 16, 3) by decide +kernel) s1 ?_
  refine X_putI fp_X8_16 (show decode cX8_copyFrom 21 = .ok (.putfield 16, 3) by decide +kernel) (fun z => nomatch z) s2 rfl rfl ?_
  have w := w _ rfl
  refine X_aload_n (j := 0) (show decode cX8_copyFrom 24 = .ok (.aload_n 0, 1) by decide +kernel) rfl rfl ?_
  refine X_aload_n (j := 1) (show decode cX8_copyFrom 25 = .ok (.aload_n 1, 1) by decide +kernel) rfl rfl ?_
  refine X_getI fl_X8_19 (show decode cX8_copyFrom 26 = .ok (.getfield 19, 3) by decide +kernel) s1 ?_
  refine X_putI fp_X8_19 (show decode cX8_copyFrom 29 = .ok (.putfield 19, 3) by decide +kernel) (fun z => nomatch z) s2 rfl rfl ?_
  have w := w _ rfl
  refine X_aload_n (j := 0) (show decode cX8_copyFrom 32 = .ok (.aload_n 0, 1) by decide +kernel) rfl rfl ?_
  refine X_aload_n (j := 1) (show decode cX8_copyFrom 33 = .ok (.aload_n 1, 1) by decide +kernel) rfl rfl ?_
  refine X_getI fl_X8_22 (show decode cX8_copyFrom 34 = .ok (.getfield 22, 3) by decide +kernel) s1 ?_
  refine X_putI fp_X8_22 (show decode cX8_copyFrom 37 = .ok (.putfield 22, 3) by decide +kernel) (fun z => nomatch z) s2 rfl rfl ?_
  have w := w _ rfl
  refine X_aload_n (j := 0) (show decode cX8_copyFrom 40 = .ok (.aload_n 0, 1) by decide +kernel) rfl rfl ?_
  refine X_aload_n (j := 1) (show decode cX8_copyFrom 41 = .ok (.aload_n 1, 1) by decide +kernel) rfl rfl ?_
  refine X_getI fl_X8_25 (show decode cX8_copyFrom 42 = .ok (.getfield 25, 3) by decide +kernel) s1 ?_
  refine X_putI fp_X8_25 (show decode cX8_copyFrom 45 = .ok (.putfield 25, 3) by decide +kernel) (fun z => nomatch z) s2 rfl rfl ?_
  have w := w _ rfl
  exact X_vret ⟨(show decode cX8_copyFrom 48 = .ok (.return_, 1) by decide +kernel), rfl⟩ ⟨rfl, w⟩
set_option maxRecDepth 100000 in
set_option maxHeartbeats 4000000 in
theorem kX7_copyFrom_L13 {K : AH → Prop}   {x0 : Nat} {x1 : Nat} : ∀ (n : Nat) (x2 : Int32) (h : AH), wX7_copyFrom_L13 K  x0 x1 n x2 h → X mX7_copyFrom 3 (KV K) T0 0 0 13 [(0, .ref x0), (1, .ref x1), (2, .int x2)] [] h := by
  intro n
  induction n with
  | zero => intro _ _ w; exact w.elim
  | succ n ih =>
    intro x2 h w
    rw [wX7_copyFrom_L13] at w
    refine X_iload_n (j := 2) (show decode cX7_copyFrom 13 = .ok (.iload_n 2, 1) by decide +kernel) rfl rfl ?_
    refine X_bipush (v := 8) (show decode cX7_copyFrom 14 = .ok (.bipush 8, 2) by decide +kernel) (by decide) ?_
    refine X_icmp_ge (tgt := 40) (show decode cX7_copyFrom 16 = .ok (.if_icmp .ge 24, 3) by decide +kernel) (by decide) ⟨fun c5 => ?_, fun c5 => ?_⟩
    · have w := w.1 c5
      refine X_aload_n (j := 1) (show decode cX7_copyFrom 40 = .ok (.aload_n 1, 1) by decide +kernel) rfl rfl ?_
      obtain ⟨s6, w⟩ := w
      refine X_getR fl_X7_24 (show decode cX7_copyFrom 41 = .ok (.getfield 24, 3) by decide +kernel) s6 ?_
      refine X_iconst (v := 0) (show decode cX7_copyFrom 44 = .ok (.iconst 0, 1) by decide +kernel) (by decide) ?_
      refine X_aload_n (j := 0) (show decode cX7_copyFrom 45 = .ok (.aload_n 0, 1) by decide +kernel) rfl rfl ?_
      obtain ⟨s7, w⟩ := w
      refine X_getR fl_X7_24 (show decode cX7_copyFrom 46 = .ok (.getfield 24, 3) by decide +kernel) s7 ?_
      refine X_iconst (v := 0) (show decode cX7_copyFrom 49 = .ok (.iconst 0, 1) by decide +kernel) (by decide) ?_
      refine X_bipush (v := 8) (show decode cX7_copyFrom 50 = .ok (.bipush 8, 2) by decide +kernel) (by decide) ?_
      obtain ⟨s8, w⟩ := w
      obtain ⟨s9, w⟩ := w
      obtain ⟨s10, w⟩ := w
      obtain ⟨s11, w⟩ := w
      obtain ⟨s12, w⟩ := w
      obtain ⟨s13, w⟩ := w
      refine X_copy (t := 0) (show decode cX7_copyFrom 52 = .ok (.invokestatic 56, 3) by decide +kernel) gl_X7_56 gna_copy gst_copy gin_Sys (by decide) (Nat.le_of_ble_eq_true rfl) (by decide) (isA_eq s8) (isA_eq s9) s10 s11 (by decide) (by decide) (by decide) s12 s13 (fun _ _ => rfl) ?_
      have w := w _ rfl
      refine X_aload_n (j := 0) (show decode cX7_copyFrom 55 = .ok (.aload_n 0, 1) by decide +kernel) rfl rfl ?_
      refine X_aload_n (j := 1) (show decode cX7_copyFrom 56 = .ok (.aload_n 1, 1) by decide +kernel) rfl rfl ?_
      refine X_getI fl_X7_28 (show decode cX7_copyFrom 57 = .ok (.getfield 28, 3) by decide +kernel) s6 ?_
      refine X_putI fp_X7_28 (show decode cX7_copyFrom 60 = .ok (.putfield 28, 3) by decide +kernel) (fun z => nomatch z) s7 rfl rfl ?_
      have w := w _ rfl
      refine X_aload_n (j := 0) (show decode cX7_copyFrom 63 = .ok (.aload_n 0, 1) by decide +kernel) rfl rfl ?_
      refine X_aload_n (j := 1) (show decode cX7_copyFrom 64 = .ok (.aload_n 1, 1) by decide +kernel) rfl rfl ?_
      refine X_getI fl_X7_32 (show decode cX7_copyFrom 65 = .ok (.getfield 32, 3) by decide +kernel) s6 ?_
      refine X_putI fp_X7_32 (show decode cX7_copyFrom 68 = .ok (.putfield 32, 3) by decide +kernel) (fun z => nomatch z) s7 rfl rfl ?_
      have w := w _ rfl
      refine X_aload_n (j := 0) (show decode cX7_copyFrom 71 = .ok (.aload_n 0, 1) by decide +kernel) rfl rfl ?_
      refine X_aload_n (j := 1) (show decode cX7_copyFrom 72 = .ok (.aload_n 1, 1) by decide +kernel) rfl rfl ?_
      refine X_getI fl_X7_35 (show decode cX7_copyFrom 73 = .ok (.getfield 35, 3) by decide +kernel) s6 ?_
      refine X_putI fp_X7_35 (show decode cX7_copyFrom 76 = .ok (.putfield 35, 3) by decide +kernel) (fun z => nomatch z) s7 rfl rfl ?_
      have w := w _ rfl
      refine X_aload_n (j := 0) (show decode cX7_copyFrom 79 = .ok (.aload_n 0, 1) by decide +kernel) rfl rfl ?_
      refine X_aload_n (j := 1) (show decode cX7_copyFrom 80 = .ok (.aload_n 1, 1) by decide +kernel) rfl rfl ?_
      refine X_getI fl_X7_38 (show decode cX7_copyFrom 81 = .ok (.getfield 38, 3) by decide +kernel) s6 ?_
      refine X_putI fp_X7_38 (show decode cX7_copyFrom 84 = .ok (.putfield 38, 3) by decide +kernel) (fun z => nomatch z) s7 rfl rfl ?_
      have w := w _ rfl
      refine X_aload_n (j := 0) (show decode cX7_copyFrom 87 = .ok (.aload_n 0, 1) by decide +kernel) rfl rfl ?_
      refine X_aload_n (j := 1) (show decode cX7_copyFrom 88 = .ok (.aload_n 1, 1) by decide +kernel) rfl rfl ?_
      refine X_getI fl_X7_41 (show decode cX7_copyFrom 89 = .ok (.getfield 41, 3) by decide +kernel) s6 ?_
      refine X_putI fp_X7_41 (show decode cX7_copyFrom 92 = .ok (.putfield 41, 3) by decide +kernel) (fun z => nomatch z) s7 rfl rfl ?_
      have w := w _ rfl
      refine X_aload_n (j := 0) (show decode cX7_copyFrom 95 = .ok (.aload_n 0, 1) by decide +kernel) rfl rfl ?_
      refine X_aload_n (j := 1) (show decode cX7_copyFrom 96 = .ok (.aload_n 1, 1) by decide +kernel) rfl rfl ?_
      refine X_getL fl_X7_44 (show decode cX7_copyFrom 97 = .ok (.getfield 44, 3) by decide +kernel) s6 ?_
      refine X_putL fp_X7_44 (show decode cX7_copyFrom 100 = .ok (.putfield 44, 3) by decide +kernel) (fun z => nomatch z) s7 ?_
      have w := w _ rfl
      exact X_vret ⟨(show decode cX7_copyFrom 103 = .ok (.return_, 1) by decide +kernel), rfl⟩ ⟨rfl, w⟩
    · have w := w.2 c5
      refine X_aload_n (j := 0) (show decode cX7_copyFrom 19 = .ok (.aload_n 0, 1) by decide +kernel) rfl rfl ?_
      obtain ⟨s21, w⟩ := w
      refine X_getR fl_X7_20 (show decode cX7_copyFrom 20 = .ok (.getfield 20, 3) by decide +kernel) s21 ?_
      refine X_iload_n (j := 2) (show decode cX7_copyFrom 23 = .ok (.iload_n 2, 1) by decide +kernel) rfl rfl ?_
      obtain ⟨s22, w⟩ := w
      obtain ⟨s23, w⟩ := w
      refine X_aaldT (show decode cX7_copyFrom 24 = .ok (.aaload, 1) by decide +kernel) (isA_eq s22) s23 ?_
      refine X_aload_n (j := 1) (show decode cX7_copyFrom 25 = .ok (.aload_n 1, 1) by decide +kernel) rfl rfl ?_
      obtain ⟨s24, w⟩ := w
      refine X_getR fl_X7_20 (show decode cX7_copyFrom 26 = .ok (.getfield 20, 3) by decide +kernel) s24 ?_
      refine X_iload_n (j := 2) (show decode cX7_copyFrom 29 = .ok (.iload_n 2, 1) by decide +kernel) rfl rfl ?_
      obtain ⟨s25, w⟩ := w
      obtain ⟨s26, w⟩ := w
      refine X_aaldT (show decode cX7_copyFrom 30 = .ok (.aaload, 1) by decide +kernel) (isA_eq s25) s26 ?_
      obtain ⟨s29, w⟩ := w
      refine X_vV (rc' := 0) (rs' := 0) (as := [.ref _]) mv_X7_53 (show decode cX7_copyFrom 31 = .ok (.invokevirtual 53, 3) by decide +kernel) (by decide) (Nat.le_of_ble_eq_true rfl) (Nat.le_of_ble_eq_true rfl) rfl rfl (Nat.le_of_ble_eq_true rfl) (rcvD s29 (by decide) rfl) (kX8_copyFrom w) (fun E h hk => hk.elim) (fun h27 w => ?_)
      refine X_iinc (j := 2) (v := _ + 1) (ls' := [(0, .ref _), (1, .ref _), (2, .int _)]) (show decode cX7_copyFrom 34 = .ok (.iinc 2 1, 3) by decide +kernel) rfl rfl (Nat.le_of_ble_eq_true rfl) rfl ?_
      refine X_goto (tgt := 13) (show decode cX7_copyFrom 37 = .ok (.goto (-24), 3) by decide +kernel) (by decide) ?_
      exact ih _ _ _ _ w
set_option maxRecDepth 100000 in
set_option maxHeartbeats 4000000 in
theorem kX7_copyFrom {a0 : Nat} {a1 : Nat} {h : AH} {K : AH → Prop} (w : wX7_copyFrom a0 a1 h K) : Cn mX7_copyFrom (cwd mX7_copyFrom) 3 0 0 [.ref a0, .ref a1] h (KV K) T0 := by
  refine Cn_of (by decide +kernel) rfl (Nat.le_of_ble_eq_true rfl) ?_
  show X mX7_copyFrom 3 (KV K) T0 0 0 0 [(0, .ref a0), (1, .ref a1)] [] h
  unfold wX7_copyFrom at w
  refine X_aload_n (j := 0) (show decode cX7_copyFrom 0 = .ok (.aload_n 0, 1) by decide +kernel) rfl rfl ?_
  obtain ⟨s1, w⟩ := w
  refine X_getR fl_X7_12 (show decode cX7_copyFrom 1 = .ok (.getfield 12, 3) by decide +kernel) s1 ?_
  refine X_aload_n (j := 1) (show decode cX7_copyFrom 4 = .ok (.aload_n 1, 1) by decide +kernel) rfl rfl ?_
  obtain ⟨s2, w⟩ := w
  refine X_getR fl_X7_12 (show decode cX7_copyFrom 5 = .ok (.getfield 12, 3) by decide +kernel) s2 ?_
  obtain ⟨s31, w⟩ := w
  refine X_vV (rc' := 0) (rs' := 0) (as := [.ref _]) mv_X7_49 (show decode cX7_copyFrom 8 = .ok (.invokevirtual 49, 3) by decide +kernel) (by decide) (Nat.le_of_ble_eq_true rfl) (Nat.le_of_ble_eq_true rfl) rfl rfl (Nat.le_of_ble_eq_true rfl) (rcvD s31 (by decide) rfl) (kX4_copyFrom w) (fun E h hk => hk.elim) (fun h3 w => ?_)
  refine X_iconst (v := 0) (show decode cX7_copyFrom 11 = .ok (.iconst 0, 1) by decide +kernel) (by decide) ?_
  refine X_istore_n (ls' := [(0, .ref _), (1, .ref _), (2, .int _)]) (show decode cX7_copyFrom 12 = .ok (.istore_n 2, 1) by decide +kernel) rfl (by decide) rfl ?_
  obtain ⟨n30, w⟩ := w
  exact kX7_copyFrom_L13  n30 _ _ w
set_option maxRecDepth 100000 in
set_option maxHeartbeats 4000000 in
theorem kX2_keep {a0 : Nat} {a1 : Nat} {h : AH} {K : AH → Prop} (w : wX2_keep a0 a1 h K) : Cn mX2_keep (cwd mX2_keep) 4 0 0 [.ref a0, .ref a1] h (KV K) T0 := by
  refine Cn_of (by decide +kernel) rfl (Nat.le_of_ble_eq_true rfl) ?_
  show X mX2_keep 4 (KV K) T0 0 0 0 [(0, .ref a0), (1, .ref a1)] [] h
  unfold wX2_keep at w
  refine X_aload_n (j := 0) (show decode cX2_keep 0 = .ok (.aload_n 0, 1) by decide +kernel) rfl rfl ?_
  obtain ⟨s1, w⟩ := w
  refine X_getR fl_X2_13 (show decode cX2_keep 1 = .ok (.getfield 13, 3) by decide +kernel) s1 ?_
  refine X_aload_n (j := 0) (show decode cX2_keep 4 = .ok (.aload_n 0, 1) by decide +kernel) rfl rfl ?_
  refine X_getI fl_X2_17 (show decode cX2_keep 5 = .ok (.getfield 17, 3) by decide +kernel) s1 ?_
  obtain ⟨s2, w⟩ := w
  obtain ⟨s3, w⟩ := w
  refine X_aaldS (show decode cX2_keep 8 = .ok (.aaload, 1) by decide +kernel) (isA_eq s2) s3 ?_
  refine X_aload_n (j := 1) (show decode cX2_keep 9 = .ok (.aload_n 1, 1) by decide +kernel) rfl rfl ?_
  obtain ⟨s6, w⟩ := w
  refine X_vV (rc' := 0) (rs' := 0) (as := [.ref _]) mv_X2_25 (show decode cX2_keep 10 = .ok (.invokevirtual 25, 3) by decide +kernel) (by decide) (Nat.le_of_ble_eq_true rfl) (Nat.le_of_ble_eq_true rfl) rfl rfl (Nat.le_of_ble_eq_true rfl) (rcvD s6 (by decide) rfl) (kX7_copyFrom w) (fun E h hk => hk.elim) (fun h4 w => ?_)
  exact X_vret ⟨(show decode cX2_keep 13 = .ok (.return_, 1) by decide +kernel), rfl⟩ ⟨rfl, w⟩
set_option maxRecDepth 100000 in
set_option maxHeartbeats 4000000 in
theorem kJ7_fill_53178_L5 {K : AH → Prop}   {x0 : Nat} {x1 : Int32} {x3 : Int32} : ∀ (n : Nat) (x2 : Int32) (h : AH), wJ7_fill_53178_L5 K  x0 x1 x3 n x2 h → X mJ7_fill_53178 1 (KV K) T0 0 0 5 [(0, .ref x0), (1, .int x1), (2, .int x2), (3, .int x3)] [] h := by
  intro n
  induction n with
  | zero => intro _ _ w; exact w.elim
  | succ n ih =>
    intro x2 h w
    rw [wJ7_fill_53178_L5] at w
    refine X_iload_n (j := 2) (show decode cJ7_fill_53178 5 = .ok (.iload_n 2, 1) by decide +kernel) rfl rfl ?_
    refine X_iload_n (j := 3) (show decode cJ7_fill_53178 6 = .ok (.iload_n 3, 1) by decide +kernel) rfl rfl ?_
    refine X_icmp_ge (tgt := 20) (show decode cJ7_fill_53178 7 = .ok (.if_icmp .ge 13, 3) by decide +kernel) (by decide) ⟨fun c2 => ?_, fun c2 => ?_⟩
    · have w := w.1 c2
      exact X_vret ⟨(show decode cJ7_fill_53178 20 = .ok (.return_, 1) by decide +kernel), rfl⟩ ⟨rfl, w⟩
    · have w := w.2 c2
      refine X_aload_n (j := 0) (show decode cJ7_fill_53178 10 = .ok (.aload_n 0, 1) by decide +kernel) rfl rfl ?_
      refine X_iload_n (j := 2) (show decode cJ7_fill_53178 11 = .ok (.iload_n 2, 1) by decide +kernel) rfl rfl ?_
      refine X_iload_n (j := 1) (show decode cJ7_fill_53178 12 = .ok (.iload_n 1, 1) by decide +kernel) rfl rfl ?_
      obtain ⟨s3, w⟩ := w
      obtain ⟨s4, w⟩ := w
      obtain ⟨s5, w⟩ := w
      refine X_iast (show decode cJ7_fill_53178 13 = .ok (.iastore, 1) by decide +kernel) (isA_eq s3) s4 s5 ?_
      have w := w _ rfl
      refine X_iinc (j := 2) (v := _ + 1) (ls' := [(0, .ref _), (1, .int _), (2, .int _), (3, .int _)]) (show decode cJ7_fill_53178 14 = .ok (.iinc 2 1, 3) by decide +kernel) rfl rfl (Nat.le_of_ble_eq_true rfl) rfl ?_
      refine X_goto (tgt := 5) (show decode cJ7_fill_53178 17 = .ok (.goto (-12), 3) by decide +kernel) (by decide) ?_
      exact ih _ _ _ _ _ w
set_option maxRecDepth 100000 in
set_option maxHeartbeats 4000000 in
theorem kJ7_fill_53178 {a0 : Nat} {a1 : Int32} {h : AH} {K : AH → Prop} (w : wJ7_fill_53178 a0 a1 h K) : Cn mJ7_fill_53178 (cwd mJ7_fill_53178) 1 0 0 [.ref a0, .int a1] h (KV K) T0 := by
  refine Cn_of (by decide +kernel) rfl (Nat.le_of_ble_eq_true rfl) ?_
  show X mJ7_fill_53178 1 (KV K) T0 0 0 0 [(0, .ref a0), (1, .int a1), (2, .int 0), (3, .int (nI (ln h a0)))] [] h
  unfold wJ7_fill_53178 at w
  refine X_iconst (v := 0) (show decode cJ7_fill_53178 0 = .ok (.iconst 0, 1) by decide +kernel) (by decide) ?_
  refine X_istore_n (ls' := [(0, .ref _), (1, .int _), (2, .int _)]) (show decode cJ7_fill_53178 1 = .ok (.istore_n 2, 1) by decide +kernel) rfl (by decide) rfl ?_
  refine X_aload_n (j := 0) (show decode cJ7_fill_53178 2 = .ok (.aload_n 0, 1) by decide +kernel) rfl rfl ?_
  obtain ⟨s1, w⟩ := w
  refine X_alen (v := nI (ln _ _)) (show decode cJ7_fill_53178 3 = .ok (.arraylength, 1) by decide +kernel) (by decide) (isA_eq s1) rfl ?_
  refine X_istore_n (ls' := [(0, .ref _), (1, .int _), (2, .int _), (3, .int _)]) (show decode cJ7_fill_53178 4 = .ok (.istore_n 3, 1) by decide +kernel) rfl (by decide) rfl ?_
  obtain ⟨n7, w⟩ := w
  exact kJ7_fill_53178_L5  n7 _ _ w
set_option maxRecDepth 100000 in
set_option maxHeartbeats 4000000 in
theorem kX9_contains {a0 : Int32} {a1 : Int32} {h : AH} {K : Int32 → AH → Prop} (w : wX9_contains a0 a1 h K) : Cn mX9_contains (cwd mX9_contains) 1 0 0 [.int a0, .int a1] h (KI K) T0 := by
  refine Cn_of (by decide +kernel) rfl (Nat.le_of_ble_eq_true rfl) ?_
  show X mX9_contains 1 (KI K) T0 0 0 0 [(0, .int a0), (1, .int a1)] [] h
  unfold wX9_contains at w
  refine X_iload_n (j := 1) (show decode cX9_contains 0 = .ok (.iload_n 1, 1) by decide +kernel) rfl rfl ?_
  refine X_if_lt (tgt := 16) (show decode cX9_contains 1 = .ok (.ifCond .lt 15, 3) by decide +kernel) (by decide) ⟨fun c1 => ?_, fun c1 => ?_⟩
  · have w := w.1 c1
    refine X_iconst (v := 0) (show decode cX9_contains 16 = .ok (.iconst 0, 1) by decide +kernel) (by decide) ?_
    exact X_iret ⟨(show decode cX9_contains 17 = .ok (.ireturn, 1) by decide +kernel), .boolean, rfl, (by decide)⟩ ⟨_, rfl, w⟩
  · have w := w.2 c1
    refine X_iload_n (j := 0) (show decode cX9_contains 4 = .ok (.iload_n 0, 1) by decide +kernel) rfl rfl ?_
    refine X_iconst (v := 1) (show decode cX9_contains 5 = .ok (.iconst 1, 1) by decide +kernel) (by decide) ?_
    refine X_iload_n (j := 1) (show decode cX9_contains 6 = .ok (.iload_n 1, 1) by decide +kernel) rfl rfl ?_
    refine X_ishl (show decode cX9_contains 7 = .ok (.ishl, 1) by decide +kernel) ?_
    refine X_iand (show decode cX9_contains 8 = .ok (.iand, 1) by decide +kernel) ?_
    refine X_if_eq (tgt := 16) (show decode cX9_contains 9 = .ok (.ifCond .eq 7, 3) by decide +kernel) (by decide) ⟨fun c2 => ?_, fun c2 => ?_⟩
    · have w := w.1 c2
      refine X_iconst (v := 0) (show decode cX9_contains 16 = .ok (.iconst 0, 1) by decide +kernel) (by decide) ?_
      exact X_iret ⟨(show decode cX9_contains 17 = .ok (.ireturn, 1) by decide +kernel), .boolean, rfl, (by decide)⟩ ⟨_, rfl, w⟩
    · have w := w.2 c2
      refine X_iconst (v := 1) (show decode cX9_contains 12 = .ok (.iconst 1, 1) by decide +kernel) (by decide) ?_
      refine X_goto (tgt := 17) (show decode cX9_contains 13 = .ok (.goto 4, 3) by decide +kernel) (by decide) ?_
      exact X_iret ⟨(show decode cX9_contains 17 = .ok (.ireturn, 1) by decide +kernel), .boolean, rfl, (by decide)⟩ ⟨_, rfl, w⟩
set_option maxRecDepth 100000 in
set_option maxHeartbeats 4000000 in
theorem kX4_nearestBlock_L8 {K : Int32 → AH → Prop}   {x0 : Nat} {x1 : Int32} : ∀ (n : Nat) (x2 : Int32) (x3 : Int32) (x4 : Int32) (h : AH), wX4_nearestBlock_L8 K  x0 x1 n x2 x3 x4 h → X mX4_nearestBlock 2 (KI K) T0 0 0 8 [(0, .ref x0), (1, .int x1), (2, .int x2), (3, .int x3), (4, .int x4)] [] h := by
  intro n
  induction n with
  | zero => intro _ _ _ _ w; exact w.elim
  | succ n ih =>
    intro x2 x3 x4 h w
    rw [wX4_nearestBlock_L8] at w
    refine X_iload (j := 4) (show decode cX4_nearestBlock 8 = .ok (.iload 4, 2) by decide +kernel) rfl ?_
    refine X_aload_n (j := 0) (show decode cX4_nearestBlock 10 = .ok (.aload_n 0, 1) by decide +kernel) rfl rfl ?_
    obtain ⟨s1, w⟩ := w
    refine X_getI fl_X4_9 (show decode cX4_nearestBlock 11 = .ok (.getfield 9, 3) by decide +kernel) s1 ?_
    refine X_icmp_ge (tgt := 54) (show decode cX4_nearestBlock 14 = .ok (.if_icmp .ge 40, 3) by decide +kernel) (by decide) ⟨fun c2 => ?_, fun c2 => ?_⟩
    · have w := w.1 c2
      refine X_iload_n (j := 2) (show decode cX4_nearestBlock 54 = .ok (.iload_n 2, 1) by decide +kernel) rfl rfl ?_
      exact X_iret ⟨(show decode cX4_nearestBlock 55 = .ok (.ireturn, 1) by decide +kernel), .int, rfl, rfl⟩ ⟨_, rfl, w⟩
    · have w := w.2 c2
      refine X_iload_n (j := 1) (show decode cX4_nearestBlock 17 = .ok (.iload_n 1, 1) by decide +kernel) rfl rfl ?_
      refine X_iload (j := 4) (show decode cX4_nearestBlock 18 = .ok (.iload 4, 2) by decide +kernel) rfl ?_
      refine X_nI (rc' := 0) (rs' := 0) (as := [.int _, .int _]) msn_X4_68 (show decode cX4_nearestBlock 20 = .ok (.invokestatic 68, 3) by decide +kernel) (by decide) (Nat.le_of_ble_eq_true rfl) (Nat.le_of_ble_eq_true rfl) rfl rfl (Nat.le_of_ble_eq_true rfl) (kX9_contains w) (fun r4 h3 w => ?_)
      refine X_if_ne (tgt := 48) (show decode cX4_nearestBlock 23 = .ok (.ifCond .ne 25, 3) by decide +kernel) (by decide) ⟨fun c5 => ?_, fun c5 => ?_⟩
      · have w := w.1 c5
        refine X_iinc (j := 4) (v := _ + 1) (ls' := [(0, .ref _), (1, .int _), (2, .int _), (3, .int _), (4, .int _)]) (show decode cX4_nearestBlock 48 = .ok (.iinc 4 1, 3) by decide +kernel) rfl rfl (Nat.le_of_ble_eq_true rfl) rfl ?_
        refine X_goto (tgt := 8) (show decode cX4_nearestBlock 51 = .ok (.goto (-43), 3) by decide +kernel) (by decide) ?_
        exact ih _ _ _ _ _ _ w
      · have w := w.2 c5
        refine X_aload_n (j := 0) (show decode cX4_nearestBlock 26 = .ok (.aload_n 0, 1) by decide +kernel) rfl rfl ?_
        obtain ⟨s6, w⟩ := w
        refine X_getR fl_X4_48 (show decode cX4_nearestBlock 27 = .ok (.getfield 48, 3) by decide +kernel) s6 ?_
        refine X_iload (j := 4) (show decode cX4_nearestBlock 30 = .ok (.iload 4, 2) by decide +kernel) rfl ?_
        obtain ⟨s7, w⟩ := w
        obtain ⟨s8, w⟩ := w
        refine X_iald (show decode cX4_nearestBlock 32 = .ok (.iaload, 1) by decide +kernel) (isA_eq s7) s8 ?_
        refine X_iload_n (j := 3) (show decode cX4_nearestBlock 33 = .ok (.iload_n 3, 1) by decide +kernel) rfl rfl ?_
        refine X_icmp_ge (tgt := 48) (show decode cX4_nearestBlock 34 = .ok (.if_icmp .ge 14, 3) by decide +kernel) (by decide) ⟨fun c9 => ?_, fun c9 => ?_⟩
        · have w := w.1 c9
          refine X_iinc (j := 4) (v := _ + 1) (ls' := [(0, .ref _), (1, .int _), (2, .int _), (3, .int _), (4, .int _)]) (show decode cX4_nearestBlock 48 = .ok (.iinc 4 1, 3) by decide +kernel) rfl rfl (Nat.le_of_ble_eq_true rfl) rfl ?_
          refine X_goto (tgt := 8) (show decode cX4_nearestBlock 51 = .ok (.goto (-43), 3) by decide +kernel) (by decide) ?_
          exact ih _ _ _ _ _ _ w
        · have w := w.2 c9
          refine X_iload (j := 4) (show decode cX4_nearestBlock 37 = .ok (.iload 4, 2) by decide +kernel) rfl ?_
          refine X_istore_n (ls' := [(0, .ref _), (1, .int _), (2, .int _), (3, .int _), (4, .int _)]) (show decode cX4_nearestBlock 39 = .ok (.istore_n 2, 1) by decide +kernel) rfl (by decide) rfl ?_
          refine X_aload_n (j := 0) (show decode cX4_nearestBlock 40 = .ok (.aload_n 0, 1) by decide +kernel) rfl rfl ?_
          refine X_getR fl_X4_48 (show decode cX4_nearestBlock 41 = .ok (.getfield 48, 3) by decide +kernel) s6 ?_
          refine X_iload (j := 4) (show decode cX4_nearestBlock 44 = .ok (.iload 4, 2) by decide +kernel) rfl ?_
          refine X_iald (show decode cX4_nearestBlock 46 = .ok (.iaload, 1) by decide +kernel) (isA_eq s7) s8 ?_
          refine X_istore_n (ls' := [(0, .ref _), (1, .int _), (2, .int _), (3, .int _), (4, .int _)]) (show decode cX4_nearestBlock 47 = .ok (.istore_n 3, 1) by decide +kernel) rfl (by decide) rfl ?_
          refine X_iinc (j := 4) (v := _ + 1) (ls' := [(0, .ref _), (1, .int _), (2, .int _), (3, .int _), (4, .int _)]) (show decode cX4_nearestBlock 48 = .ok (.iinc 4 1, 3) by decide +kernel) rfl rfl (Nat.le_of_ble_eq_true rfl) rfl ?_
          refine X_goto (tgt := 8) (show decode cX4_nearestBlock 51 = .ok (.goto (-43), 3) by decide +kernel) (by decide) ?_
          exact ih _ _ _ _ _ _ w
set_option maxRecDepth 100000 in
set_option maxHeartbeats 4000000 in
theorem kX4_nearestBlock {a0 : Nat} {a1 : Int32} {h : AH} {K : Int32 → AH → Prop} (w : wX4_nearestBlock a0 a1 h K) : Cn mX4_nearestBlock (cwd mX4_nearestBlock) 2 0 0 [.ref a0, .int a1] h (KI K) T0 := by
  refine Cn_of (by decide +kernel) rfl (Nat.le_of_ble_eq_true rfl) ?_
  show X mX4_nearestBlock 2 (KI K) T0 0 0 0 [(0, .ref a0), (1, .int a1), (2, .int (-1)), (3, .int 1000000), (4, .int 0)] [] h
  unfold wX4_nearestBlock at w
  refine X_iconst (v := (-1)) (show decode cX4_nearestBlock 0 = .ok (.iconst (-1), 1) by decide +kernel) (by decide) ?_
  refine X_istore_n (ls' := [(0, .ref _), (1, .int _), (2, .int _)]) (show decode cX4_nearestBlock 1 = .ok (.istore_n 2, 1) by decide +kernel) rfl (by decide) rfl ?_
  refine X_ldc (v := 1000000) (show decode cX4_nearestBlock 2 = .ok (.ldc 88, 2) by decide +kernel) gc_X4_88 ?_
  refine X_istore_n (ls' := [(0, .ref _), (1, .int _), (2, .int _), (3, .int _)]) (show decode cX4_nearestBlock 4 = .ok (.istore_n 3, 1) by decide +kernel) rfl (by decide) rfl ?_
  refine X_iconst (v := 0) (show decode cX4_nearestBlock 5 = .ok (.iconst 0, 1) by decide +kernel) (by decide) ?_
  refine X_istore (ls' := [(0, .ref _), (1, .int _), (2, .int _), (3, .int _), (4, .int _)]) (show decode cX4_nearestBlock 6 = .ok (.istore 4, 2) by decide +kernel) (by decide) rfl ?_
  obtain ⟨n10, w⟩ := w
  exact kX4_nearestBlock_L8  n10 _ _ _ _ w
set_option maxRecDepth 100000 in
set_option maxHeartbeats 4000000 in
theorem kX4_has {a0 : Nat} {a1 : Int32} {h : AH} {K : Int32 → AH → Prop} (w : wX4_has a0 a1 h K) : Cn mX4_has (cwd mX4_has) 1 0 0 [.ref a0, .int a1] h (KI K) T0 := by
  refine Cn_of (by decide +kernel) rfl (Nat.le_of_ble_eq_true rfl) ?_
  show X mX4_has 1 (KI K) T0 0 0 0 [(0, .ref a0), (1, .int a1)] [] h
  unfold wX4_has at w
  refine X_iload_n (j := 1) (show decode cX4_has 0 = .ok (.iload_n 1, 1) by decide +kernel) rfl rfl ?_
  refine X_if_lt (tgt := 16) (show decode cX4_has 1 = .ok (.ifCond .lt 15, 3) by decide +kernel) (by decide) ⟨fun c1 => ?_, fun c1 => ?_⟩
  · have w := w.1 c1
    refine X_iconst (v := 0) (show decode cX4_has 16 = .ok (.iconst 0, 1) by decide +kernel) (by decide) ?_
    exact X_iret ⟨(show decode cX4_has 17 = .ok (.ireturn, 1) by decide +kernel), .boolean, rfl, (by decide)⟩ ⟨_, rfl, w⟩
  · have w := w.2 c1
    refine X_iload_n (j := 1) (show decode cX4_has 4 = .ok (.iload_n 1, 1) by decide +kernel) rfl rfl ?_
    refine X_aload_n (j := 0) (show decode cX4_has 5 = .ok (.aload_n 0, 1) by decide +kernel) rfl rfl ?_
    obtain ⟨s2, w⟩ := w
    refine X_getI fl_X4_9 (show decode cX4_has 6 = .ok (.getfield 9, 3) by decide +kernel) s2 ?_
    refine X_icmp_ge (tgt := 16) (show decode cX4_has 9 = .ok (.if_icmp .ge 7, 3) by decide +kernel) (by decide) ⟨fun c3 => ?_, fun c3 => ?_⟩
    · have w := w.1 c3
      refine X_iconst (v := 0) (show decode cX4_has 16 = .ok (.iconst 0, 1) by decide +kernel) (by decide) ?_
      exact X_iret ⟨(show decode cX4_has 17 = .ok (.ireturn, 1) by decide +kernel), .boolean, rfl, (by decide)⟩ ⟨_, rfl, w⟩
    · have w := w.2 c3
      refine X_iconst (v := 1) (show decode cX4_has 12 = .ok (.iconst 1, 1) by decide +kernel) (by decide) ?_
      refine X_goto (tgt := 17) (show decode cX4_has 13 = .ok (.goto 4, 3) by decide +kernel) (by decide) ?_
      exact X_iret ⟨(show decode cX4_has 17 = .ok (.ireturn, 1) by decide +kernel), .boolean, rfl, (by decide)⟩ ⟨_, rfl, w⟩
set_option maxRecDepth 100000 in
set_option maxHeartbeats 4000000 in
theorem kX4_leadsTo {a0 : Nat} {a1 : Int32} {a2 : Int32} {h : AH} {K : Int32 → AH → Prop} (w : wX4_leadsTo a0 a1 a2 h K) : Cn mX4_leadsTo (cwd mX4_leadsTo) 2 0 0 [.ref a0, .int a1, .int a2] h (KI K) T0 := by
  refine Cn_of (by decide +kernel) rfl (Nat.le_of_ble_eq_true rfl) ?_
  show X mX4_leadsTo 2 (KI K) T0 0 0 0 [(0, .ref a0), (1, .int a1), (2, .int a2)] [] h
  unfold wX4_leadsTo at w
  refine X_aload_n (j := 0) (show decode cX4_leadsTo 0 = .ok (.aload_n 0, 1) by decide +kernel) rfl rfl ?_
  refine X_iload_n (j := 1) (show decode cX4_leadsTo 1 = .ok (.iload_n 1, 1) by decide +kernel) rfl rfl ?_
  obtain ⟨s11, w⟩ := w
  refine X_vI (rc' := 0) (rs' := 0) (as := [.int _]) mv_X4_57 (show decode cX4_leadsTo 2 = .ok (.invokevirtual 57, 3) by decide +kernel) (by decide) (Nat.le_of_ble_eq_true rfl) (Nat.le_of_ble_eq_true rfl) rfl rfl (Nat.le_of_ble_eq_true rfl) (rcvD s11 (by decide) rfl) (kX4_has w) (fun E h hk => hk.elim) (fun r2 h1 w => ?_)
  refine X_if_eq (tgt := 32) (show decode cX4_leadsTo 5 = .ok (.ifCond .eq 27, 3) by decide +kernel) (by decide) ⟨fun c3 => ?_, fun c3 => ?_⟩
  · have w := w.1 c3
    refine X_iconst (v := 0) (show decode cX4_leadsTo 32 = .ok (.iconst 0, 1) by decide +kernel) (by decide) ?_
    exact X_iret ⟨(show decode cX4_leadsTo 33 = .ok (.ireturn, 1) by decide +kernel), .boolean, rfl, (by decide)⟩ ⟨_, rfl, w⟩
  · have w := w.2 c3
    refine X_aload_n (j := 0) (show decode cX4_leadsTo 8 = .ok (.aload_n 0, 1) by decide +kernel) rfl rfl ?_
    obtain ⟨s4, w⟩ := w
    refine X_getR fl_X4_31 (show decode cX4_leadsTo 9 = .ok (.getfield 31, 3) by decide +kernel) s4 ?_
    refine X_iload_n (j := 1) (show decode cX4_leadsTo 12 = .ok (.iload_n 1, 1) by decide +kernel) rfl rfl ?_
    obtain ⟨s5, w⟩ := w
    obtain ⟨s6, w⟩ := w
    refine X_iald (show decode cX4_leadsTo 13 = .ok (.iaload, 1) by decide +kernel) (isA_eq s5) s6 ?_
    refine X_iload_n (j := 2) (show decode cX4_leadsTo 14 = .ok (.iload_n 2, 1) by decide +kernel) rfl rfl ?_
    refine X_icmp_eq (tgt := 28) (show decode cX4_leadsTo 15 = .ok (.if_icmp .eq 13, 3) by decide +kernel) (by decide) ⟨fun c7 => ?_, fun c7 => ?_⟩
    · have w := w.1 c7
      refine X_iconst (v := 1) (show decode cX4_leadsTo 28 = .ok (.iconst 1, 1) by decide +kernel) (by decide) ?_
      refine X_goto (tgt := 33) (show decode cX4_leadsTo 29 = .ok (.goto 4, 3) by decide +kernel) (by decide) ?_
      exact X_iret ⟨(show decode cX4_leadsTo 33 = .ok (.ireturn, 1) by decide +kernel), .boolean, rfl, (by decide)⟩ ⟨_, rfl, w⟩
    · have w := w.2 c7
      refine X_aload_n (j := 0) (show decode cX4_leadsTo 18 = .ok (.aload_n 0, 1) by decide +kernel) rfl rfl ?_
      refine X_getR fl_X4_34 (show decode cX4_leadsTo 19 = .ok (.getfield 34, 3) by decide +kernel) s4 ?_
      refine X_iload_n (j := 1) (show decode cX4_leadsTo 22 = .ok (.iload_n 1, 1) by decide +kernel) rfl rfl ?_
      obtain ⟨s8, w⟩ := w
      obtain ⟨s9, w⟩ := w
      refine X_iald (show decode cX4_leadsTo 23 = .ok (.iaload, 1) by decide +kernel) (isA_eq s8) s9 ?_
      refine X_iload_n (j := 2) (show decode cX4_leadsTo 24 = .ok (.iload_n 2, 1) by decide +kernel) rfl rfl ?_
      refine X_icmp_ne (tgt := 32) (show decode cX4_leadsTo 25 = .ok (.if_icmp .ne 7, 3) by decide +kernel) (by decide) ⟨fun c10 => ?_, fun c10 => ?_⟩
      · have w := w.1 c10
        refine X_iconst (v := 0) (show decode cX4_leadsTo 32 = .ok (.iconst 0, 1) by decide +kernel) (by decide) ?_
        exact X_iret ⟨(show decode cX4_leadsTo 33 = .ok (.ireturn, 1) by decide +kernel), .boolean, rfl, (by decide)⟩ ⟨_, rfl, w⟩
      · have w := w.2 c10
        refine X_iconst (v := 1) (show decode cX4_leadsTo 28 = .ok (.iconst 1, 1) by decide +kernel) (by decide) ?_
        refine X_goto (tgt := 33) (show decode cX4_leadsTo 29 = .ok (.goto 4, 3) by decide +kernel) (by decide) ?_
        exact X_iret ⟨(show decode cX4_leadsTo 33 = .ok (.ireturn, 1) by decide +kernel), .boolean, rfl, (by decide)⟩ ⟨_, rfl, w⟩
set_option maxRecDepth 100000 in
set_option maxHeartbeats 4000000 in
theorem kX4_learnRoutesTo_J176 {K : AH → Prop} {c129 : Nat → Nat → Nat → Int32 → Int32 → Int32 → Int32 → Int32 → AH → Prop} (hc129 : ∀ x0 x2 x3 x4 x5 x6 x8 x9 h, c129 x0 x2 x3 x4 x5 x6 x8 x9 h → X mX4_learnRoutesTo 3 (KV K) T0 0 0 129 [(0, .ref x0), (2, .ref x2), (3, .ref x3), (4, .int x4), (5, .int x5), (6, .int x6), (8, .int x8), (9, .int x9)] [] h) (x0 : Nat) (x2 : Nat) (x3 : Nat) (x4 : Int32) (x5 : Int32) (x6 : Int32) (x8 : Int32) (x9 : Int32) (y0 : Int32) (h : AH) (w : wX4_learnRoutesTo_J176 K c129 x0 x2 x3 x4 x5 x6 x8 x9 y0 h) : X mX4_learnRoutesTo 3 (KV K) T0 0 0 176 [(0, .ref x0), (2, .ref x2), (3, .ref x3), (4, .int x4), (5, .int x5), (6, .int x6), (8, .int x8), (9, .int x9)] [.int y0] h := by
  unfold wX4_learnRoutesTo_J176 at w
  refine X_istore (ls' := [(0, .ref _), (2, .ref _), (3, .ref _), (4, .int _), (5, .int _), (6, .int _), (8, .int _), (9, .int _), (10, .int _)]) (show decode cX4_learnRoutesTo 176 = .ok (.istore 10, 2) by decide +kernel) (by decide) rfl ?_
  refine X_iload (j := 8) (show decode cX4_learnRoutesTo 178 = .ok (.iload 10, 2) by decide +kernel) rfl ?_
  refine X_if_eq (tgt := 209) (show decode cX4_learnRoutesTo 180 = .ok (.ifCond .eq 29, 3) by decide +kernel) (by decide) ⟨fun c40 => ?_, fun c40 => ?_⟩
  · have w := w.1 c40
    refine X_iinc (j := 7) (v := _ + 1) (ls' := [(0, .ref _), (2, .ref _), (3, .ref _), (4, .int _), (5, .int _), (6, .int _), (8, .int _), (9, .int _), (10, .int _)]) (show decode cX4_learnRoutesTo 209 = .ok (.iinc 9 1, 3) by decide +kernel) rfl rfl (Nat.le_of_ble_eq_true rfl) rfl ?_
    refine X_goto (tgt := 129) (show decode cX4_learnRoutesTo 212 = .ok (.goto (-83), 3) by decide +kernel) (by decide) ?_
    refine X_pick (ls' := [(0, .ref _), (2, .ref _), (3, .ref _), (4, .int _), (5, .int _), (6, .int _), (8, .int _), (9, .int _)]) [0, 1, 2, 3, 4, 5, 6, 7] rfl ?_
    exact hc129 _ _ _ _ _ _ _ _ _ w
  · have w := w.2 c40
    refine X_aload_n (j := 0) (show decode cX4_learnRoutesTo 183 = .ok (.aload_n 0, 1) by decide +kernel) rfl rfl ?_
    refine X_iload (j := 7) (show decode cX4_learnRoutesTo 184 = .ok (.iload 9, 2) by decide +kernel) rfl ?_
    refine X_iload (j := 5) (show decode cX4_learnRoutesTo 186 = .ok (.iload 6, 2) by decide +kernel) rfl ?_
    obtain ⟨s53, w⟩ := w
    refine X_vI (rc' := 0) (rs' := 0) (as := [.int _, .int _]) mv_X4_92 (show decode cX4_learnRoutesTo 188 = .ok (.invokevirtual 92, 3) by decide +kernel) (by decide) (Nat.le_of_ble_eq_true rfl) (Nat.le_of_ble_eq_true rfl) rfl rfl (Nat.le_of_ble_eq_true rfl) (rcvD s53 (by decide) rfl) (kX4_leadsTo w) (fun E h hk => hk.elim) (fun r42 h41 w => ?_)
    refine X_if_eq (tgt := 209) (show decode cX4_learnRoutesTo 191 = .ok (.ifCond .eq 18, 3) by decide +kernel) (by decide) ⟨fun c43 => ?_, fun c43 => ?_⟩
    · have w := w.1 c43
      refine X_iinc (j := 7) (v := _ + 1) (ls' := [(0, .ref _), (2, .ref _), (3, .ref _), (4, .int _), (5, .int _), (6, .int _), (8, .int _), (9, .int _), (10, .int _)]) (show decode cX4_learnRoutesTo 209 = .ok (.iinc 9 1, 3) by decide +kernel) rfl rfl (Nat.le_of_ble_eq_true rfl) rfl ?_
      refine X_goto (tgt := 129) (show decode cX4_learnRoutesTo 212 = .ok (.goto (-83), 3) by decide +kernel) (by decide) ?_
      refine X_pick (ls' := [(0, .ref _), (2, .ref _), (3, .ref _), (4, .int _), (5, .int _), (6, .int _), (8, .int _), (9, .int _)]) [0, 1, 2, 3, 4, 5, 6, 7] rfl ?_
      exact hc129 _ _ _ _ _ _ _ _ _ w
    · have w := w.2 c43
      refine X_aload_n (j := 0) (show decode cX4_learnRoutesTo 194 = .ok (.aload_n 0, 1) by decide +kernel) rfl rfl ?_
      obtain ⟨s44, w⟩ := w
      refine X_getR fl_X4_48 (show decode cX4_learnRoutesTo 195 = .ok (.getfield 48, 3) by decide +kernel) s44 ?_
      refine X_iload (j := 7) (show decode cX4_learnRoutesTo 198 = .ok (.iload 9, 2) by decide +kernel) rfl ?_
      refine X_iload (j := 6) (show decode cX4_learnRoutesTo 200 = .ok (.iload 8, 2) by decide +kernel) rfl ?_
      obtain ⟨s45, w⟩ := w
      obtain ⟨s46, w⟩ := w
      obtain ⟨s47, w⟩ := w
      refine X_iast (show decode cX4_learnRoutesTo 202 = .ok (.iastore, 1) by decide +kernel) (isA_eq s45) s46 s47 ?_
      have w := w _ rfl
      refine X_aload_n (j := 1) (show decode cX4_learnRoutesTo 203 = .ok (.aload_n 2, 1) by decide +kernel) rfl rfl ?_
      refine X_iload (j := 7) (show decode cX4_learnRoutesTo 204 = .ok (.iload 9, 2) by decide +kernel) rfl ?_
      refine X_iload (j := 5) (show decode cX4_learnRoutesTo 206 = .ok (.iload 6, 2) by decide +kernel) rfl ?_
      obtain ⟨s49, w⟩ := w
      obtain ⟨s50, w⟩ := w
      obtain ⟨s51, w⟩ := w
      refine X_iast (show decode cX4_learnRoutesTo 208 = .ok (.iastore, 1) by decide +kernel) (isA_eq s49) s50 s51 ?_
      have w := w _ rfl
      refine X_iinc (j := 7) (v := _ + 1) (ls' := [(0, .ref _), (2, .ref _), (3, .ref _), (4, .int _), (5, .int _), (6, .int _), (8, .int _), (9, .int _), (10, .int _)]) (show decode cX4_learnRoutesTo 209 = .ok (.iinc 9 1, 3) by decide +kernel) rfl rfl (Nat.le_of_ble_eq_true rfl) rfl ?_
      refine X_goto (tgt := 129) (show decode cX4_learnRoutesTo 212 = .ok (.goto (-83), 3) by decide +kernel) (by decide) ?_
      refine X_pick (ls' := [(0, .ref _), (2, .ref _), (3, .ref _), (4, .int _), (5, .int _), (6, .int _), (8, .int _), (9, .int _)]) [0, 1, 2, 3, 4, 5, 6, 7] rfl ?_
      exact hc129 _ _ _ _ _ _ _ _ _ w
set_option maxRecDepth 100000 in
set_option maxHeartbeats 4000000 in
theorem kX4_learnRoutesTo_J171 {K : AH → Prop} {c129 : Nat → Nat → Nat → Int32 → Int32 → Int32 → Int32 → Int32 → AH → Prop} (hc129 : ∀ x0 x2 x3 x4 x5 x6 x8 x9 h, c129 x0 x2 x3 x4 x5 x6 x8 x9 h → X mX4_learnRoutesTo 3 (KV K) T0 0 0 129 [(0, .ref x0), (2, .ref x2), (3, .ref x3), (4, .int x4), (5, .int x5), (6, .int x6), (8, .int x8), (9, .int x9)] [] h) (x0 : Nat) (x2 : Nat) (x3 : Nat) (x4 : Int32) (x5 : Int32) (x6 : Int32) (x8 : Int32) (x9 : Int32) (h : AH) (w : wX4_learnRoutesTo_J171 K c129 x0 x2 x3 x4 x5 x6 x8 x9 h) : X mX4_learnRoutesTo 3 (KV K) T0 0 0 171 [(0, .ref x0), (2, .ref x2), (3, .ref x3), (4, .int x4), (5, .int x5), (6, .int x6), (8, .int x8), (9, .int x9)] [] h := by
  unfold wX4_learnRoutesTo_J171 at w
  refine X_iconst (v := 1) (show decode cX4_learnRoutesTo 171 = .ok (.iconst 1, 1) by decide +kernel) (by decide) ?_
  refine X_goto (tgt := 176) (show decode cX4_learnRoutesTo 172 = .ok (.goto 4, 3) by decide +kernel) (by decide) ?_
  exact kX4_learnRoutesTo_J176 hc129 _ _ _ _ _ _ _ _ _ _ w
set_option maxRecDepth 100000 in
set_option maxHeartbeats 4000000 in
theorem kX4_learnRoutesTo_J175 {K : AH → Prop} {c129 : Nat → Nat → Nat → Int32 → Int32 → Int32 → Int32 → Int32 → AH → Prop} (hc129 : ∀ x0 x2 x3 x4 x5 x6 x8 x9 h, c129 x0 x2 x3 x4 x5 x6 x8 x9 h → X mX4_learnRoutesTo 3 (KV K) T0 0 0 129 [(0, .ref x0), (2, .ref x2), (3, .ref x3), (4, .int x4), (5, .int x5), (6, .int x6), (8, .int x8), (9, .int x9)] [] h) (x0 : Nat) (x2 : Nat) (x3 : Nat) (x4 : Int32) (x5 : Int32) (x6 : Int32) (x8 : Int32) (x9 : Int32) (h : AH) (w : wX4_learnRoutesTo_J175 K c129 x0 x2 x3 x4 x5 x6 x8 x9 h) : X mX4_learnRoutesTo 3 (KV K) T0 0 0 175 [(0, .ref x0), (2, .ref x2), (3, .ref x3), (4, .int x4), (5, .int x5), (6, .int x6), (8, .int x8), (9, .int x9)] [] h := by
  unfold wX4_learnRoutesTo_J175 at w
  refine X_iconst (v := 0) (show decode cX4_learnRoutesTo 175 = .ok (.iconst 0, 1) by decide +kernel) (by decide) ?_
  exact kX4_learnRoutesTo_J176 hc129 _ _ _ _ _ _ _ _ _ _ w
set_option maxRecDepth 100000 in
set_option maxHeartbeats 4000000 in
theorem kX4_learnRoutesTo_L129 {K : AH → Prop} {c215 : Nat → Nat → Nat → Int32 → Int32 → AH → Prop} (hc215 : ∀ x0 x2 x3 x4 x5 h, c215 x0 x2 x3 x4 x5 h → X mX4_learnRoutesTo 3 (KV K) T0 0 0 215 [(0, .ref x0), (2, .ref x2), (3, .ref x3), (4, .int x4), (5, .int x5)] [] h) {x0 : Nat} {x2 : Nat} {x3 : Nat} {x4 : Int32} {x5 : Int32} {x6 : Int32} {x8 : Int32} : ∀ (n : Nat) (x9 : Int32) (h : AH), wX4_learnRoutesTo_L129 K c215 x0 x2 x3 x4 x5 x6 x8 n x9 h → X mX4_learnRoutesTo 3 (KV K) T0 0 0 129 [(0, .ref x0), (2, .ref x2), (3, .ref x3), (4, .int x4), (5, .int x5), (6, .int x6), (8, .int x8), (9, .int x9)] [] h := by
  intro n
  induction n with
  | zero => intro _ _ w; exact w.elim
  | succ n ih =>
    intro x9 h w
    rw [wX4_learnRoutesTo_L129] at w
    refine X_iload (j := 7) (show decode cX4_learnRoutesTo 129 = .ok (.iload 9, 2) by decide +kernel) rfl ?_
    refine X_aload_n (j := 0) (show decode cX4_learnRoutesTo 131 = .ok (.aload_n 0, 1) by decide +kernel) rfl rfl ?_
    obtain ⟨s35, w⟩ := w
    refine X_getI fl_X4_9 (show decode cX4_learnRoutesTo 132 = .ok (.getfield 9, 3) by decide +kernel) s35 ?_
    refine X_icmp_ge (tgt := 215) (show decode cX4_learnRoutesTo 135 = .ok (.if_icmp .ge 80, 3) by decide +kernel) (by decide) ⟨fun c36 => ?_, fun c36 => ?_⟩
    · have w := w.1 c36
      refine X_pick (ls' := [(0, .ref _), (2, .ref _), (3, .ref _), (4, .int _), (5, .int _)]) [0, 1, 2, 3, 4] rfl ?_
      exact hc215 _ _ _ _ _ _ w
    · have w := w.2 c36
      refine X_iload (j := 6) (show decode cX4_learnRoutesTo 138 = .ok (.iload 8, 2) by decide +kernel) rfl ?_
      refine X_aload_n (j := 0) (show decode cX4_learnRoutesTo 140 = .ok (.aload_n 0, 1) by decide +kernel) rfl rfl ?_
      refine X_getR fl_X4_48 (show decode cX4_learnRoutesTo 141 = .ok (.getfield 48, 3) by decide +kernel) s35 ?_
      refine X_iload (j := 7) (show decode cX4_learnRoutesTo 144 = .ok (.iload 9, 2) by decide +kernel) rfl ?_
      obtain ⟨s37, w⟩ := w
      obtain ⟨s38, w⟩ := w
      refine X_iald (show decode cX4_learnRoutesTo 146 = .ok (.iaload, 1) by decide +kernel) (isA_eq s37) s38 ?_
      refine X_icmp_lt (tgt := 171) (show decode cX4_learnRoutesTo 147 = .ok (.if_icmp .lt 24, 3) by decide +kernel) (by decide) ⟨fun c39 => ?_, fun c39 => ?_⟩
      · have w := w.1 c39
        exact kX4_learnRoutesTo_J171 ih _ _ _ _ _ _ _ _ _ w
      · have w := w.2 c39
        refine X_iload (j := 6) (show decode cX4_learnRoutesTo 150 = .ok (.iload 8, 2) by decide +kernel) rfl ?_
        refine X_aload_n (j := 0) (show decode cX4_learnRoutesTo 152 = .ok (.aload_n 0, 1) by decide +kernel) rfl rfl ?_
        refine X_getR fl_X4_48 (show decode cX4_learnRoutesTo 153 = .ok (.getfield 48, 3) by decide +kernel) s35 ?_
        refine X_iload (j := 7) (show decode cX4_learnRoutesTo 156 = .ok (.iload 9, 2) by decide +kernel) rfl ?_
        refine X_iald (show decode cX4_learnRoutesTo 158 = .ok (.iaload, 1) by decide +kernel) (isA_eq s37) s38 ?_
        refine X_icmp_ne (tgt := 175) (show decode cX4_learnRoutesTo 159 = .ok (.if_icmp .ne 16, 3) by decide +kernel) (by decide) ⟨fun c54 => ?_, fun c54 => ?_⟩
        · have w := w.1 c54
          exact kX4_learnRoutesTo_J175 ih _ _ _ _ _ _ _ _ _ w
        · have w := w.2 c54
          refine X_iload (j := 5) (show decode cX4_learnRoutesTo 162 = .ok (.iload 6, 2) by decide +kernel) rfl ?_
          refine X_aload_n (j := 1) (show decode cX4_learnRoutesTo 164 = .ok (.aload_n 2, 1) by decide +kernel) rfl rfl ?_
          refine X_iload (j := 7) (show decode cX4_learnRoutesTo 165 = .ok (.iload 9, 2) by decide +kernel) rfl ?_
          obtain ⟨s55, w⟩ := w
          obtain ⟨s56, w⟩ := w
          refine X_iald (show decode cX4_learnRoutesTo 167 = .ok (.iaload, 1) by decide +kernel) (isA_eq s55) s56 ?_
          refine X_icmp_ge (tgt := 175) (show decode cX4_learnRoutesTo 168 = .ok (.if_icmp .ge 7, 3) by decide +kernel) (by decide) ⟨fun c57 => ?_, fun c57 => ?_⟩
          · have w := w.1 c57
            exact kX4_learnRoutesTo_J175 ih _ _ _ _ _ _ _ _ _ w
          · have w := w.2 c57
            exact kX4_learnRoutesTo_J171 ih _ _ _ _ _ _ _ _ _ w
set_option maxRecDepth 100000 in
set_option maxHeartbeats 4000000 in
theorem kX4_learnRoutesTo_J104 {K : AH → Prop} {c46 : Nat → Nat → Nat → Int32 → Int32 → AH → Prop} (hc46 : ∀ x0 x2 x3 x4 x5 h, c46 x0 x2 x3 x4 x5 h → X mX4_learnRoutesTo 3 (KV K) T0 0 0 46 [(0, .ref x0), (2, .ref x2), (3, .ref x3), (4, .int x4), (5, .int x5)] [] h) (x0 : Nat) (x2 : Nat) (x3 : Nat) (x4 : Int32) (x5 : Int32) (x6 : Int32) (h : AH) (w : wX4_learnRoutesTo_J104 K c46 x0 x2 x3 x4 x5 x6 h) : X mX4_learnRoutesTo 3 (KV K) T0 0 0 104 [(0, .ref x0), (2, .ref x2), (3, .ref x3), (4, .int x4), (5, .int x5), (6, .int x6)] [] h := by
  unfold wX4_learnRoutesTo_J104 at w
  refine X_aload_n (j := 0) (show decode cX4_learnRoutesTo 104 = .ok (.aload_n 0, 1) by decide +kernel) rfl rfl ?_
  obtain ⟨s28, w⟩ := w
  refine X_getR fl_X4_48 (show decode cX4_learnRoutesTo 105 = .ok (.getfield 48, 3) by decide +kernel) s28 ?_
  refine X_iload (j := 5) (show decode cX4_learnRoutesTo 108 = .ok (.iload 6, 2) by decide +kernel) rfl ?_
  obtain ⟨s29, w⟩ := w
  obtain ⟨s30, w⟩ := w
  refine X_iald (show decode cX4_learnRoutesTo 110 = .ok (.iaload, 1) by decide +kernel) (isA_eq s29) s30 ?_
  refine X_aload_n (j := 0) (show decode cX4_learnRoutesTo 111 = .ok (.aload_n 0, 1) by decide +kernel) rfl rfl ?_
  refine X_getR fl_X4_27 (show decode cX4_learnRoutesTo 112 = .ok (.getfield 27, 3) by decide +kernel) s28 ?_
  refine X_iload (j := 5) (show decode cX4_learnRoutesTo 115 = .ok (.iload 6, 2) by decide +kernel) rfl ?_
  obtain ⟨s31, w⟩ := w
  obtain ⟨s32, w⟩ := w
  refine X_iald (show decode cX4_learnRoutesTo 117 = .ok (.iaload, 1) by decide +kernel) (isA_eq s31) s32 ?_
  refine X_bipush (v := 16) (show decode cX4_learnRoutesTo 118 = .ok (.bipush 16, 2) by decide +kernel) (by decide) ?_
  refine X_imul (show decode cX4_learnRoutesTo 120 = .ok (.imul, 1) by decide +kernel) ?_
  refine X_iadd (show decode cX4_learnRoutesTo 121 = .ok (.iadd, 1) by decide +kernel) ?_
  refine X_iconst (v := 1) (show decode cX4_learnRoutesTo 122 = .ok (.iconst 1, 1) by decide +kernel) (by decide) ?_
  refine X_iadd (show decode cX4_learnRoutesTo 123 = .ok (.iadd, 1) by decide +kernel) ?_
  refine X_topi (fun v33 e34 => ?_)
  have w := w v33 e34
  refine X_istore (ls' := [(0, .ref _), (2, .ref _), (3, .ref _), (4, .int _), (5, .int _), (6, .int _), (8, .int _)]) (show decode cX4_learnRoutesTo 124 = .ok (.istore 8, 2) by decide +kernel) (by decide) rfl ?_
  refine X_iconst (v := 0) (show decode cX4_learnRoutesTo 126 = .ok (.iconst 0, 1) by decide +kernel) (by decide) ?_
  refine X_istore (ls' := [(0, .ref _), (2, .ref _), (3, .ref _), (4, .int _), (5, .int _), (6, .int _), (8, .int _), (9, .int _)]) (show decode cX4_learnRoutesTo 127 = .ok (.istore 9, 2) by decide +kernel) (by decide) rfl ?_
  obtain ⟨n64, w⟩ := w
  refine kX4_learnRoutesTo_L129 ?_ n64 _ _ w
  · intro x0_58 x2_59 x3_60 x4_61 x5_62 h63 w
    refine X_iinc (j := 4) (v := _ + 1) (ls' := [(0, .ref _), (2, .ref _), (3, .ref _), (4, .int _), (5, .int _)]) (show decode cX4_learnRoutesTo 215 = .ok (.iinc 5 1, 3) by decide +kernel) rfl rfl (Nat.le_of_ble_eq_true rfl) rfl ?_
    refine X_goto (tgt := 46) (show decode cX4_learnRoutesTo 218 = .ok (.goto (-172), 3) by decide +kernel) (by decide) ?_
    exact hc46 _ _ _ _ _ _ w
set_option maxRecDepth 100000 in
set_option maxHeartbeats 4000000 in
theorem kX4_learnRoutesTo_L46 {K : AH → Prop}   {x0 : Nat} {x2 : Nat} {x3 : Nat} : ∀ (n : Nat) (x4 : Int32) (x5 : Int32) (h : AH), wX4_learnRoutesTo_L46 K  x0 x2 x3 n x4 x5 h → X mX4_learnRoutesTo 3 (KV K) T0 0 0 46 [(0, .ref x0), (2, .ref x2), (3, .ref x3), (4, .int x4), (5, .int x5)] [] h := by
  intro n
  induction n with
  | zero => intro _ _ _ w; exact w.elim
  | succ n ih =>
    intro x4 x5 h w
    rw [wX4_learnRoutesTo_L46] at w
    refine X_iload (j := 4) (show decode cX4_learnRoutesTo 46 = .ok (.iload 5, 2) by decide +kernel) rfl ?_
    refine X_aload_n (j := 0) (show decode cX4_learnRoutesTo 48 = .ok (.aload_n 0, 1) by decide +kernel) rfl rfl ?_
    obtain ⟨s20, w⟩ := w
    refine X_getI fl_X4_9 (show decode cX4_learnRoutesTo 49 = .ok (.getfield 9, 3) by decide +kernel) s20 ?_
    refine X_icmp_ge (tgt := 221) (show decode cX4_learnRoutesTo 52 = .ok (.if_icmp .ge 169, 3) by decide +kernel) (by decide) ⟨fun c21 => ?_, fun c21 => ?_⟩
    · have w := w.1 c21
      exact X_vret ⟨(show decode cX4_learnRoutesTo 221 = .ok (.return_, 1) by decide +kernel), rfl⟩ ⟨rfl, w⟩
    · have w := w.2 c21
      refine X_aload_n (j := 0) (show decode cX4_learnRoutesTo 55 = .ok (.aload_n 0, 1) by decide +kernel) rfl rfl ?_
      refine X_iload (j := 3) (show decode cX4_learnRoutesTo 56 = .ok (.iload 4, 2) by decide +kernel) rfl ?_
      refine X_vI (rc' := 0) (rs' := 0) (as := [.int _]) mv_X4_89 (show decode cX4_learnRoutesTo 58 = .ok (.invokevirtual 89, 3) by decide +kernel) (by decide) (Nat.le_of_ble_eq_true rfl) (Nat.le_of_ble_eq_true rfl) rfl rfl (Nat.le_of_ble_eq_true rfl) (rcvD s20 (by decide) rfl) (kX4_nearestBlock w) (fun E h hk => hk.elim) (fun r23 h22 w => ?_)
      refine X_istore (ls' := [(0, .ref _), (2, .ref _), (3, .ref _), (4, .int _), (5, .int _), (6, .int _)]) (show decode cX4_learnRoutesTo 61 = .ok (.istore 6, 2) by decide +kernel) (by decide) rfl ?_
      refine X_iload (j := 5) (show decode cX4_learnRoutesTo 63 = .ok (.iload 6, 2) by decide +kernel) rfl ?_
      refine X_iconst (v := (-1)) (show decode cX4_learnRoutesTo 65 = .ok (.iconst (-1), 1) by decide +kernel) (by decide) ?_
      refine X_icmp_ne (tgt := 70) (show decode cX4_learnRoutesTo 66 = .ok (.if_icmp .ne 4, 3) by decide +kernel) (by decide) ⟨fun c24 => ?_, fun c24 => ?_⟩
      · have w := w.1 c24
        refine X_iload (j := 3) (show decode cX4_learnRoutesTo 70 = .ok (.iload 4, 2) by decide +kernel) rfl ?_
        refine X_iconst (v := 1) (show decode cX4_learnRoutesTo 72 = .ok (.iconst 1, 1) by decide +kernel) (by decide) ?_
        refine X_iload (j := 5) (show decode cX4_learnRoutesTo 73 = .ok (.iload 6, 2) by decide +kernel) rfl ?_
        refine X_ishl (show decode cX4_learnRoutesTo 75 = .ok (.ishl, 1) by decide +kernel) ?_
        refine X_ior (show decode cX4_learnRoutesTo 76 = .ok (.ior, 1) by decide +kernel) ?_
        refine X_istore (ls' := [(0, .ref _), (2, .ref _), (3, .ref _), (4, .int _), (5, .int _), (6, .int _)]) (show decode cX4_learnRoutesTo 77 = .ok (.istore 4, 2) by decide +kernel) (by decide) rfl ?_
        refine X_aload_n (j := 1) (show decode cX4_learnRoutesTo 79 = .ok (.aload_n 2, 1) by decide +kernel) rfl rfl ?_
        refine X_iload (j := 5) (show decode cX4_learnRoutesTo 80 = .ok (.iload 6, 2) by decide +kernel) rfl ?_
        obtain ⟨s25, w⟩ := w
        obtain ⟨s26, w⟩ := w
        refine X_iald (show decode cX4_learnRoutesTo 82 = .ok (.iaload, 1) by decide +kernel) (isA_eq s25) s26 ?_
        refine X_istore (ls' := [(0, .ref _), (2, .ref _), (3, .ref _), (4, .int _), (5, .int _), (6, .int _), (7, .int _)]) (show decode cX4_learnRoutesTo 83 = .ok (.istore 7, 2) by decide +kernel) (by decide) rfl ?_
        refine X_iload (j := 6) (show decode cX4_learnRoutesTo 85 = .ok (.iload 7, 2) by decide +kernel) rfl ?_
        refine X_iconst (v := (-1)) (show decode cX4_learnRoutesTo 87 = .ok (.iconst (-1), 1) by decide +kernel) (by decide) ?_
        refine X_icmp_eq (tgt := 104) (show decode cX4_learnRoutesTo 88 = .ok (.if_icmp .eq 16, 3) by decide +kernel) (by decide) ⟨fun c27 => ?_, fun c27 => ?_⟩
        · have w := w.1 c27
          refine X_pick (ls' := [(0, .ref _), (2, .ref _), (3, .ref _), (4, .int _), (5, .int _), (6, .int _)]) [0, 1, 2, 3, 4, 5] rfl ?_
          exact kX4_learnRoutesTo_J104 ih _ _ _ _ _ _ _ w
        · have w := w.2 c27
          refine X_aload_n (j := 2) (show decode cX4_learnRoutesTo 91 = .ok (.aload_n 3, 1) by decide +kernel) rfl rfl ?_
          refine X_iload (j := 5) (show decode cX4_learnRoutesTo 92 = .ok (.iload 6, 2) by decide +kernel) rfl ?_
          refine X_aload_n (j := 2) (show decode cX4_learnRoutesTo 94 = .ok (.aload_n 3, 1) by decide +kernel) rfl rfl ?_
          refine X_iload (j := 6) (show decode cX4_learnRoutesTo 95 = .ok (.iload 7, 2) by decide +kernel) rfl ?_
          obtain ⟨s65, w⟩ := w
          obtain ⟨s66, w⟩ := w
          refine X_iald (show decode cX4_learnRoutesTo 97 = .ok (.iaload, 1) by decide +kernel) (isA_eq s65) s66 ?_
          refine X_iconst (v := 1) (show decode cX4_learnRoutesTo 98 = .ok (.iconst 1, 1) by decide +kernel) (by decide) ?_
          refine X_iload (j := 6) (show decode cX4_learnRoutesTo 99 = .ok (.iload 7, 2) by decide +kernel) rfl ?_
          refine X_ishl (show decode cX4_learnRoutesTo 101 = .ok (.ishl, 1) by decide +kernel) ?_
          refine X_ior (show decode cX4_learnRoutesTo 102 = .ok (.ior, 1) by decide +kernel) ?_
          obtain ⟨s67, w⟩ := w
          obtain ⟨s68, w⟩ := w
          refine X_iast (show decode cX4_learnRoutesTo 103 = .ok (.iastore, 1) by decide +kernel) (isA_eq s65) s67 s68 ?_
          have w := w _ rfl
          refine X_pick (ls' := [(0, .ref _), (2, .ref _), (3, .ref _), (4, .int _), (5, .int _), (6, .int _)]) [0, 1, 2, 3, 4, 5] rfl ?_
          exact kX4_learnRoutesTo_J104 ih _ _ _ _ _ _ _ w
      · have w := w.2 c24
        exact X_vret ⟨(show decode cX4_learnRoutesTo 69 = .ok (.return_, 1) by decide +kernel), rfl⟩ ⟨rfl, w⟩
set_option maxRecDepth 100000 in
set_option maxHeartbeats 4000000 in
theorem kX4_learnRoutesTo {a0 : Nat} {a1 : Int32} {h : AH} {K : AH → Prop} (w : wX4_learnRoutesTo a0 a1 h K) : Cn mX4_learnRoutesTo (cwd mX4_learnRoutesTo) 3 0 0 [.ref a0, .int a1] h (KV K) T0 := by
  refine Cn_of (by decide +kernel) rfl (Nat.le_of_ble_eq_true rfl) ?_
  show X mX4_learnRoutesTo 3 (KV K) T0 0 0 0 [(0, .ref a0), (1, .int a1), (2, .ref (mR h (mR h a0 9) a1.toNatClampNeg)), (3, .ref (mR h (mR h a0 10) a1.toNatClampNeg))] [] h
  unfold wX4_learnRoutesTo at w
  refine X_aload_n (j := 0) (show decode cX4_learnRoutesTo 0 = .ok (.aload_n 0, 1) by decide +kernel) rfl rfl ?_
  obtain ⟨s1, w⟩ := w
  refine X_getR fl_X4_42 (show decode cX4_learnRoutesTo 1 = .ok (.getfield 42, 3) by decide +kernel) s1 ?_
  refine X_iload_n (j := 1) (show decode cX4_learnRoutesTo 4 = .ok (.iload_n 1, 1) by decide +kernel) rfl rfl ?_
  obtain ⟨s2, w⟩ := w
  obtain ⟨s3, w⟩ := w
  obtain ⟨s4, w⟩ := w
  refine X_aaldA (show decode cX4_learnRoutesTo 5 = .ok (.aaload, 1) by decide +kernel) (isA_eq s2) s3 s4 ?_
  refine X_astore_n (ls' := [(0, .ref _), (1, .int _), (2, .ref _)]) (show decode cX4_learnRoutesTo 6 = .ok (.astore_n 2, 1) by decide +kernel) rfl (by decide) rfl ?_
  refine X_aload_n (j := 0) (show decode cX4_learnRoutesTo 7 = .ok (.aload_n 0, 1) by decide +kernel) rfl rfl ?_
  refine X_getR fl_X4_45 (show decode cX4_learnRoutesTo 8 = .ok (.getfield 45, 3) by decide +kernel) s1 ?_
  refine X_iload_n (j := 1) (show decode cX4_learnRoutesTo 11 = .ok (.iload_n 1, 1) by decide +kernel) rfl rfl ?_
  obtain ⟨s5, w⟩ := w
  obtain ⟨s6, w⟩ := w
  obtain ⟨s7, w⟩ := w
  refine X_aaldA (show decode cX4_learnRoutesTo 12 = .ok (.aaload, 1) by decide +kernel) (isA_eq s5) s6 s7 ?_
  refine X_astore_n (ls' := [(0, .ref _), (1, .int _), (2, .ref _), (3, .ref _)]) (show decode cX4_learnRoutesTo 13 = .ok (.astore_n 3, 1) by decide +kernel) rfl (by decide) rfl ?_
  refine X_aload_n (j := 2) (show decode cX4_learnRoutesTo 14 = .ok (.aload_n 2, 1) by decide +kernel) rfl rfl ?_
  refine X_iconst (v := (-1)) (show decode cX4_learnRoutesTo 15 = .ok (.iconst (-1), 1) by decide +kernel) (by decide) ?_
  refine X_sV (rc' := 0) (rs' := 0) (as := [.ref _, .int _]) ms_X4_82 (show decode cX4_learnRoutesTo 16 = .ok (.invokestatic 82, 3) by decide +kernel) (by decide) (Nat.le_of_ble_eq_true rfl) (Nat.le_of_ble_eq_true rfl) rfl rfl (Nat.le_of_ble_eq_true rfl) (kJ7_fill_53178 w) (fun E h hk => hk.elim) (fun h8 w => ?_)
  refine X_aload_n (j := 3) (show decode cX4_learnRoutesTo 19 = .ok (.aload_n 3, 1) by decide +kernel) rfl rfl ?_
  refine X_iconst (v := 0) (show decode cX4_learnRoutesTo 20 = .ok (.iconst 0, 1) by decide +kernel) (by decide) ?_
  refine X_sV (rc' := 0) (rs' := 0) (as := [.ref _, .int _]) ms_X4_82 (show decode cX4_learnRoutesTo 21 = .ok (.invokestatic 82, 3) by decide +kernel) (by decide) (Nat.le_of_ble_eq_true rfl) (Nat.le_of_ble_eq_true rfl) rfl rfl (Nat.le_of_ble_eq_true rfl) (kJ7_fill_53178 w) (fun E h hk => hk.elim) (fun h10 w => ?_)
  refine X_aload_n (j := 0) (show decode cX4_learnRoutesTo 24 = .ok (.aload_n 0, 1) by decide +kernel) rfl rfl ?_
  obtain ⟨s12, w⟩ := w
  refine X_getR fl_X4_48 (show decode cX4_learnRoutesTo 25 = .ok (.getfield 48, 3) by decide +kernel) s12 ?_
  refine X_ldc (v := 1000000) (show decode cX4_learnRoutesTo 28 = .ok (.ldc 88, 2) by decide +kernel) gc_X4_88 ?_
  refine X_sV (rc' := 0) (rs' := 0) (as := [.ref _, .int _]) ms_X4_82 (show decode cX4_learnRoutesTo 30 = .ok (.invokestatic 82, 3) by decide +kernel) (by decide) (Nat.le_of_ble_eq_true rfl) (Nat.le_of_ble_eq_true rfl) rfl rfl (Nat.le_of_ble_eq_true rfl) (kJ7_fill_53178 w) (fun E h hk => hk.elim) (fun h13 w => ?_)
  refine X_aload_n (j := 0) (show decode cX4_learnRoutesTo 33 = .ok (.aload_n 0, 1) by decide +kernel) rfl rfl ?_
  obtain ⟨s15, w⟩ := w
  refine X_getR fl_X4_48 (show decode cX4_learnRoutesTo 34 = .ok (.getfield 48, 3) by decide +kernel) s15 ?_
  refine X_iload_n (j := 1) (show decode cX4_learnRoutesTo 37 = .ok (.iload_n 1, 1) by decide +kernel) rfl rfl ?_
  refine X_iconst (v := 0) (show decode cX4_learnRoutesTo 38 = .ok (.iconst 0, 1) by decide +kernel) (by decide) ?_
  obtain ⟨s16, w⟩ := w
  obtain ⟨s17, w⟩ := w
  obtain ⟨s18, w⟩ := w
  refine X_iast (show decode cX4_learnRoutesTo 39 = .ok (.iastore, 1) by decide +kernel) (isA_eq s16) s17 s18 ?_
  have w := w _ rfl
  refine X_iconst (v := 0) (show decode cX4_learnRoutesTo 40 = .ok (.iconst 0, 1) by decide +kernel) (by decide) ?_
  refine X_istore (ls' := [(0, .ref _), (1, .int _), (2, .ref _), (3, .ref _), (4, .int _)]) (show decode cX4_learnRoutesTo 41 = .ok (.istore 4, 2) by decide +kernel) (by decide) rfl ?_
  refine X_iconst (v := 0) (show decode cX4_learnRoutesTo 43 = .ok (.iconst 0, 1) by decide +kernel) (by decide) ?_
  refine X_istore (ls' := [(0, .ref _), (1, .int _), (2, .ref _), (3, .ref _), (4, .int _), (5, .int _)]) (show decode cX4_learnRoutesTo 44 = .ok (.istore 5, 2) by decide +kernel) (by decide) rfl ?_
  refine X_pick (ls' := [(0, .ref _), (2, .ref _), (3, .ref _), (4, .int _), (5, .int _)]) [0, 2, 3, 4, 5] rfl ?_
  obtain ⟨n70, w⟩ := w
  exact kX4_learnRoutesTo_L46  n70 _ _ _ w
set_option maxRecDepth 100000 in
set_option maxHeartbeats 4000000 in
theorem kX4_learnRoutes_L2 {K : AH → Prop}   {x0 : Nat} : ∀ (n : Nat) (x1 : Int32) (h : AH), wX4_learnRoutes_L2 K  x0 n x1 h → X mX4_learnRoutes 4 (KV K) T0 0 0 2 [(0, .ref x0), (1, .int x1)] [] h := by
  intro n
  induction n with
  | zero => intro _ _ w; exact w.elim
  | succ n ih =>
    intro x1 h w
    rw [wX4_learnRoutes_L2] at w
    refine X_iload_n (j := 1) (show decode cX4_learnRoutes 2 = .ok (.iload_n 1, 1) by decide +kernel) rfl rfl ?_
    refine X_aload_n (j := 0) (show decode cX4_learnRoutes 3 = .ok (.aload_n 0, 1) by decide +kernel) rfl rfl ?_
    obtain ⟨s1, w⟩ := w
    refine X_getI fl_X4_9 (show decode cX4_learnRoutes 4 = .ok (.getfield 9, 3) by decide +kernel) s1 ?_
    refine X_icmp_ge (tgt := 21) (show decode cX4_learnRoutes 7 = .ok (.if_icmp .ge 14, 3) by decide +kernel) (by decide) ⟨fun c2 => ?_, fun c2 => ?_⟩
    · have w := w.1 c2
      exact X_vret ⟨(show decode cX4_learnRoutes 21 = .ok (.return_, 1) by decide +kernel), rfl⟩ ⟨rfl, w⟩
    · have w := w.2 c2
      refine X_aload_n (j := 0) (show decode cX4_learnRoutes 10 = .ok (.aload_n 0, 1) by decide +kernel) rfl rfl ?_
      refine X_iload_n (j := 1) (show decode cX4_learnRoutes 11 = .ok (.iload_n 1, 1) by decide +kernel) rfl rfl ?_
      refine X_vV (rc' := 0) (rs' := 0) (as := [.int _]) mv_X4_78 (show decode cX4_learnRoutes 12 = .ok (.invokevirtual 78, 3) by decide +kernel) (by decide) (Nat.le_of_ble_eq_true rfl) (Nat.le_of_ble_eq_true rfl) rfl rfl (Nat.le_of_ble_eq_true rfl) (rcvD s1 (by decide) rfl) (kX4_learnRoutesTo w) (fun E h hk => hk.elim) (fun h3 w => ?_)
      refine X_iinc (j := 1) (v := _ + 1) (ls' := [(0, .ref _), (1, .int _)]) (show decode cX4_learnRoutes 15 = .ok (.iinc 1 1, 3) by decide +kernel) rfl rfl (Nat.le_of_ble_eq_true rfl) rfl ?_
      refine X_goto (tgt := 2) (show decode cX4_learnRoutes 18 = .ok (.goto (-16), 3) by decide +kernel) (by decide) ?_
      exact ih _ _ _ w
set_option maxRecDepth 100000 in
set_option maxHeartbeats 4000000 in
theorem kX4_learnRoutes {a0 : Nat} {h : AH} {K : AH → Prop} (w : wX4_learnRoutes a0 h K) : Cn mX4_learnRoutes (cwd mX4_learnRoutes) 4 0 0 [.ref a0] h (KV K) T0 := by
  refine Cn_of (by decide +kernel) rfl (Nat.le_of_ble_eq_true rfl) ?_
  show X mX4_learnRoutes 4 (KV K) T0 0 0 0 [(0, .ref a0), (1, .int 0)] [] h
  unfold wX4_learnRoutes at w
  refine X_iconst (v := 0) (show decode cX4_learnRoutes 0 = .ok (.iconst 0, 1) by decide +kernel) (by decide) ?_
  refine X_istore_n (ls' := [(0, .ref _), (1, .int _)]) (show decode cX4_learnRoutes 1 = .ok (.istore_n 1, 1) by decide +kernel) rfl (by decide) rfl ?_
  obtain ⟨n5, w⟩ := w
  exact kX4_learnRoutes_L2  n5 _ _ w
set_option maxRecDepth 100000 in
set_option maxHeartbeats 4000000 in
theorem kX4_makeBlock {a0 : Nat} {a1 : Int32} {h : AH} {K : Int32 → AH → Prop} (w : wX4_makeBlock a0 a1 h K) : Cn mX4_makeBlock (cwd mX4_makeBlock) 5 0 0 [.ref a0, .int a1] h (KI K) T0 := by
  refine Cn_of (by decide +kernel) rfl (Nat.le_of_ble_eq_true rfl) ?_
  show X mX4_makeBlock 5 (KI K) T0 0 0 0 [(0, .ref a0), (1, .int a1)] [] h
  unfold wX4_makeBlock at w
  refine X_iload_n (j := 1) (show decode cX4_makeBlock 0 = .ok (.iload_n 1, 1) by decide +kernel) rfl rfl ?_
  refine X_iconst (v := 1) (show decode cX4_makeBlock 1 = .ok (.iconst 1, 1) by decide +kernel) (by decide) ?_
  refine X_icmp_lt (tgt := 11) (show decode cX4_makeBlock 2 = .ok (.if_icmp .lt 9, 3) by decide +kernel) (by decide) ⟨fun c1 => ?_, fun c1 => ?_⟩
  · have w := w.1 c1
    refine X_bipush (v := (-2)) (show decode cX4_makeBlock 11 = .ok (.bipush (-2), 2) by decide +kernel) (by decide) ?_
    exact X_iret ⟨(show decode cX4_makeBlock 13 = .ok (.ireturn, 1) by decide +kernel), .int, rfl, rfl⟩ ⟨_, rfl, w⟩
  · have w := w.2 c1
    refine X_iload_n (j := 1) (show decode cX4_makeBlock 5 = .ok (.iload_n 1, 1) by decide +kernel) rfl rfl ?_
    refine X_bipush (v := 9) (show decode cX4_makeBlock 6 = .ok (.bipush 9, 2) by decide +kernel) (by decide) ?_
    refine X_icmp_le (tgt := 14) (show decode cX4_makeBlock 8 = .ok (.if_icmp .le 6, 3) by decide +kernel) (by decide) ⟨fun c2 => ?_, fun c2 => ?_⟩
    · have w := w.1 c2
      refine X_aload_n (j := 0) (show decode cX4_makeBlock 14 = .ok (.aload_n 0, 1) by decide +kernel) rfl rfl ?_
      obtain ⟨s3, w⟩ := w
      refine X_getI fl_X4_9 (show decode cX4_makeBlock 15 = .ok (.getfield 9, 3) by decide +kernel) s3 ?_
      refine X_bipush (v := 12) (show decode cX4_makeBlock 18 = .ok (.bipush 12, 2) by decide +kernel) (by decide) ?_
      refine X_icmp_lt (tgt := 26) (show decode cX4_makeBlock 20 = .ok (.if_icmp .lt 6, 3) by decide +kernel) (by decide) ⟨fun c4 => ?_, fun c4 => ?_⟩
      · have w := w.1 c4
        refine X_aload_n (j := 0) (show decode cX4_makeBlock 26 = .ok (.aload_n 0, 1) by decide +kernel) rfl rfl ?_
        refine X_getR fl_X4_27 (show decode cX4_makeBlock 27 = .ok (.getfield 27, 3) by decide +kernel) s3 ?_
        refine X_aload_n (j := 0) (show decode cX4_makeBlock 30 = .ok (.aload_n 0, 1) by decide +kernel) rfl rfl ?_
        refine X_getI fl_X4_9 (show decode cX4_makeBlock 31 = .ok (.getfield 9, 3) by decide +kernel) s3 ?_
        refine X_iload_n (j := 1) (show decode cX4_makeBlock 34 = .ok (.iload_n 1, 1) by decide +kernel) rfl rfl ?_
        obtain ⟨s5, w⟩ := w
        obtain ⟨s6, w⟩ := w
        obtain ⟨s7, w⟩ := w
        refine X_iast (show decode cX4_makeBlock 35 = .ok (.iastore, 1) by decide +kernel) (isA_eq s5) s6 s7 ?_
        have w := w _ rfl
        refine X_aload_n (j := 0) (show decode cX4_makeBlock 36 = .ok (.aload_n 0, 1) by decide +kernel) rfl rfl ?_
        refine X_getR fl_X4_31 (show decode cX4_makeBlock 37 = .ok (.getfield 31, 3) by decide +kernel) s3 ?_
        refine X_aload_n (j := 0) (show decode cX4_makeBlock 40 = .ok (.aload_n 0, 1) by decide +kernel) rfl rfl ?_
        refine X_getI fl_X4_9 (show decode cX4_makeBlock 41 = .ok (.getfield 9, 3) by decide +kernel) s3 ?_
        refine X_iconst (v := (-1)) (show decode cX4_makeBlock 44 = .ok (.iconst (-1), 1) by decide +kernel) (by decide) ?_
        obtain ⟨s9, w⟩ := w
        obtain ⟨s10, w⟩ := w
        obtain ⟨s11, w⟩ := w
        refine X_iast (show decode cX4_makeBlock 45 = .ok (.iastore, 1) by decide +kernel) (isA_eq s9) s10 s11 ?_
        have w := w _ rfl
        refine X_aload_n (j := 0) (show decode cX4_makeBlock 46 = .ok (.aload_n 0, 1) by decide +kernel) rfl rfl ?_
        refine X_getR fl_X4_34 (show decode cX4_makeBlock 47 = .ok (.getfield 34, 3) by decide +kernel) s3 ?_
        refine X_aload_n (j := 0) (show decode cX4_makeBlock 50 = .ok (.aload_n 0, 1) by decide +kernel) rfl rfl ?_
        refine X_getI fl_X4_9 (show decode cX4_makeBlock 51 = .ok (.getfield 9, 3) by decide +kernel) s3 ?_
        refine X_iconst (v := (-1)) (show decode cX4_makeBlock 54 = .ok (.iconst (-1), 1) by decide +kernel) (by decide) ?_
        obtain ⟨s13, w⟩ := w
        obtain ⟨s14, w⟩ := w
        obtain ⟨s15, w⟩ := w
        refine X_iast (show decode cX4_makeBlock 55 = .ok (.iastore, 1) by decide +kernel) (isA_eq s13) s14 s15 ?_
        have w := w _ rfl
        refine X_aload_n (j := 0) (show decode cX4_makeBlock 56 = .ok (.aload_n 0, 1) by decide +kernel) rfl rfl ?_
        refine X_dup (show decode cX4_makeBlock 57 = .ok (.dup, 1) by decide +kernel) rfl ?_
        refine X_getI fl_X4_9 (show decode cX4_makeBlock 58 = .ok (.getfield 9, 3) by decide +kernel) s3 ?_
        refine X_iconst (v := 1) (show decode cX4_makeBlock 61 = .ok (.iconst 1, 1) by decide +kernel) (by decide) ?_
        refine X_iadd (show decode cX4_makeBlock 62 = .ok (.iadd, 1) by decide +kernel) ?_
        refine X_putI fp_X4_9 (show decode cX4_makeBlock 63 = .ok (.putfield 9, 3) by decide +kernel) (fun z => nomatch z) s3 rfl rfl ?_
        have w := w _ rfl
        refine X_aload_n (j := 0) (show decode cX4_makeBlock 66 = .ok (.aload_n 0, 1) by decide +kernel) rfl rfl ?_
        refine X_vV (rc' := 0) (rs' := 0) (as := []) mv_X4_72 (show decode cX4_makeBlock 67 = .ok (.invokevirtual 72, 3) by decide +kernel) (by decide) (Nat.le_of_ble_eq_true rfl) (Nat.le_of_ble_eq_true rfl) rfl rfl (Nat.le_of_ble_eq_true rfl) (rcvD s3 (by decide) rfl) (kX4_learnRoutes w) (fun E h hk => hk.elim) (fun h18 w => ?_)
        refine X_aload_n (j := 0) (show decode cX4_makeBlock 70 = .ok (.aload_n 0, 1) by decide +kernel) rfl rfl ?_
        obtain ⟨s20, w⟩ := w
        refine X_getI fl_X4_9 (show decode cX4_makeBlock 71 = .ok (.getfield 9, 3) by decide +kernel) s20 ?_
        refine X_iconst (v := 1) (show decode cX4_makeBlock 74 = .ok (.iconst 1, 1) by decide +kernel) (by decide) ?_
        refine X_isub (show decode cX4_makeBlock 75 = .ok (.isub, 1) by decide +kernel) ?_
        exact X_iret ⟨(show decode cX4_makeBlock 76 = .ok (.ireturn, 1) by decide +kernel), .int, rfl, rfl⟩ ⟨_, rfl, w⟩
      · have w := w.2 c4
        refine X_bipush (v := (-3)) (show decode cX4_makeBlock 23 = .ok (.bipush (-3), 2) by decide +kernel) (by decide) ?_
        exact X_iret ⟨(show decode cX4_makeBlock 25 = .ok (.ireturn, 1) by decide +kernel), .int, rfl, rfl⟩ ⟨_, rfl, w⟩
    · have w := w.2 c2
      refine X_bipush (v := (-2)) (show decode cX4_makeBlock 11 = .ok (.bipush (-2), 2) by decide +kernel) (by decide) ?_
      exact X_iret ⟨(show decode cX4_makeBlock 13 = .ok (.ireturn, 1) by decide +kernel), .int, rfl, rfl⟩ ⟨_, rfl, w⟩
set_option maxRecDepth 100000 in
set_option maxHeartbeats 4000000 in
theorem kX9_throwFor {a0 : Int32} {h : AH} {K : AH → Prop} {T : String → AH → Prop} (w : wX9_throwFor a0 h K T) : Cn mX9_throwFor (cwd mX9_throwFor) 8 1 6 [.int a0] h (KV K) T := by
  refine Cn_of (by decide +kernel) rfl (Nat.le_of_ble_eq_true rfl) ?_
  show X mX9_throwFor 8 (KV K) T 1 6 0 [(0, .int a0)] [] h
  unfold wX9_throwFor at w
  refine X_iload_n (j := 0) (show decode cX9_throwFor 0 = .ok (.iload_n 0, 1) by decide +kernel) rfl rfl ?_
  refine X_iconst (v := (-1)) (show decode cX9_throwFor 1 = .ok (.iconst (-1), 1) by decide +kernel) (by decide) ?_
  refine X_icmp_ne (tgt := 16) (show decode cX9_throwFor 2 = .ok (.if_icmp .ne 14, 3) by decide +kernel) (by decide) ⟨fun c1 => ?_, fun c1 => ?_⟩
  · have w := w.1 c1
    refine X_iload_n (j := 0) (show decode cX9_throwFor 16 = .ok (.iload_n 0, 1) by decide +kernel) rfl rfl ?_
    refine X_bipush (v := (-2)) (show decode cX9_throwFor 17 = .ok (.bipush (-2), 2) by decide +kernel) (by decide) ?_
    refine X_icmp_ne (tgt := 33) (show decode cX9_throwFor 19 = .ok (.if_icmp .ne 14, 3) by decide +kernel) (by decide) ⟨fun c2 => ?_, fun c2 => ?_⟩
    · have w := w.1 c2
      refine X_iload_n (j := 0) (show decode cX9_throwFor 33 = .ok (.iload_n 0, 1) by decide +kernel) rfl rfl ?_
      refine X_bipush (v := (-4)) (show decode cX9_throwFor 34 = .ok (.bipush (-4), 2) by decide +kernel) (by decide) ?_
      refine X_icmp_ne (tgt := 50) (show decode cX9_throwFor 36 = .ok (.if_icmp .ne 14, 3) by decide +kernel) (by decide) ⟨fun c3 => ?_, fun c3 => ?_⟩
      · have w := w.1 c3
        refine X_iload_n (j := 0) (show decode cX9_throwFor 50 = .ok (.iload_n 0, 1) by decide +kernel) rfl rfl ?_
        refine X_bipush (v := (-5)) (show decode cX9_throwFor 51 = .ok (.bipush (-5), 2) by decide +kernel) (by decide) ?_
        refine X_icmp_ne (tgt := 67) (show decode cX9_throwFor 53 = .ok (.if_icmp .ne 14, 3) by decide +kernel) (by decide) ⟨fun c4 => ?_, fun c4 => ?_⟩
        · have w := w.1 c4
          exact X_throwSW tw_X9_324_385 (show decode cX9_throwFor 67 = .ok (.new 324, 3) by decide +kernel) (show decode cX9_throwFor 70 = .ok (.dup, 1) by decide +kernel) (show decode cX9_throwFor 71 = .ok (.ldc_w 385, 3) by decide +kernel) (show decode cX9_throwFor 74 = .ok (.invokespecial 328, 3) by decide +kernel) (show decode cX9_throwFor 77 = .ok (.athrow, 1) by decide +kernel) (fun x hx => absurd hx List.not_mem_nil) (by decide) (Nat.le_of_ble_eq_true rfl) (Nat.le_of_ble_eq_true rfl) (Nat.le_of_ble_eq_true rfl) w
        · have w := w.2 c4
          exact X_throwSW tw_X9_351_383 (show decode cX9_throwFor 56 = .ok (.new 351, 3) by decide +kernel) (show decode cX9_throwFor 59 = .ok (.dup, 1) by decide +kernel) (show decode cX9_throwFor 60 = .ok (.ldc_w 383, 3) by decide +kernel) (show decode cX9_throwFor 63 = .ok (.invokespecial 355, 3) by decide +kernel) (show decode cX9_throwFor 66 = .ok (.athrow, 1) by decide +kernel) (fun x hx => absurd hx List.not_mem_nil) (by decide) (Nat.le_of_ble_eq_true rfl) (Nat.le_of_ble_eq_true rfl) (Nat.le_of_ble_eq_true rfl) w
      · have w := w.2 c3
        exact X_throwSW tw_X9_131_381 (show decode cX9_throwFor 39 = .ok (.new 131, 3) by decide +kernel) (show decode cX9_throwFor 42 = .ok (.dup, 1) by decide +kernel) (show decode cX9_throwFor 43 = .ok (.ldc_w 381, 3) by decide +kernel) (show decode cX9_throwFor 46 = .ok (.invokespecial 135, 3) by decide +kernel) (show decode cX9_throwFor 49 = .ok (.athrow, 1) by decide +kernel) (fun x hx => absurd hx List.not_mem_nil) (by decide) (Nat.le_of_ble_eq_true rfl) (Nat.le_of_ble_eq_true rfl) (Nat.le_of_ble_eq_true rfl) w
    · have w := w.2 c2
      exact X_throwSW tw_X9_244_379 (show decode cX9_throwFor 22 = .ok (.new 244, 3) by decide +kernel) (show decode cX9_throwFor 25 = .ok (.dup, 1) by decide +kernel) (show decode cX9_throwFor 26 = .ok (.ldc_w 379, 3) by decide +kernel) (show decode cX9_throwFor 29 = .ok (.invokespecial 248, 3) by decide +kernel) (show decode cX9_throwFor 32 = .ok (.athrow, 1) by decide +kernel) (fun x hx => absurd hx List.not_mem_nil) (by decide) (Nat.le_of_ble_eq_true rfl) (Nat.le_of_ble_eq_true rfl) (Nat.le_of_ble_eq_true rfl) w
  · have w := w.2 c1
    exact X_throwSW tw_X9_313_377 (show decode cX9_throwFor 5 = .ok (.new 313, 3) by decide +kernel) (show decode cX9_throwFor 8 = .ok (.dup, 1) by decide +kernel) (show decode cX9_throwFor 9 = .ok (.ldc_w 377, 3) by decide +kernel) (show decode cX9_throwFor 12 = .ok (.invokespecial 317, 3) by decide +kernel) (show decode cX9_throwFor 15 = .ok (.athrow, 1) by decide +kernel) (fun x hx => absurd hx List.not_mem_nil) (by decide) (Nat.le_of_ble_eq_true rfl) (Nat.le_of_ble_eq_true rfl) (Nat.le_of_ble_eq_true rfl) w
set_option maxRecDepth 100000 in
set_option maxHeartbeats 4000000 in
theorem kX2_commit {a0 : Nat} {h : AH} {K : AH → Prop} (w : wX2_commit a0 h K) : Cn mX2_commit (cwd mX2_commit) 2 0 0 [.ref a0] h (KV K) T0 := by
  refine Cn_of (by decide +kernel) rfl (Nat.le_of_ble_eq_true rfl) ?_
  show X mX2_commit 2 (KV K) T0 0 0 0 [(0, .ref a0)] [] h
  unfold wX2_commit at w
  refine X_aload_n (j := 0) (show decode cX2_commit 0 = .ok (.aload_n 0, 1) by decide +kernel) rfl rfl ?_
  refine X_aload_n (j := 0) (show decode cX2_commit 1 = .ok (.aload_n 0, 1) by decide +kernel) rfl rfl ?_
  obtain ⟨s1, w⟩ := w
  refine X_getI fl_X2_17 (show decode cX2_commit 2 = .ok (.getfield 17, 3) by decide +kernel) s1 ?_
  refine X_iconst (v := 1) (show decode cX2_commit 5 = .ok (.iconst 1, 1) by decide +kernel) (by decide) ?_
  refine X_iadd (show decode cX2_commit 6 = .ok (.iadd, 1) by decide +kernel) ?_
  refine X_bipush (v := 9) (show decode cX2_commit 7 = .ok (.bipush 9, 2) by decide +kernel) (by decide) ?_
  refine X_irem (show decode cX2_commit 9 = .ok (.irem, 1) by decide +kernel) (by decide) ?_
  refine X_putI fp_X2_17 (show decode cX2_commit 10 = .ok (.putfield 17, 3) by decide +kernel) (fun z => nomatch z) s1 rfl rfl ?_
  have w := w _ rfl
  refine X_aload_n (j := 0) (show decode cX2_commit 13 = .ok (.aload_n 0, 1) by decide +kernel) rfl rfl ?_
  refine X_aload_n (j := 0) (show decode cX2_commit 14 = .ok (.aload_n 0, 1) by decide +kernel) rfl rfl ?_
  refine X_getI fl_X2_21 (show decode cX2_commit 15 = .ok (.getfield 21, 3) by decide +kernel) s1 ?_
  refine X_iconst (v := 1) (show decode cX2_commit 18 = .ok (.iconst 1, 1) by decide +kernel) (by decide) ?_
  refine X_iadd (show decode cX2_commit 19 = .ok (.iadd, 1) by decide +kernel) ?_
  refine X_bipush (v := 8) (show decode cX2_commit 20 = .ok (.bipush 8, 2) by decide +kernel) (by decide) ?_
  refine X_mmin (show decode cX2_commit 22 = .ok (.invokestatic 29, 3) by decide +kernel) gl_X2_29 gst_min gin_Math gco_min (by decide) (by decide) ?_
  refine X_putI fp_X2_21 (show decode cX2_commit 25 = .ok (.putfield 21, 3) by decide +kernel) (fun z => nomatch z) s1 rfl rfl ?_
  have w := w _ rfl
  exact X_vret ⟨(show decode cX2_commit 28 = .ok (.return_, 1) by decide +kernel), rfl⟩ ⟨rfl, w⟩
set_option maxRecDepth 100000 in
set_option maxHeartbeats 4000000 in
theorem kX9_settle_J8 {K : Int32 → AH → Prop} {T : String → AH → Prop}   (x0 : Nat) (x1 : Int32) (h : AH) (w : wX9_settle_J8 K T  x0 x1 h) : X mX9_settle 9 (KI K) T 0 0 8 [(0, .ref x0), (1, .int x1)] [] h := by
  unfold wX9_settle_J8 at w
  refine X_aload_n (j := 0) (show decode cX9_settle 8 = .ok (.aload_n 0, 1) by decide +kernel) rfl rfl ?_
  obtain ⟨s2, w⟩ := w
  refine X_getR fl_X9_25 (show decode cX9_settle 9 = .ok (.getfield 25, 3) by decide +kernel) s2 ?_
  obtain ⟨s5, w⟩ := w
  refine X_vV (rc' := 0) (rs' := 0) (as := []) mv_X9_374 (show decode cX9_settle 12 = .ok (.invokevirtual 374, 3) by decide +kernel) (by decide) (Nat.le_of_ble_eq_true rfl) (Nat.le_of_ble_eq_true rfl) rfl rfl (Nat.le_of_ble_eq_true rfl) (rcvD s5 (by decide) rfl) (kX2_commit w) (fun E h hk => hk.elim) (fun h3 w => ?_)
  refine X_iload_n (j := 1) (show decode cX9_settle 15 = .ok (.iload_n 1, 1) by decide +kernel) rfl rfl ?_
  exact X_iret ⟨(show decode cX9_settle 16 = .ok (.ireturn, 1) by decide +kernel), .int, rfl, rfl⟩ ⟨_, rfl, w⟩
set_option maxRecDepth 100000 in
set_option maxHeartbeats 4000000 in
theorem kX9_settle {a0 : Nat} {a1 : Int32} {h : AH} {K : Int32 → AH → Prop} {T : String → AH → Prop} (w : wX9_settle a0 a1 h K T) : Cn mX9_settle (cwd mX9_settle) 9 1 6 [.ref a0, .int a1] h (KI K) T := by
  refine Cn_of (by decide +kernel) rfl (Nat.le_of_ble_eq_true rfl) ?_
  show X mX9_settle 9 (KI K) T 1 6 0 [(0, .ref a0), (1, .int a1)] [] h
  unfold wX9_settle at w
  refine X_iload_n (j := 1) (show decode cX9_settle 0 = .ok (.iload_n 1, 1) by decide +kernel) rfl rfl ?_
  refine X_if_ge (tgt := 8) (show decode cX9_settle 1 = .ok (.ifCond .ge 7, 3) by decide +kernel) (by decide) ⟨fun c1 => ?_, fun c1 => ?_⟩
  · have w := w.1 c1
    refine X_room (rc' := 0) (rs' := 0) (Nat.le_of_ble_eq_true rfl) (Nat.le_of_ble_eq_true rfl) ?_
    exact kX9_settle_J8  _ _ _ w
  · have w := w.2 c1
    refine X_iload_n (j := 1) (show decode cX9_settle 4 = .ok (.iload_n 1, 1) by decide +kernel) rfl rfl ?_
    refine X_sV (rc' := 0) (rs' := 0) (as := [.int _]) ms_X9_371 (show decode cX9_settle 5 = .ok (.invokestatic 371, 3) by decide +kernel) (by decide) (Nat.le_of_ble_eq_true rfl) (Nat.le_of_ble_eq_true rfl) rfl rfl (Nat.le_of_ble_eq_true rfl) (kX9_throwFor w) (fun E h hk => XT_out hk (fun x hx => absurd hx List.not_mem_nil)) (fun h6 w => ?_)
    exact kX9_settle_J8  _ _ _ w
