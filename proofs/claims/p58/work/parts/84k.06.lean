set_option maxRecDepth 100000 in
set_option maxHeartbeats 4000000 in
theorem kJ4_append_cf468 {a0 : Nat} {a1 : Int32} {h : AH} {K : Nat → AH → Prop} (w : wJ4_append_cf468 a0 a1 h K) : Cn mJ4_append_cf468 (cwd mJ4_append_cf468) 6 1 256 [.ref a0, .int a1] h (KR K) T0 := by
  refine Cn_of (by decide +kernel) rfl (Nat.le_of_ble_eq_true rfl) ?_
  show X mJ4_append_cf468 6 (KR K) T0 1 256 0 [(0, .ref a0), (1, .int a1)] [] h
  unfold wJ4_append_cf468 at w
  refine X_aload_n (j := 0) (show decode cJ4_append_cf468 0 = .ok (.aload_n 0, 1) by decide +kernel) rfl rfl ?_
  refine X_iload_n (j := 1) (show decode cJ4_append_cf468 1 = .ok (.iload_n 1, 1) by decide +kernel) rfl rfl ?_
  obtain ⟨s3, w⟩ := w
  refine X_callP (rc' := 0) (rs' := 0) (as := [.int _]) mp_J4_50 (show decode cJ4_append_cf468 2 = .ok (.invokespecial 50, 3) by decide +kernel) (by decide) (Nat.le_of_ble_eq_true rfl) (Nat.le_of_ble_eq_true rfl) rfl rfl (Nat.le_of_ble_eq_true rfl) s3 (kJ5_append_3fe6f w) (fun v9 h1 w => ?_)
  obtain ⟨r2, rfl, w⟩ := w
  refine X_pop (show decode cJ4_append_cf468 5 = .ok (.pop, 1) by decide +kernel) rfl ?_
  refine X_aload_n (j := 0) (show decode cJ4_append_cf468 6 = .ok (.aload_n 0, 1) by decide +kernel) rfl rfl ?_
  exact X_aret ⟨(show decode cJ4_append_cf468 7 = .ok (.areturn, 1) by decide +kernel), Or.inl ⟨_, rfl⟩⟩ ⟨_, rfl, w⟩
set_option maxRecDepth 100000 in
set_option maxHeartbeats 4000000 in
theorem kX9_writeRestOfRoute_L7 {K : AH → Prop}    : ∀ (n : Nat) (x0 : Nat) (x1 : Nat) (x2 : Int32) (x3 : Int32) (h : AH), wX9_writeRestOfRoute_L7 K   n x0 x1 x2 x3 h → X mX9_writeRestOfRoute 7 (KV K) T0 (n * 2 + 2) (n * 512 + 512) 7 [(0, .ref x0), (1, .ref x1), (2, .int x2), (3, .int x3)] [] h := by
  intro n
  induction n with
  | zero => intro _ _ _ _ _ w; exact w.elim
  | succ n ih =>
    intro x0 x1 x2 x3 h w
    rw [wX9_writeRestOfRoute_L7] at w
    refine X_room (rc' := (n * 2 + 4)) (rs' := (n * 512 + 1024)) (by omega) (by omega) ?_
    refine X_iload_n (j := 3) (show decode cX9_writeRestOfRoute 7 = .ok (.iload_n 3, 1) by decide +kernel) rfl rfl ?_
    refine X_bipush (v := (nI 12)) (show decode cX9_writeRestOfRoute 8 = .ok (.bipush 12, 2) by decide +kernel) (by decide) ?_
    refine X_icmp_ge (tgt := 53) (show decode cX9_writeRestOfRoute 10 = .ok (.if_icmp .ge 43, 3) by decide +kernel) (by decide) ⟨fun c2 => ?_, fun c2 => ?_⟩
    · have w := w.1 c2
      exact X_vret ⟨(show decode cX9_writeRestOfRoute 53 = .ok (.return_, 1) by decide +kernel), rfl⟩ ⟨rfl, w⟩
    · have w := w.2 c2
      refine X_iload_n (j := 2) (show decode cX9_writeRestOfRoute 13 = .ok (.iload_n 2, 1) by decide +kernel) rfl rfl ?_
      refine X_aload_n (j := 1) (show decode cX9_writeRestOfRoute 14 = .ok (.aload_n 1, 1) by decide +kernel) rfl rfl ?_
      obtain ⟨s3, w⟩ := w
      refine X_getI fl_X9_188 (show decode cX9_writeRestOfRoute 15 = .ok (.getfield 188, 3) by decide +kernel) s3 ?_
      refine X_icmp_eq (tgt := 53) (show decode cX9_writeRestOfRoute 18 = .ok (.if_icmp .eq 35, 3) by decide +kernel) (by decide) ⟨fun c4 => ?_, fun c4 => ?_⟩
      · have w := w.1 c4
        exact X_vret ⟨(show decode cX9_writeRestOfRoute 53 = .ok (.return_, 1) by decide +kernel), rfl⟩ ⟨rfl, w⟩
      · have w := w.2 c4
        refine X_aload_n (j := 0) (show decode cX9_writeRestOfRoute 21 = .ok (.aload_n 0, 1) by decide +kernel) rfl rfl ?_
        obtain ⟨s5, w⟩ := w
        refine X_getR fl_X9_12 (show decode cX9_writeRestOfRoute 22 = .ok (.getfield 12, 3) by decide +kernel) s5 ?_
        obtain ⟨s6, w⟩ := w
        refine X_getR fl_X9_72 (show decode cX9_writeRestOfRoute 25 = .ok (.getfield 72, 3) by decide +kernel) s6 ?_
        refine X_iload_n (j := 2) (show decode cX9_writeRestOfRoute 28 = .ok (.iload_n 2, 1) by decide +kernel) rfl rfl ?_
        obtain ⟨s16, w⟩ := w
        refine X_vI (rc' := (n * 2 + 4)) (rs' := (n * 512 + 1024)) (as := [.int _]) mv_X9_399 (show decode cX9_writeRestOfRoute 29 = .ok (.invokevirtual 399, 3) by decide +kernel) (by decide) (by omega) (by omega) rfl rfl (Nat.le_of_ble_eq_true rfl) (rcvD s16 (by decide) rfl) (kX4_exitOf w) (fun E h hk => hk.elim) (fun r8 h7 w => ?_)
        refine X_istore_n (ls' := [(0, .ref _), (1, .ref _), (2, .int _), (3, .int _)]) (show decode cX9_writeRestOfRoute 32 = .ok (.istore_n 2, 1) by decide +kernel) rfl (by decide) rfl ?_
        refine X_aload_n (j := 0) (show decode cX9_writeRestOfRoute 33 = .ok (.aload_n 0, 1) by decide +kernel) rfl rfl ?_
        obtain ⟨s9, w⟩ := w
        refine X_getR fl_X9_46 (show decode cX9_writeRestOfRoute 34 = .ok (.getfield 46, 3) by decide +kernel) s9 ?_
        refine X_bipush (v := (nI 62)) (show decode cX9_writeRestOfRoute 37 = .ok (.bipush 62, 2) by decide +kernel) (by decide) ?_
        obtain ⟨s15, w⟩ := w
        refine X_vR (rc' := (n * 2 + 3)) (rs' := (n * 512 + 768)) (as := [.int _]) mv_X9_299 (show decode cX9_writeRestOfRoute 39 = .ok (.invokevirtual 299, 3) by decide +kernel) (by decide) (by omega) (by omega) rfl rfl (Nat.le_of_ble_eq_true rfl) (rcvD s15 (by decide) rfl) (kJ4_append_cf468 w) (fun E h hk => hk.elim) (fun r11 h10 w => ?_)
        refine X_iload_n (j := 2) (show decode cX9_writeRestOfRoute 42 = .ok (.iload_n 2, 1) by decide +kernel) rfl rfl ?_
        obtain ⟨s14, w⟩ := w
        refine X_vR (rc' := (n * 2 + 2)) (rs' := (n * 512 + 512)) (as := [.int _]) mv_X9_303 (show decode cX9_writeRestOfRoute 43 = .ok (.invokevirtual 303, 3) by decide +kernel) (by decide) (by omega) (by omega) rfl rfl (Nat.le_of_ble_eq_true rfl) (rcvD s14 (by decide) rfl) (kJ4_append_bf812 w) (fun E h hk => hk.elim) (fun r13 h12 w => ?_)
        refine X_pop (show decode cX9_writeRestOfRoute 46 = .ok (.pop, 1) by decide +kernel) rfl ?_
        refine X_iinc (j := 3) (v := _ + (nI 1)) (ls' := [(0, .ref _), (1, .ref _), (2, .int _), (3, .int _)]) (show decode cX9_writeRestOfRoute 47 = .ok (.iinc 3 1, 3) by decide +kernel) rfl rfl (Nat.le_of_ble_eq_true rfl) rfl ?_
        refine X_goto (tgt := 7) (show decode cX9_writeRestOfRoute 50 = .ok (.goto (-43), 3) by decide +kernel) (by decide) ?_
        exact ih _ _ _ _ _ w
set_option maxRecDepth 100000 in
set_option maxHeartbeats 4000000 in
theorem kX9_writeRestOfRoute {a0 : Nat} {a1 : Nat} {h : AH} {K : AH → Prop} (w : wX9_writeRestOfRoute a0 a1 h K) : Cn mX9_writeRestOfRoute (cwd mX9_writeRestOfRoute) 7 28 7168 [.ref a0, .ref a1] h (KV K) T0 := by
  refine Cn_of (by decide +kernel) rfl (Nat.le_of_ble_eq_true rfl) ?_
  show X mX9_writeRestOfRoute 7 (KV K) T0 28 7168 0 [(0, .ref a0), (1, .ref a1)] [] h
  unfold wX9_writeRestOfRoute at w
  refine X_aload_n (j := 1) (show decode cX9_writeRestOfRoute 0 = .ok (.aload_n 1, 1) by decide +kernel) rfl rfl ?_
  obtain ⟨s1, w⟩ := w
  refine X_getI fl_X9_183 (show decode cX9_writeRestOfRoute 1 = .ok (.getfield 183, 3) by decide +kernel) s1 ?_
  refine X_istore_n (ls' := [(0, .ref _), (1, .ref _), (2, .int _)]) (show decode cX9_writeRestOfRoute 4 = .ok (.istore_n 2, 1) by decide +kernel) rfl (by decide) rfl ?_
  refine X_iconst (v := (nI 0)) (show decode cX9_writeRestOfRoute 5 = .ok (.iconst 0, 1) by decide +kernel) (by decide) ?_
  refine X_istore_n (ls' := [(0, .ref _), (1, .ref _), (2, .int _), (3, .int _)]) (show decode cX9_writeRestOfRoute 6 = .ok (.istore_n 3, 1) by decide +kernel) rfl (by decide) rfl ?_
  obtain ⟨n17, hbn17, w⟩ := w
  refine X_room (rc' := n17 * 2 + 2) (rs' := n17 * 512 + 512) (by omega) (by omega) ?_
  exact kX9_writeRestOfRoute_L7  n17 _ _ _ _ _ w
set_option maxRecDepth 100000 in
set_option maxHeartbeats 4000000 in
theorem kJ5_length_8abf5 {a0 : Nat} {h : AH} {K : Int32 → AH → Prop} (w : wJ5_length_8abf5 a0 h K) : Cn mJ5_length_8abf5 (cwd mJ5_length_8abf5) 1 0 0 [.ref a0] h (KI K) T0 := by
  refine Cn_of (by decide +kernel) rfl (Nat.le_of_ble_eq_true rfl) ?_
  show X mJ5_length_8abf5 1 (KI K) T0 0 0 0 [(0, .ref a0)] [] h
  unfold wJ5_length_8abf5 at w
  refine X_aload_n (j := 0) (show decode cJ5_length_8abf5 0 = .ok (.aload_n 0, 1) by decide +kernel) rfl rfl ?_
  obtain ⟨s1, w⟩ := w
  refine X_getI fl_J5_79 (show decode cJ5_length_8abf5 1 = .ok (.getfield 79, 3) by decide +kernel) s1 ?_
  exact X_iret ⟨(show decode cJ5_length_8abf5 4 = .ok (.ireturn, 1) by decide +kernel), .int, rfl, rfl⟩ ⟨_, rfl, w⟩
set_option maxRecDepth 100000 in
set_option maxHeartbeats 4000000 in
theorem kJ4_length_8abf5 {a0 : Nat} {h : AH} {K : Int32 → AH → Prop} (w : wJ4_length_8abf5 a0 h K) : Cn mJ4_length_8abf5 (cwd mJ4_length_8abf5) 2 0 0 [.ref a0] h (KI K) T0 := by
  refine Cn_of (by decide +kernel) rfl (Nat.le_of_ble_eq_true rfl) ?_
  show X mJ4_length_8abf5 2 (KI K) T0 0 0 0 [(0, .ref a0)] [] h
  unfold wJ4_length_8abf5 at w
  refine X_aload_n (j := 0) (show decode cJ4_length_8abf5 0 = .ok (.aload_n 0, 1) by decide +kernel) rfl rfl ?_
  obtain ⟨s3, w⟩ := w
  refine X_callP (rc' := 0) (rs' := 0) (as := []) mp_J4_343 (show decode cJ4_length_8abf5 1 = .ok (.invokespecial 343, 3) by decide +kernel) (by decide) (Nat.le_of_ble_eq_true rfl) (Nat.le_of_ble_eq_true rfl) rfl rfl (Nat.le_of_ble_eq_true rfl) s3 (kJ5_length_8abf5 w) (fun v9 h1 w => ?_)
  obtain ⟨r2, rfl, w⟩ := w
  exact X_iret ⟨(show decode cJ4_length_8abf5 4 = .ok (.ireturn, 1) by decide +kernel), .int, rfl, rfl⟩ ⟨_, rfl, w⟩
set_option maxRecDepth 100000 in
set_option maxHeartbeats 4000000 in
theorem kX9_writeTrain_J70 {K : Int32 → AH → Prop} {T : String → AH → Prop}   (x0 : Nat) (h : AH) (w : wX9_writeTrain_J70 K T  x0 h) : X mX9_writeTrain 10 (KI K) T 0 0 70 [(0, .ref x0)] [] h := by
  unfold wX9_writeTrain_J70 at w
  refine X_aload_n (j := 0) (show decode cX9_writeTrain 70 = .ok (.aload_n 0, 1) by decide +kernel) rfl rfl ?_
  obtain ⟨s24, w⟩ := w
  refine X_getR fl_X9_46 (show decode cX9_writeTrain 71 = .ok (.getfield 46, 3) by decide +kernel) s24 ?_
  obtain ⟨s27, w⟩ := w
  refine X_vI (rc' := 0) (rs' := 0) (as := []) mv_X9_306 (show decode cX9_writeTrain 74 = .ok (.invokevirtual 306, 3) by decide +kernel) (by decide) (Nat.le_of_ble_eq_true rfl) (Nat.le_of_ble_eq_true rfl) rfl rfl (Nat.le_of_ble_eq_true rfl) (rcvD s27 (by decide) rfl) (kJ4_length_8abf5 w) (fun E h hk => hk.elim) (fun r26 h25 w => ?_)
  exact X_iret ⟨(show decode cX9_writeTrain 77 = .ok (.ireturn, 1) by decide +kernel), .int, rfl, rfl⟩ ⟨_, rfl, w⟩
set_option maxRecDepth 100000 in
set_option maxHeartbeats 4000000 in
theorem kX9_writeTrain {a0 : Nat} {a1 : Int32} {h : AH} {K : Int32 → AH → Prop} {T : String → AH → Prop} (w : wX9_writeTrain a0 a1 h K T) : Cn mX9_writeTrain (cwd mX9_writeTrain) 10 33 8198 [.ref a0, .int a1] h (KI K) T := by
  refine Cn_of (by decide +kernel) rfl (Nat.le_of_ble_eq_true rfl) ?_
  show X mX9_writeTrain 10 (KI K) T 33 8198 0 [(0, .ref a0), (1, .int a1)] [] h
  unfold wX9_writeTrain at w
  refine X_aload_n (j := 0) (show decode cX9_writeTrain 0 = .ok (.aload_n 0, 1) by decide +kernel) rfl rfl ?_
  refine X_iload_n (j := 1) (show decode cX9_writeTrain 1 = .ok (.iload_n 1, 1) by decide +kernel) rfl rfl ?_
  obtain ⟨s38, w⟩ := w
  refine X_vR (rc' := 32) (rs' := 8192) (as := [.int _]) mv_X9_180 (show decode cX9_writeTrain 2 = .ok (.invokevirtual 180, 3) by decide +kernel) (by decide) (Nat.le_of_ble_eq_true rfl) (Nat.le_of_ble_eq_true rfl) rfl rfl (Nat.le_of_ble_eq_true rfl) (rcvD s38 (by decide) rfl) (kX9_presentTrain w) (fun E h hk => XT_out hk (fun x hx => absurd hx List.not_mem_nil)) (fun r2 h1 w => ?_)
  refine X_astore_n (ls' := [(0, .ref _), (1, .int _), (2, .ref _)]) (show decode cX9_writeTrain 5 = .ok (.astore_n 2, 1) by decide +kernel) rfl (by decide) rfl ?_
  refine X_aload_n (j := 0) (show decode cX9_writeTrain 6 = .ok (.aload_n 0, 1) by decide +kernel) rfl rfl ?_
  obtain ⟨s3, w⟩ := w
  refine X_getR fl_X9_46 (show decode cX9_writeTrain 7 = .ok (.getfield 46, 3) by decide +kernel) s3 ?_
  refine X_iconst (v := (nI 0)) (show decode cX9_writeTrain 10 = .ok (.iconst 0, 1) by decide +kernel) (by decide) ?_
  obtain ⟨s37, w⟩ := w
  refine X_vV (rc' := 31) (rs' := 7936) (as := [.int _]) mv_X9_296 (show decode cX9_writeTrain 11 = .ok (.invokevirtual 296, 3) by decide +kernel) (by decide) (Nat.le_of_ble_eq_true rfl) (Nat.le_of_ble_eq_true rfl) rfl rfl (Nat.le_of_ble_eq_true rfl) (rcvD s37 (by decide) rfl) (kJ4_setLength_d00df w) (fun E h hk => hk.elim) (fun h4 w => ?_)
  refine X_aload_n (j := 0) (show decode cX9_writeTrain 14 = .ok (.aload_n 0, 1) by decide +kernel) rfl rfl ?_
  obtain ⟨s6, w⟩ := w
  refine X_getR fl_X9_46 (show decode cX9_writeTrain 15 = .ok (.getfield 46, 3) by decide +kernel) s6 ?_
  refine X_aload_n (j := 2) (show decode cX9_writeTrain 18 = .ok (.aload_n 2, 1) by decide +kernel) rfl rfl ?_
  obtain ⟨s7, w⟩ := w
  refine X_getI fl_X9_212 (show decode cX9_writeTrain 19 = .ok (.getfield 212, 3) by decide +kernel) s7 ?_
  obtain ⟨s36, w⟩ := w
  refine X_vR (rc' := 30) (rs' := 7680) (as := [.int _]) mv_X9_303 (show decode cX9_writeTrain 22 = .ok (.invokevirtual 303, 3) by decide +kernel) (by decide) (Nat.le_of_ble_eq_true rfl) (Nat.le_of_ble_eq_true rfl) rfl rfl (Nat.le_of_ble_eq_true rfl) (rcvD s36 (by decide) rfl) (kJ4_append_bf812 w) (fun E h hk => hk.elim) (fun r9 h8 w => ?_)
  refine X_bipush (v := (nI 64)) (show decode cX9_writeTrain 25 = .ok (.bipush 64, 2) by decide +kernel) (by decide) ?_
  obtain ⟨s35, w⟩ := w
  refine X_vR (rc' := 29) (rs' := 7424) (as := [.int _]) mv_X9_299 (show decode cX9_writeTrain 27 = .ok (.invokevirtual 299, 3) by decide +kernel) (by decide) (Nat.le_of_ble_eq_true rfl) (Nat.le_of_ble_eq_true rfl) rfl rfl (Nat.le_of_ble_eq_true rfl) (rcvD s35 (by decide) rfl) (kJ4_append_cf468 w) (fun E h hk => hk.elim) (fun r11 h10 w => ?_)
  refine X_aload_n (j := 2) (show decode cX9_writeTrain 30 = .ok (.aload_n 2, 1) by decide +kernel) rfl rfl ?_
  obtain ⟨s12, w⟩ := w
  refine X_getI fl_X9_183 (show decode cX9_writeTrain 31 = .ok (.getfield 183, 3) by decide +kernel) s12 ?_
  obtain ⟨s34, w⟩ := w
  refine X_vR (rc' := 28) (rs' := 7168) (as := [.int _]) mv_X9_303 (show decode cX9_writeTrain 34 = .ok (.invokevirtual 303, 3) by decide +kernel) (by decide) (Nat.le_of_ble_eq_true rfl) (Nat.le_of_ble_eq_true rfl) rfl rfl (Nat.le_of_ble_eq_true rfl) (rcvD s34 (by decide) rfl) (kJ4_append_bf812 w) (fun E h hk => hk.elim) (fun r14 h13 w => ?_)
  refine X_pop (show decode cX9_writeTrain 37 = .ok (.pop, 1) by decide +kernel) rfl ?_
  refine X_aload_n (j := 2) (show decode cX9_writeTrain 38 = .ok (.aload_n 2, 1) by decide +kernel) rfl rfl ?_
  obtain ⟨s33, w⟩ := w
  refine X_vI (rc' := 28) (rs' := 7168) (as := []) mv_X9_191 (show decode cX9_writeTrain 39 = .ok (.invokevirtual 191, 3) by decide +kernel) (by decide) (Nat.le_of_ble_eq_true rfl) (Nat.le_of_ble_eq_true rfl) rfl rfl (Nat.le_of_ble_eq_true rfl) (rcvD s33 (by decide) rfl) (kX8_isRouted w) (fun E h hk => hk.elim) (fun r16 h15 w => ?_)
  refine X_if_eq (tgt := 53) (show decode cX9_writeTrain 42 = .ok (.ifCond .eq 11, 3) by decide +kernel) (by decide) ⟨fun c17 => ?_, fun c17 => ?_⟩
  · have w := w.1 c17
    refine X_aload_n (j := 0) (show decode cX9_writeTrain 53 = .ok (.aload_n 0, 1) by decide +kernel) rfl rfl ?_
    obtain ⟨s18, w⟩ := w
    refine X_getR fl_X9_46 (show decode cX9_writeTrain 54 = .ok (.getfield 46, 3) by decide +kernel) s18 ?_
    refine X_bipush (v := (nI 63)) (show decode cX9_writeTrain 57 = .ok (.bipush 63, 2) by decide +kernel) (by decide) ?_
    obtain ⟨s29, w⟩ := w
    refine X_vR (rc' := 27) (rs' := 6912) (as := [.int _]) mv_X9_299 (show decode cX9_writeTrain 59 = .ok (.invokevirtual 299, 3) by decide +kernel) (by decide) (Nat.le_of_ble_eq_true rfl) (Nat.le_of_ble_eq_true rfl) rfl rfl (Nat.le_of_ble_eq_true rfl) (rcvD s29 (by decide) rfl) (kJ4_append_cf468 w) (fun E h hk => hk.elim) (fun r20 h19 w => ?_)
    refine X_aload_n (j := 2) (show decode cX9_writeTrain 62 = .ok (.aload_n 2, 1) by decide +kernel) rfl rfl ?_
    obtain ⟨s21, w⟩ := w
    refine X_getI fl_X9_188 (show decode cX9_writeTrain 63 = .ok (.getfield 188, 3) by decide +kernel) s21 ?_
    obtain ⟨s28, w⟩ := w
    refine X_vR (rc' := 26) (rs' := 6656) (as := [.int _]) mv_X9_303 (show decode cX9_writeTrain 66 = .ok (.invokevirtual 303, 3) by decide +kernel) (by decide) (Nat.le_of_ble_eq_true rfl) (Nat.le_of_ble_eq_true rfl) rfl rfl (Nat.le_of_ble_eq_true rfl) (rcvD s28 (by decide) rfl) (kJ4_append_bf812 w) (fun E h hk => hk.elim) (fun r23 h22 w => ?_)
    refine X_pop (show decode cX9_writeTrain 69 = .ok (.pop, 1) by decide +kernel) rfl ?_
    refine X_room (rc' := 0) (rs' := 0) (Nat.le_of_ble_eq_true rfl) (Nat.le_of_ble_eq_true rfl) ?_
    refine X_pick (ls' := [(0, .ref _)]) [0] rfl ?_
    exact kX9_writeTrain_J70  _ _ w
  · have w := w.2 c17
    refine X_aload_n (j := 0) (show decode cX9_writeTrain 45 = .ok (.aload_n 0, 1) by decide +kernel) rfl rfl ?_
    refine X_aload_n (j := 2) (show decode cX9_writeTrain 46 = .ok (.aload_n 2, 1) by decide +kernel) rfl rfl ?_
    obtain ⟨s32, w⟩ := w
    refine X_vV (rc' := 0) (rs' := 0) (as := [.ref _]) mv_X9_309 (show decode cX9_writeTrain 47 = .ok (.invokevirtual 309, 3) by decide +kernel) (by decide) (Nat.le_of_ble_eq_true rfl) (Nat.le_of_ble_eq_true rfl) rfl rfl (Nat.le_of_ble_eq_true rfl) (rcvD s32 (by decide) rfl) (kX9_writeRestOfRoute w) (fun E h hk => hk.elim) (fun h30 w => ?_)
    refine X_goto (tgt := 70) (show decode cX9_writeTrain 50 = .ok (.goto 20, 3) by decide +kernel) (by decide) ?_
    refine X_pick (ls' := [(0, .ref _)]) [0] rfl ?_
    exact kX9_writeTrain_J70  _ _ w
set_option maxRecDepth 100000 in
set_option maxHeartbeats 4000000 in
theorem kX5_append {a0 : Nat} {a1 : Int32} {h : AH} {K : Int32 → AH → Prop} (w : wX5_append a0 a1 h K) : Cn mX5_append (cwd mX5_append) 1 0 0 [.ref a0, .int a1] h (KI K) T0 := by
  refine Cn_of (by decide +kernel) rfl (Nat.le_of_ble_eq_true rfl) ?_
  show X mX5_append 1 (KI K) T0 0 0 0 [(0, .ref a0), (1, .int a1)] [] h
  unfold wX5_append at w
  refine X_aload_n (j := 0) (show decode cX5_append 0 = .ok (.aload_n 0, 1) by decide +kernel) rfl rfl ?_
  obtain ⟨s1, w⟩ := w
  refine X_getI fl_X5_15 (show decode cX5_append 1 = .ok (.getfield 15, 3) by decide +kernel) s1 ?_
  refine X_bipush (v := (nI 60)) (show decode cX5_append 4 = .ok (.bipush 60, 2) by decide +kernel) (by decide) ?_
  refine X_icmp_lt (tgt := 11) (show decode cX5_append 6 = .ok (.if_icmp .lt 5, 3) by decide +kernel) (by decide) ⟨fun c2 => ?_, fun c2 => ?_⟩
  · have w := w.1 c2
    refine X_aload_n (j := 0) (show decode cX5_append 11 = .ok (.aload_n 0, 1) by decide +kernel) rfl rfl ?_
    refine X_getR fl_X5_9 (show decode cX5_append 12 = .ok (.getfield 9, 3) by decide +kernel) s1 ?_
    refine X_aload_n (j := 0) (show decode cX5_append 15 = .ok (.aload_n 0, 1) by decide +kernel) rfl rfl ?_
    refine X_getI fl_X5_15 (show decode cX5_append 16 = .ok (.getfield 15, 3) by decide +kernel) s1 ?_
    refine X_iload_n (j := 1) (show decode cX5_append 19 = .ok (.iload_n 1, 1) by decide +kernel) rfl rfl ?_
    obtain ⟨s3, w⟩ := w
    obtain ⟨s4, w⟩ := w
    obtain ⟨s5, w⟩ := w
    refine X_cast (show decode cX5_append 20 = .ok (.castore, 1) by decide +kernel) (isA_eq s3) s4 s5 ?_
    have w := w _ rfl
    refine X_aload_n (j := 0) (show decode cX5_append 21 = .ok (.aload_n 0, 1) by decide +kernel) rfl rfl ?_
    refine X_dup (show decode cX5_append 22 = .ok (.dup, 1) by decide +kernel) rfl ?_
    refine X_getI fl_X5_15 (show decode cX5_append 23 = .ok (.getfield 15, 3) by decide +kernel) s1 ?_
    refine X_iconst (v := (nI 1)) (show decode cX5_append 26 = .ok (.iconst 1, 1) by decide +kernel) (by decide) ?_
    refine X_iadd (show decode cX5_append 27 = .ok (.iadd, 1) by decide +kernel) ?_
    refine X_putI fp_X5_15 (show decode cX5_append 28 = .ok (.putfield 15, 3) by decide +kernel) (fun z => nomatch z) s1 rfl rfl ?_
    have w := w _ rfl
    refine X_iconst (v := (nI 1)) (show decode cX5_append 31 = .ok (.iconst 1, 1) by decide +kernel) (by decide) ?_
    exact X_iret ⟨(show decode cX5_append 32 = .ok (.ireturn, 1) by decide +kernel), .boolean, rfl, (by decide)⟩ ⟨_, rfl, w⟩
  · have w := w.2 c2
    refine X_iconst (v := (nI 0)) (show decode cX5_append 9 = .ok (.iconst 0, 1) by decide +kernel) (by decide) ?_
    exact X_iret ⟨(show decode cX5_append 10 = .ok (.ireturn, 1) by decide +kernel), .boolean, rfl, (by decide)⟩ ⟨_, rfl, w⟩
set_option maxRecDepth 100000 in
set_option maxHeartbeats 4000000 in
theorem kX9_type {a0 : Nat} {a1 : Int32} {h : AH} {K : Int32 → AH → Prop} {T : String → AH → Prop} (w : wX9_type a0 a1 h K T) : Cn mX9_type (cwd mX9_type) 8 1 6 [.ref a0, .int a1] h (KI K) T := by
  refine Cn_of (by decide +kernel) rfl (Nat.le_of_ble_eq_true rfl) ?_
  show X mX9_type 8 (KI K) T 1 6 0 [(0, .ref a0), (1, .int a1)] [] h
  unfold wX9_type at w
  refine X_aload_n (j := 0) (show decode cX9_type 0 = .ok (.aload_n 0, 1) by decide +kernel) rfl rfl ?_
  obtain ⟨s1, w⟩ := w
  refine X_getR fl_X9_39 (show decode cX9_type 1 = .ok (.getfield 39, 3) by decide +kernel) s1 ?_
  refine X_iload_n (j := 1) (show decode cX9_type 4 = .ok (.iload_n 1, 1) by decide +kernel) rfl rfl ?_
  obtain ⟨s7, w⟩ := w
  refine X_vI (rc' := 1) (rs' := 6) (as := [.int _]) mv_X9_321 (show decode cX9_type 5 = .ok (.invokevirtual 321, 3) by decide +kernel) (by decide) (Nat.le_of_ble_eq_true rfl) (Nat.le_of_ble_eq_true rfl) rfl rfl (Nat.le_of_ble_eq_true rfl) (rcvD s7 (by decide) rfl) (kX5_append w) (fun E h hk => hk.elim) (fun r3 h2 w => ?_)
  refine X_if_ne (tgt := 22) (show decode cX9_type 8 = .ok (.ifCond .ne 14, 3) by decide +kernel) (by decide) ⟨fun c4 => ?_, fun c4 => ?_⟩
  · have w := w.1 c4
    refine X_aload_n (j := 0) (show decode cX9_type 22 = .ok (.aload_n 0, 1) by decide +kernel) rfl rfl ?_
    obtain ⟨s5, w⟩ := w
    refine X_getR fl_X9_39 (show decode cX9_type 23 = .ok (.getfield 39, 3) by decide +kernel) s5 ?_
    obtain ⟨s6, w⟩ := w
    refine X_getI fl_X9_329 (show decode cX9_type 26 = .ok (.getfield 329, 3) by decide +kernel) s6 ?_
    exact X_iret ⟨(show decode cX9_type 29 = .ok (.ireturn, 1) by decide +kernel), .int, rfl, rfl⟩ ⟨_, rfl, w⟩
  · have w := w.2 c4
    exact X_throwSW tw_X9_324_326 (show decode cX9_type 11 = .ok (.new 324, 3) by decide +kernel) (show decode cX9_type 14 = .ok (.dup, 1) by decide +kernel) (show decode cX9_type 15 = .ok (.ldc_w 326, 3) by decide +kernel) (show decode cX9_type 18 = .ok (.invokespecial 328, 3) by decide +kernel) (show decode cX9_type 21 = .ok (.athrow, 1) by decide +kernel) (fun x hx => absurd hx List.not_mem_nil) (by decide) (Nat.le_of_ble_eq_true rfl) (Nat.le_of_ble_eq_true rfl) (Nat.le_of_ble_eq_true rfl) w
set_option maxRecDepth 100000 in
set_option maxHeartbeats 4000000 in
theorem kJ0_coder_7d493 {a0 : Nat} {h : AH} {K : Int32 → AH → Prop} (w : wJ0_coder_7d493 a0 h K) : Cn mJ0_coder_7d493 (cwd mJ0_coder_7d493) 1 0 0 [.ref a0] h (KI K) T0 := by
  refine Cn_of (by decide +kernel) rfl (Nat.le_of_ble_eq_true rfl) ?_
  show X mJ0_coder_7d493 1 (KI K) T0 0 0 0 [(0, .ref a0)] [] h
  unfold wJ0_coder_7d493 at w
  refine X_getstI (j := 3) rfl gz_J0_38 (show decode cJ0_coder_7d493 0 = .ok (.getstatic 38, 3) by decide +kernel) ?_
  refine X_if_eq (tgt := 13) (show decode cJ0_coder_7d493 3 = .ok (.ifCond .eq 10, 3) by decide +kernel) (by decide) ⟨fun c1 => ?_, fun c1 => ?_⟩
  · have w := w.1 c1
    refine X_iconst (v := (nI 1)) (show decode cJ0_coder_7d493 13 = .ok (.iconst 1, 1) by decide +kernel) (by decide) ?_
    exact X_iret ⟨(show decode cJ0_coder_7d493 14 = .ok (.ireturn, 1) by decide +kernel), .byte, rfl, (by decide)⟩ ⟨_, rfl, w⟩
  · have w := w.2 c1
    refine X_aload_n (j := 0) (show decode cJ0_coder_7d493 6 = .ok (.aload_n 0, 1) by decide +kernel) rfl rfl ?_
    obtain ⟨s2, w⟩ := w
    obtain ⟨s3, w⟩ := w
    refine X_getS (j := 1) (kd := 20) (c := 0) (show decode cJ0_coder_7d493 7 = .ok (.getfield 15, 3) by decide +kernel) (by decide) rfl rfl (Or.inl (gw_of (List.mem_of_getElem? (i := 1173) (by decide +kernel)) (by decide +kernel))) s2 s3 ?_
    show X _ _ _ _ _ _ _ _ (.int (mI _ _ 1) :: _) _
    refine X_goto (tgt := 14) (show decode cJ0_coder_7d493 10 = .ok (.goto 4, 3) by decide +kernel) (by decide) ?_
    obtain ⟨s4, w⟩ := w
    exact X_iret ⟨(show decode cJ0_coder_7d493 14 = .ok (.ireturn, 1) by decide +kernel), .byte, rfl, s4⟩ ⟨_, rfl, w⟩
set_option maxRecDepth 100000 in
set_option maxHeartbeats 4000000 in
theorem kJ0_length_8abf5 {a0 : Nat} {h : AH} {K : Int32 → AH → Prop} (w : wJ0_length_8abf5 a0 h K) : Cn mJ0_length_8abf5 (cwd mJ0_length_8abf5) 2 0 0 [.ref a0] h (KI K) T0 := by
  refine Cn_of (by decide +kernel) rfl (Nat.le_of_ble_eq_true rfl) ?_
  show X mJ0_length_8abf5 2 (KI K) T0 0 0 0 [(0, .ref a0)] [] h
  unfold wJ0_length_8abf5 at w
  refine X_aload_n (j := 0) (show decode cJ0_length_8abf5 0 = .ok (.aload_n 0, 1) by decide +kernel) rfl rfl ?_
  obtain ⟨s1, w⟩ := w
  obtain ⟨s2, w⟩ := w
  refine X_getS (j := 0) (kd := 20) (c := 1) (show decode cJ0_length_8abf5 1 = .ok (.getfield 9, 3) by decide +kernel) (by decide) rfl rfl (Or.inl (gw_of (List.mem_of_getElem? (i := 1172) (by decide +kernel)) (by decide +kernel))) s1 s2 ?_
  show X _ _ _ _ _ _ _ _ (.ref (mR _ _ 0) :: _) _
  obtain ⟨s3, w⟩ := w
  refine X_alen (v := nI (ln _ _)) (show decode cJ0_length_8abf5 4 = .ok (.arraylength, 1) by decide +kernel) (by decide) (isA_eq s3) rfl ?_
  refine X_aload_n (j := 0) (show decode cJ0_length_8abf5 5 = .ok (.aload_n 0, 1) by decide +kernel) rfl rfl ?_
  refine X_vI (rc' := 0) (rs' := 0) (as := []) mv_J0_335 (show decode cJ0_length_8abf5 6 = .ok (.invokevirtual 335, 3) by decide +kernel) (by decide) (Nat.le_of_ble_eq_true rfl) (Nat.le_of_ble_eq_true rfl) rfl rfl (Nat.le_of_ble_eq_true rfl) (Or.inr ⟨s2, Or.inl ⟨s1, rfl⟩⟩) (kJ0_coder_7d493 w) (fun E h hk => hk.elim) (fun r5 h4 w => ?_)
  refine X_ishr (show decode cJ0_length_8abf5 9 = .ok (.ishr, 1) by decide +kernel) ?_
  exact X_iret ⟨(show decode cJ0_length_8abf5 10 = .ok (.ireturn, 1) by decide +kernel), .int, rfl, rfl⟩ ⟨_, rfl, w⟩
set_option maxRecDepth 100000 in
set_option maxHeartbeats 4000000 in
theorem kJ0_isLatin1_aae02 {a0 : Nat} {h : AH} {K : Int32 → AH → Prop} (w : wJ0_isLatin1_aae02 a0 h K) : Cn mJ0_isLatin1_aae02 (cwd mJ0_isLatin1_aae02) 1 0 0 [.ref a0] h (KI K) T0 := by
  refine Cn_of (by decide +kernel) rfl (Nat.le_of_ble_eq_true rfl) ?_
  show X mJ0_isLatin1_aae02 1 (KI K) T0 0 0 0 [(0, .ref a0)] [] h
  unfold wJ0_isLatin1_aae02 at w
  refine X_getstI (j := 3) rfl gz_J0_38 (show decode cJ0_isLatin1_aae02 0 = .ok (.getstatic 38, 3) by decide +kernel) ?_
  refine X_if_eq (tgt := 17) (show decode cJ0_isLatin1_aae02 3 = .ok (.ifCond .eq 14, 3) by decide +kernel) (by decide) ⟨fun c1 => ?_, fun c1 => ?_⟩
  · have w := w.1 c1
    refine X_iconst (v := (nI 0)) (show decode cJ0_isLatin1_aae02 17 = .ok (.iconst 0, 1) by decide +kernel) (by decide) ?_
    exact X_iret ⟨(show decode cJ0_isLatin1_aae02 18 = .ok (.ireturn, 1) by decide +kernel), .boolean, rfl, (by decide)⟩ ⟨_, rfl, w⟩
  · have w := w.2 c1
    refine X_aload_n (j := 0) (show decode cJ0_isLatin1_aae02 6 = .ok (.aload_n 0, 1) by decide +kernel) rfl rfl ?_
    obtain ⟨s2, w⟩ := w
    obtain ⟨s3, w⟩ := w
    refine X_getS (j := 1) (kd := 20) (c := 0) (show decode cJ0_isLatin1_aae02 7 = .ok (.getfield 15, 3) by decide +kernel) (by decide) rfl rfl (Or.inl (gw_of (List.mem_of_getElem? (i := 1173) (by decide +kernel)) (by decide +kernel))) s2 s3 ?_
    show X _ _ _ _ _ _ _ _ (.int (mI _ _ 1) :: _) _
    refine X_if_ne (tgt := 17) (show decode cJ0_isLatin1_aae02 10 = .ok (.ifCond .ne 7, 3) by decide +kernel) (by decide) ⟨fun c4 => ?_, fun c4 => ?_⟩
    · have w := w.1 c4
      refine X_iconst (v := (nI 0)) (show decode cJ0_isLatin1_aae02 17 = .ok (.iconst 0, 1) by decide +kernel) (by decide) ?_
      exact X_iret ⟨(show decode cJ0_isLatin1_aae02 18 = .ok (.ireturn, 1) by decide +kernel), .boolean, rfl, (by decide)⟩ ⟨_, rfl, w⟩
    · have w := w.2 c4
      refine X_iconst (v := (nI 1)) (show decode cJ0_isLatin1_aae02 13 = .ok (.iconst 1, 1) by decide +kernel) (by decide) ?_
      refine X_goto (tgt := 18) (show decode cJ0_isLatin1_aae02 14 = .ok (.goto 4, 3) by decide +kernel) (by decide) ?_
      exact X_iret ⟨(show decode cJ0_isLatin1_aae02 18 = .ok (.ireturn, 1) by decide +kernel), .boolean, rfl, (by decide)⟩ ⟨_, rfl, w⟩
set_option maxRecDepth 100000 in
set_option maxHeartbeats 4000000 in
theorem kJ3_checkIndex_8e157_J9 {K : Int32 → AH → Prop}   (x0 : Int32) (x1 : Int32) (x2 : Nat) (h : AH) (w : wJ3_checkIndex_8e157_J9 K  x0 x1 x2 h) : X mJ3_checkIndex_8e157 2 (KI K) T0 0 0 9 [(0, .int x0), (1, .int x1), (2, .ref x2)] [] h := by
  unfold wJ3_checkIndex_8e157_J9 at w
  exact w.elim
set_option maxRecDepth 100000 in
set_option maxHeartbeats 4000000 in
theorem kJ3_checkIndex_8e157 {a0 : Int32} {a1 : Int32} {a2 : Nat} {h : AH} {K : Int32 → AH → Prop} (w : wJ3_checkIndex_8e157 a0 a1 a2 h K) : Cn mJ3_checkIndex_8e157 (cwd mJ3_checkIndex_8e157) 2 0 0 [.int a0, .int a1, .ref a2] h (KI K) T0 := by
  refine Cn_of (by decide +kernel) rfl (Nat.le_of_ble_eq_true rfl) ?_
  show X mJ3_checkIndex_8e157 2 (KI K) T0 0 0 0 [(0, .int a0), (1, .int a1), (2, .ref a2)] [] h
  unfold wJ3_checkIndex_8e157 at w
  refine X_iload_n (j := 0) (show decode cJ3_checkIndex_8e157 0 = .ok (.iload_n 0, 1) by decide +kernel) rfl rfl ?_
  refine X_if_lt (tgt := 9) (show decode cJ3_checkIndex_8e157 1 = .ok (.ifCond .lt 8, 3) by decide +kernel) (by decide) ⟨fun c1 => ?_, fun c1 => ?_⟩
  · have w := w.1 c1
    exact kJ3_checkIndex_8e157_J9  _ _ _ _ w
  · have w := w.2 c1
    refine X_iload_n (j := 0) (show decode cJ3_checkIndex_8e157 4 = .ok (.iload_n 0, 1) by decide +kernel) rfl rfl ?_
    refine X_iload_n (j := 1) (show decode cJ3_checkIndex_8e157 5 = .ok (.iload_n 1, 1) by decide +kernel) rfl rfl ?_
    refine X_icmp_lt (tgt := 16) (show decode cJ3_checkIndex_8e157 6 = .ok (.if_icmp .lt 10, 3) by decide +kernel) (by decide) ⟨fun c2 => ?_, fun c2 => ?_⟩
    · have w := w.1 c2
      refine X_iload_n (j := 0) (show decode cJ3_checkIndex_8e157 16 = .ok (.iload_n 0, 1) by decide +kernel) rfl rfl ?_
      exact X_iret ⟨(show decode cJ3_checkIndex_8e157 17 = .ok (.ireturn, 1) by decide +kernel), .int, rfl, rfl⟩ ⟨_, rfl, w⟩
    · have w := w.2 c2
      exact kJ3_checkIndex_8e157_J9  _ _ _ _ w
set_option maxRecDepth 100000 in
set_option maxHeartbeats 4000000 in
theorem kJ0_checkIndex_df160 {a0 : Int32} {a1 : Int32} {h : AH} {K : AH → Prop} (w : wJ0_checkIndex_df160 a0 a1 h K) : Cn mJ0_checkIndex_df160 (cwd mJ0_checkIndex_df160) 3 0 0 [.int a0, .int a1] h (KV K) T0 := by
  refine Cn_of (by decide +kernel) rfl (Nat.le_of_ble_eq_true rfl) ?_
  show X mJ0_checkIndex_df160 3 (KV K) T0 0 0 0 [(0, .int a0), (1, .int a1)] [] h
  unfold wJ0_checkIndex_df160 at w
  refine X_iload_n (j := 0) (show decode cJ0_checkIndex_df160 0 = .ok (.iload_n 0, 1) by decide +kernel) rfl rfl ?_
  refine X_iload_n (j := 1) (show decode cJ0_checkIndex_df160 1 = .ok (.iload_n 1, 1) by decide +kernel) rfl rfl ?_
  refine X_getstU gz_J0_1053 (show decode cJ0_checkIndex_df160 2 = .ok (.getstatic 1053, 3) by decide +kernel) (fun k1 ek1 => ?_)
  have w := w k1 ek1
  refine X_sI (rc' := 0) (rs' := 0) (as := [.int _, .int _, .ref _]) ms_J0_1059 (show decode cJ0_checkIndex_df160 5 = .ok (.invokestatic 1059, 3) by decide +kernel) (by decide) (Nat.le_of_ble_eq_true rfl) (Nat.le_of_ble_eq_true rfl) rfl rfl (Nat.le_of_ble_eq_true rfl) (kJ3_checkIndex_8e157 w) (fun E h hk => hk.elim) (fun r3 h2 w => ?_)
  refine X_pop (show decode cJ0_checkIndex_df160 8 = .ok (.pop, 1) by decide +kernel) rfl ?_
  exact X_vret ⟨(show decode cJ0_checkIndex_df160 9 = .ok (.return_, 1) by decide +kernel), rfl⟩ ⟨rfl, w⟩
set_option maxRecDepth 100000 in
set_option maxHeartbeats 4000000 in
theorem kJ1_charAt_3b067 {a0 : Nat} {a1 : Int32} {h : AH} {K : Int32 → AH → Prop} (w : wJ1_charAt_3b067 a0 a1 h K) : Cn mJ1_charAt_3b067 (cwd mJ1_charAt_3b067) 4 0 0 [.ref a0, .int a1] h (KI K) T0 := by
  refine Cn_of (by decide +kernel) rfl (Nat.le_of_ble_eq_true rfl) ?_
  show X mJ1_charAt_3b067 4 (KI K) T0 0 0 0 [(0, .ref a0), (1, .int a1)] [] h
  unfold wJ1_charAt_3b067 at w
  refine X_iload_n (j := 1) (show decode cJ1_charAt_3b067 0 = .ok (.iload_n 1, 1) by decide +kernel) rfl rfl ?_
  refine X_aload_n (j := 0) (show decode cJ1_charAt_3b067 1 = .ok (.aload_n 0, 1) by decide +kernel) rfl rfl ?_
  obtain ⟨s1, w⟩ := w
  refine X_alen (v := nI (ln _ _)) (show decode cJ1_charAt_3b067 2 = .ok (.arraylength, 1) by decide +kernel) (by decide) (isA_eq s1) rfl ?_
  refine X_sV (rc' := 0) (rs' := 0) (as := [.int _, .int _]) ms_J1_9 (show decode cJ1_charAt_3b067 3 = .ok (.invokestatic 9, 3) by decide +kernel) (by decide) (Nat.le_of_ble_eq_true rfl) (Nat.le_of_ble_eq_true rfl) rfl rfl (Nat.le_of_ble_eq_true rfl) (kJ0_checkIndex_df160 w) (fun E h hk => hk.elim) (fun h2 w => ?_)
  refine X_aload_n (j := 0) (show decode cJ1_charAt_3b067 6 = .ok (.aload_n 0, 1) by decide +kernel) rfl rfl ?_
  refine X_iload_n (j := 1) (show decode cJ1_charAt_3b067 7 = .ok (.iload_n 1, 1) by decide +kernel) rfl rfl ?_
  obtain ⟨s4, w⟩ := w
  obtain ⟨s5, w⟩ := w
  refine X_bald (show decode cJ1_charAt_3b067 8 = .ok (.baload, 1) by decide +kernel) (isA_eq s4) s5 ?_
  refine X_sipush (v := (nI 255)) (show decode cJ1_charAt_3b067 9 = .ok (.sipush 255, 3) by decide +kernel) (by decide) ?_
  refine X_iand (show decode cJ1_charAt_3b067 12 = .ok (.iand, 1) by decide +kernel) ?_
  refine X_i2c (show decode cJ1_charAt_3b067 13 = .ok (.i2c, 1) by decide +kernel) ?_
  obtain ⟨s6, w⟩ := w
  exact X_iret ⟨(show decode cJ1_charAt_3b067 14 = .ok (.ireturn, 1) by decide +kernel), .char, rfl, s6⟩ ⟨_, rfl, w⟩
set_option maxRecDepth 100000 in
set_option maxHeartbeats 4000000 in
theorem kJ0_charAt_5068e {a0 : Nat} {a1 : Int32} {h : AH} {K : Int32 → AH → Prop} (w : wJ0_charAt_5068e a0 a1 h K) : Cn mJ0_charAt_5068e (cwd mJ0_charAt_5068e) 5 0 0 [.ref a0, .int a1] h (KI K) T0 := by
  refine Cn_of (by decide +kernel) rfl (Nat.le_of_ble_eq_true rfl) ?_
  show X mJ0_charAt_5068e 5 (KI K) T0 0 0 0 [(0, .ref a0), (1, .int a1)] [] h
  unfold wJ0_charAt_5068e at w
  refine X_aload_n (j := 0) (show decode cJ0_charAt_5068e 0 = .ok (.aload_n 0, 1) by decide +kernel) rfl rfl ?_
  obtain ⟨s11, w⟩ := w
  obtain ⟨s12, w⟩ := w
  refine X_vI (rc' := 0) (rs' := 0) (as := []) mv_J0_492 (show decode cJ0_charAt_5068e 1 = .ok (.invokevirtual 492, 3) by decide +kernel) (by decide) (Nat.le_of_ble_eq_true rfl) (Nat.le_of_ble_eq_true rfl) rfl rfl (Nat.le_of_ble_eq_true rfl) (Or.inr ⟨s12, Or.inl ⟨s11, rfl⟩⟩) (kJ0_isLatin1_aae02 w) (fun E h hk => hk.elim) (fun r2 h1 w => ?_)
  refine X_if_eq (tgt := 16) (show decode cJ0_charAt_5068e 4 = .ok (.ifCond .eq 12, 3) by decide +kernel) (by decide) ⟨fun c3 => ?_, fun c3 => ?_⟩
  · have w := w.1 c3
    exact w.elim
  · have w := w.2 c3
    refine X_aload_n (j := 0) (show decode cJ0_charAt_5068e 7 = .ok (.aload_n 0, 1) by decide +kernel) rfl rfl ?_
    obtain ⟨s6, w⟩ := w
    obtain ⟨s7, w⟩ := w
    refine X_getS (j := 0) (kd := 20) (c := 1) (show decode cJ0_charAt_5068e 8 = .ok (.getfield 9, 3) by decide +kernel) (by decide) rfl rfl (Or.inl (gw_of (List.mem_of_getElem? (i := 1172) (by decide +kernel)) (by decide +kernel))) s6 s7 ?_
    show X _ _ _ _ _ _ _ _ (.ref (mR _ _ 0) :: _) _
    refine X_iload_n (j := 1) (show decode cJ0_charAt_5068e 11 = .ok (.iload_n 1, 1) by decide +kernel) rfl rfl ?_
    refine X_sI (rc' := 0) (rs' := 0) (as := [.ref _, .int _]) ms_J0_495 (show decode cJ0_charAt_5068e 12 = .ok (.invokestatic 495, 3) by decide +kernel) (by decide) (Nat.le_of_ble_eq_true rfl) (Nat.le_of_ble_eq_true rfl) rfl rfl (Nat.le_of_ble_eq_true rfl) (kJ1_charAt_3b067 w) (fun E h hk => hk.elim) (fun r9 h8 w => ?_)
    obtain ⟨s10, w⟩ := w
    exact X_iret ⟨(show decode cJ0_charAt_5068e 15 = .ok (.ireturn, 1) by decide +kernel), .char, rfl, s10⟩ ⟨_, rfl, w⟩
set_option maxRecDepth 100000 in
set_option maxHeartbeats 4000000 in
theorem kX5_isDigit {a0 : Nat} {a1 : Int32} {h : AH} {K : Int32 → AH → Prop} (w : wX5_isDigit a0 a1 h K) : Cn mX5_isDigit (cwd mX5_isDigit) 1 0 0 [.ref a0, .int a1] h (KI K) T0 := by
  refine Cn_of (by decide +kernel) rfl (Nat.le_of_ble_eq_true rfl) ?_
  show X mX5_isDigit 1 (KI K) T0 0 0 0 [(0, .ref a0), (1, .int a1)] [] h
  unfold wX5_isDigit at w
  refine X_iload_n (j := 1) (show decode cX5_isDigit 0 = .ok (.iload_n 1, 1) by decide +kernel) rfl rfl ?_
  refine X_if_lt (tgt := 38) (show decode cX5_isDigit 1 = .ok (.ifCond .lt 37, 3) by decide +kernel) (by decide) ⟨fun c1 => ?_, fun c1 => ?_⟩
  · have w := w.1 c1
    refine X_iconst (v := (nI 0)) (show decode cX5_isDigit 38 = .ok (.iconst 0, 1) by decide +kernel) (by decide) ?_
    exact X_iret ⟨(show decode cX5_isDigit 39 = .ok (.ireturn, 1) by decide +kernel), .boolean, rfl, (by decide)⟩ ⟨_, rfl, w⟩
  · have w := w.2 c1
    refine X_iload_n (j := 1) (show decode cX5_isDigit 4 = .ok (.iload_n 1, 1) by decide +kernel) rfl rfl ?_
    refine X_aload_n (j := 0) (show decode cX5_isDigit 5 = .ok (.aload_n 0, 1) by decide +kernel) rfl rfl ?_
    obtain ⟨s2, w⟩ := w
    refine X_getI fl_X5_15 (show decode cX5_isDigit 6 = .ok (.getfield 15, 3) by decide +kernel) s2 ?_
    refine X_icmp_ge (tgt := 38) (show decode cX5_isDigit 9 = .ok (.if_icmp .ge 29, 3) by decide +kernel) (by decide) ⟨fun c3 => ?_, fun c3 => ?_⟩
    · have w := w.1 c3
      refine X_iconst (v := (nI 0)) (show decode cX5_isDigit 38 = .ok (.iconst 0, 1) by decide +kernel) (by decide) ?_
      exact X_iret ⟨(show decode cX5_isDigit 39 = .ok (.ireturn, 1) by decide +kernel), .boolean, rfl, (by decide)⟩ ⟨_, rfl, w⟩
    · have w := w.2 c3
      refine X_aload_n (j := 0) (show decode cX5_isDigit 12 = .ok (.aload_n 0, 1) by decide +kernel) rfl rfl ?_
      refine X_getR fl_X5_9 (show decode cX5_isDigit 13 = .ok (.getfield 9, 3) by decide +kernel) s2 ?_
      refine X_iload_n (j := 1) (show decode cX5_isDigit 16 = .ok (.iload_n 1, 1) by decide +kernel) rfl rfl ?_
      obtain ⟨s4, w⟩ := w
      obtain ⟨s5, w⟩ := w
      refine X_cald (show decode cX5_isDigit 17 = .ok (.caload, 1) by decide +kernel) (isA_eq s4) s5 ?_
      refine X_bipush (v := (nI 48)) (show decode cX5_isDigit 18 = .ok (.bipush 48, 2) by decide +kernel) (by decide) ?_
      refine X_icmp_lt (tgt := 38) (show decode cX5_isDigit 20 = .ok (.if_icmp .lt 18, 3) by decide +kernel) (by decide) ⟨fun c6 => ?_, fun c6 => ?_⟩
      · have w := w.1 c6
        refine X_iconst (v := (nI 0)) (show decode cX5_isDigit 38 = .ok (.iconst 0, 1) by decide +kernel) (by decide) ?_
        exact X_iret ⟨(show decode cX5_isDigit 39 = .ok (.ireturn, 1) by decide +kernel), .boolean, rfl, (by decide)⟩ ⟨_, rfl, w⟩
      · have w := w.2 c6
        refine X_aload_n (j := 0) (show decode cX5_isDigit 23 = .ok (.aload_n 0, 1) by decide +kernel) rfl rfl ?_
        refine X_getR fl_X5_9 (show decode cX5_isDigit 24 = .ok (.getfield 9, 3) by decide +kernel) s2 ?_
        refine X_iload_n (j := 1) (show decode cX5_isDigit 27 = .ok (.iload_n 1, 1) by decide +kernel) rfl rfl ?_
        refine X_cald (show decode cX5_isDigit 28 = .ok (.caload, 1) by decide +kernel) (isA_eq s4) s5 ?_
        refine X_bipush (v := (nI 57)) (show decode cX5_isDigit 29 = .ok (.bipush 57, 2) by decide +kernel) (by decide) ?_
        refine X_icmp_gt (tgt := 38) (show decode cX5_isDigit 31 = .ok (.if_icmp .gt 7, 3) by decide +kernel) (by decide) ⟨fun c7 => ?_, fun c7 => ?_⟩
        · have w := w.1 c7
          refine X_iconst (v := (nI 0)) (show decode cX5_isDigit 38 = .ok (.iconst 0, 1) by decide +kernel) (by decide) ?_
          exact X_iret ⟨(show decode cX5_isDigit 39 = .ok (.ireturn, 1) by decide +kernel), .boolean, rfl, (by decide)⟩ ⟨_, rfl, w⟩
        · have w := w.2 c7
          refine X_iconst (v := (nI 1)) (show decode cX5_isDigit 34 = .ok (.iconst 1, 1) by decide +kernel) (by decide) ?_
          refine X_goto (tgt := 39) (show decode cX5_isDigit 35 = .ok (.goto 4, 3) by decide +kernel) (by decide) ?_
          exact X_iret ⟨(show decode cX5_isDigit 39 = .ok (.ireturn, 1) by decide +kernel), .boolean, rfl, (by decide)⟩ ⟨_, rfl, w⟩
set_option maxRecDepth 100000 in
set_option maxHeartbeats 4000000 in
theorem kX5_digitsAt_L5 {K : Int32 → AH → Prop}    : ∀ (n : Nat) (x0 : Nat) (x1 : Int32) (x2 : Int32) (x3 : Int32) (x4 : Int32) (h : AH), wX5_digitsAt_L5 K   n x0 x1 x2 x3 x4 h → X mX5_digitsAt 2 (KI K) T0 0 0 5 [(0, .ref x0), (1, .int x1), (2, .int x2), (3, .int x3), (4, .int x4)] [] h := by
  intro n
  induction n with
  | zero => intro _ _ _ _ _ _ w; exact w.elim
  | succ n ih =>
    intro x0 x1 x2 x3 x4 h w
    rw [wX5_digitsAt_L5] at w
    refine X_iload (j := 4) (show decode cX5_digitsAt 5 = .ok (.iload 4, 2) by decide +kernel) rfl ?_
    refine X_iload_n (j := 2) (show decode cX5_digitsAt 7 = .ok (.iload_n 2, 1) by decide +kernel) rfl rfl ?_
    refine X_icmp_ge (tgt := 31) (show decode cX5_digitsAt 8 = .ok (.if_icmp .ge 23, 3) by decide +kernel) (by decide) ⟨fun c1 => ?_, fun c1 => ?_⟩
    · have w := w.1 c1
      refine X_iload_n (j := 3) (show decode cX5_digitsAt 31 = .ok (.iload_n 3, 1) by decide +kernel) rfl rfl ?_
      exact X_iret ⟨(show decode cX5_digitsAt 32 = .ok (.ireturn, 1) by decide +kernel), .int, rfl, rfl⟩ ⟨_, rfl, w⟩
    · have w := w.2 c1
      refine X_aload_n (j := 0) (show decode cX5_digitsAt 11 = .ok (.aload_n 0, 1) by decide +kernel) rfl rfl ?_
      refine X_iload_n (j := 1) (show decode cX5_digitsAt 12 = .ok (.iload_n 1, 1) by decide +kernel) rfl rfl ?_
      refine X_iload (j := 4) (show decode cX5_digitsAt 13 = .ok (.iload 4, 2) by decide +kernel) rfl ?_
      refine X_iadd (show decode cX5_digitsAt 15 = .ok (.iadd, 1) by decide +kernel) ?_
      obtain ⟨s5, w⟩ := w
      refine X_vI (rc' := 0) (rs' := 0) (as := [.int _]) mv_X5_81 (show decode cX5_digitsAt 16 = .ok (.invokevirtual 81, 3) by decide +kernel) (by decide) (Nat.le_of_ble_eq_true rfl) (Nat.le_of_ble_eq_true rfl) rfl rfl (Nat.le_of_ble_eq_true rfl) (rcvD s5 (by decide) rfl) (kX5_isDigit w) (fun E h hk => hk.elim) (fun r3 h2 w => ?_)
      refine X_if_eq (tgt := 31) (show decode cX5_digitsAt 19 = .ok (.ifCond .eq 12, 3) by decide +kernel) (by decide) ⟨fun c4 => ?_, fun c4 => ?_⟩
      · have w := w.1 c4
        refine X_iload_n (j := 3) (show decode cX5_digitsAt 31 = .ok (.iload_n 3, 1) by decide +kernel) rfl rfl ?_
        exact X_iret ⟨(show decode cX5_digitsAt 32 = .ok (.ireturn, 1) by decide +kernel), .int, rfl, rfl⟩ ⟨_, rfl, w⟩
      · have w := w.2 c4
        refine X_iinc (j := 3) (v := _ + (nI 1)) (ls' := [(0, .ref _), (1, .int _), (2, .int _), (3, .int _), (4, .int _)]) (show decode cX5_digitsAt 22 = .ok (.iinc 3 1, 3) by decide +kernel) rfl rfl (Nat.le_of_ble_eq_true rfl) rfl ?_
        refine X_iinc (j := 4) (v := _ + (nI 1)) (ls' := [(0, .ref _), (1, .int _), (2, .int _), (3, .int _), (4, .int _)]) (show decode cX5_digitsAt 25 = .ok (.iinc 4 1, 3) by decide +kernel) rfl rfl (Nat.le_of_ble_eq_true rfl) rfl ?_
        refine X_goto (tgt := 5) (show decode cX5_digitsAt 28 = .ok (.goto (-23), 3) by decide +kernel) (by decide) ?_
        exact ih _ _ _ _ _ _ w
set_option maxRecDepth 100000 in
set_option maxHeartbeats 4000000 in
theorem kX5_digitsAt {a0 : Nat} {a1 : Int32} {a2 : Int32} {h : AH} {K : Int32 → AH → Prop} (w : wX5_digitsAt a0 a1 a2 h K) : Cn mX5_digitsAt (cwd mX5_digitsAt) 2 0 0 [.ref a0, .int a1, .int a2] h (KI K) T0 := by
  refine Cn_of (by decide +kernel) rfl (Nat.le_of_ble_eq_true rfl) ?_
  show X mX5_digitsAt 2 (KI K) T0 0 0 0 [(0, .ref a0), (1, .int a1), (2, .int a2)] [] h
  unfold wX5_digitsAt at w
  refine X_iconst (v := (nI 0)) (show decode cX5_digitsAt 0 = .ok (.iconst 0, 1) by decide +kernel) (by decide) ?_
  refine X_istore_n (ls' := [(0, .ref _), (1, .int _), (2, .int _), (3, .int _)]) (show decode cX5_digitsAt 1 = .ok (.istore_n 3, 1) by decide +kernel) rfl (by decide) rfl ?_
  refine X_iconst (v := (nI 0)) (show decode cX5_digitsAt 2 = .ok (.iconst 0, 1) by decide +kernel) (by decide) ?_
  refine X_istore (ls' := [(0, .ref _), (1, .int _), (2, .int _), (3, .int _), (4, .int _)]) (show decode cX5_digitsAt 3 = .ok (.istore 4, 2) by decide +kernel) (by decide) rfl ?_
  obtain ⟨n6, w⟩ := w
  exact kX5_digitsAt_L5  n6 _ _ _ _ _ _ w
set_option maxRecDepth 100000 in
set_option maxHeartbeats 4000000 in
theorem kX5_isAt {a0 : Nat} {a1 : Int32} {a2 : Int32} {h : AH} {K : Int32 → AH → Prop} (w : wX5_isAt a0 a1 a2 h K) : Cn mX5_isAt (cwd mX5_isAt) 1 0 0 [.ref a0, .int a1, .int a2] h (KI K) T0 := by
  refine Cn_of (by decide +kernel) rfl (Nat.le_of_ble_eq_true rfl) ?_
  show X mX5_isAt 1 (KI K) T0 0 0 0 [(0, .ref a0), (1, .int a1), (2, .int a2)] [] h
  unfold wX5_isAt at w
  refine X_iload_n (j := 1) (show decode cX5_isAt 0 = .ok (.iload_n 1, 1) by decide +kernel) rfl rfl ?_
  refine X_if_lt (tgt := 26) (show decode cX5_isAt 1 = .ok (.ifCond .lt 25, 3) by decide +kernel) (by decide) ⟨fun c1 => ?_, fun c1 => ?_⟩
  · have w := w.1 c1
    refine X_iconst (v := (nI 0)) (show decode cX5_isAt 26 = .ok (.iconst 0, 1) by decide +kernel) (by decide) ?_
    exact X_iret ⟨(show decode cX5_isAt 27 = .ok (.ireturn, 1) by decide +kernel), .boolean, rfl, (by decide)⟩ ⟨_, rfl, w⟩
  · have w := w.2 c1
    refine X_iload_n (j := 1) (show decode cX5_isAt 4 = .ok (.iload_n 1, 1) by decide +kernel) rfl rfl ?_
    refine X_aload_n (j := 0) (show decode cX5_isAt 5 = .ok (.aload_n 0, 1) by decide +kernel) rfl rfl ?_
    obtain ⟨s2, w⟩ := w
    refine X_getI fl_X5_15 (show decode cX5_isAt 6 = .ok (.getfield 15, 3) by decide +kernel) s2 ?_
    refine X_icmp_ge (tgt := 26) (show decode cX5_isAt 9 = .ok (.if_icmp .ge 17, 3) by decide +kernel) (by decide) ⟨fun c3 => ?_, fun c3 => ?_⟩
    · have w := w.1 c3
      refine X_iconst (v := (nI 0)) (show decode cX5_isAt 26 = .ok (.iconst 0, 1) by decide +kernel) (by decide) ?_
      exact X_iret ⟨(show decode cX5_isAt 27 = .ok (.ireturn, 1) by decide +kernel), .boolean, rfl, (by decide)⟩ ⟨_, rfl, w⟩
    · have w := w.2 c3
      refine X_aload_n (j := 0) (show decode cX5_isAt 12 = .ok (.aload_n 0, 1) by decide +kernel) rfl rfl ?_
      refine X_getR fl_X5_9 (show decode cX5_isAt 13 = .ok (.getfield 9, 3) by decide +kernel) s2 ?_
      refine X_iload_n (j := 1) (show decode cX5_isAt 16 = .ok (.iload_n 1, 1) by decide +kernel) rfl rfl ?_
      obtain ⟨s4, w⟩ := w
      obtain ⟨s5, w⟩ := w
      refine X_cald (show decode cX5_isAt 17 = .ok (.caload, 1) by decide +kernel) (isA_eq s4) s5 ?_
      refine X_iload_n (j := 2) (show decode cX5_isAt 18 = .ok (.iload_n 2, 1) by decide +kernel) rfl rfl ?_
      refine X_icmp_ne (tgt := 26) (show decode cX5_isAt 19 = .ok (.if_icmp .ne 7, 3) by decide +kernel) (by decide) ⟨fun c6 => ?_, fun c6 => ?_⟩
      · have w := w.1 c6
        refine X_iconst (v := (nI 0)) (show decode cX5_isAt 26 = .ok (.iconst 0, 1) by decide +kernel) (by decide) ?_
        exact X_iret ⟨(show decode cX5_isAt 27 = .ok (.ireturn, 1) by decide +kernel), .boolean, rfl, (by decide)⟩ ⟨_, rfl, w⟩
      · have w := w.2 c6
        refine X_iconst (v := (nI 1)) (show decode cX5_isAt 22 = .ok (.iconst 1, 1) by decide +kernel) (by decide) ?_
        refine X_goto (tgt := 27) (show decode cX5_isAt 23 = .ok (.goto 4, 3) by decide +kernel) (by decide) ?_
        exact X_iret ⟨(show decode cX5_isAt 27 = .ok (.ireturn, 1) by decide +kernel), .boolean, rfl, (by decide)⟩ ⟨_, rfl, w⟩
set_option maxRecDepth 100000 in
set_option maxHeartbeats 4000000 in
theorem kX5_noteNumber_L6 {K : AH → Prop} {c49 : Nat → Int32 → Int32 → AH → Prop} (hc49 : ∀ x0 x1 x4 h, c49 x0 x1 x4 h → X mX5_noteNumber 2 (KV K) T0 0 0 49 [(0, .ref x0), (1, .int x1), (4, .int x4)] [] h)  : ∀ (n : Nat) (x0 : Nat) (x1 : Int32) (x2 : Int32) (x3 : Int32) (x4 : Int32) (x5 : Int32) (h : AH), wX5_noteNumber_L6 K c49  n x0 x1 x2 x3 x4 x5 h → X mX5_noteNumber 2 (KV K) T0 0 0 6 [(0, .ref x0), (1, .int x1), (2, .int x2), (3, .int x3), (4, .int x4), (5, .int x5)] [] h := by
  intro n
  induction n with
  | zero => intro _ _ _ _ _ _ _ w; exact w.elim
  | succ n ih =>
    intro x0 x1 x2 x3 x4 x5 h w
    rw [wX5_noteNumber_L6] at w
    refine X_iload (j := 5) (show decode cX5_noteNumber 6 = .ok (.iload 5, 2) by decide +kernel) rfl ?_
    refine X_iload_n (j := 3) (show decode cX5_noteNumber 8 = .ok (.iload_n 3, 1) by decide +kernel) rfl rfl ?_
    refine X_icmp_ge (tgt := 49) (show decode cX5_noteNumber 9 = .ok (.if_icmp .ge 40, 3) by decide +kernel) (by decide) ⟨fun c1 => ?_, fun c1 => ?_⟩
    · have w := w.1 c1
      refine X_pick (ls' := [(0, .ref _), (1, .int _), (4, .int _)]) [0, 1, 4] rfl ?_
      exact hc49 _ _ _ _ w
    · have w := w.2 c1
      refine X_aload_n (j := 0) (show decode cX5_noteNumber 12 = .ok (.aload_n 0, 1) by decide +kernel) rfl rfl ?_
      refine X_iload_n (j := 2) (show decode cX5_noteNumber 13 = .ok (.iload_n 2, 1) by decide +kernel) rfl rfl ?_
      refine X_iload (j := 5) (show decode cX5_noteNumber 14 = .ok (.iload 5, 2) by decide +kernel) rfl ?_
      refine X_iadd (show decode cX5_noteNumber 16 = .ok (.iadd, 1) by decide +kernel) ?_
      obtain ⟨s10, w⟩ := w
      refine X_vI (rc' := 0) (rs' := 0) (as := [.int _]) mv_X5_81 (show decode cX5_noteNumber 17 = .ok (.invokevirtual 81, 3) by decide +kernel) (by decide) (Nat.le_of_ble_eq_true rfl) (Nat.le_of_ble_eq_true rfl) rfl rfl (Nat.le_of_ble_eq_true rfl) (rcvD s10 (by decide) rfl) (kX5_isDigit w) (fun E h hk => hk.elim) (fun r3 h2 w => ?_)
      refine X_if_eq (tgt := 49) (show decode cX5_noteNumber 20 = .ok (.ifCond .eq 29, 3) by decide +kernel) (by decide) ⟨fun c4 => ?_, fun c4 => ?_⟩
      · have w := w.1 c4
        refine X_pick (ls' := [(0, .ref _), (1, .int _), (4, .int _)]) [0, 1, 4] rfl ?_
        exact hc49 _ _ _ _ w
      · have w := w.2 c4
        refine X_iload (j := 4) (show decode cX5_noteNumber 23 = .ok (.iload 4, 2) by decide +kernel) rfl ?_
        refine X_bipush (v := (nI 10)) (show decode cX5_noteNumber 25 = .ok (.bipush 10, 2) by decide +kernel) (by decide) ?_
        refine X_imul (show decode cX5_noteNumber 27 = .ok (.imul, 1) by decide +kernel) ?_
        refine X_aload_n (j := 0) (show decode cX5_noteNumber 28 = .ok (.aload_n 0, 1) by decide +kernel) rfl rfl ?_
        obtain ⟨s5, w⟩ := w
        refine X_getR fl_X5_9 (show decode cX5_noteNumber 29 = .ok (.getfield 9, 3) by decide +kernel) s5 ?_
        refine X_iload_n (j := 2) (show decode cX5_noteNumber 32 = .ok (.iload_n 2, 1) by decide +kernel) rfl rfl ?_
        refine X_iload (j := 5) (show decode cX5_noteNumber 33 = .ok (.iload 5, 2) by decide +kernel) rfl ?_
        refine X_iadd (show decode cX5_noteNumber 35 = .ok (.iadd, 1) by decide +kernel) ?_
        obtain ⟨s6, w⟩ := w
        obtain ⟨s7, w⟩ := w
        refine X_cald (show decode cX5_noteNumber 36 = .ok (.caload, 1) by decide +kernel) (isA_eq s6) s7 ?_
        refine X_bipush (v := (nI 48)) (show decode cX5_noteNumber 37 = .ok (.bipush 48, 2) by decide +kernel) (by decide) ?_
        refine X_isub (show decode cX5_noteNumber 39 = .ok (.isub, 1) by decide +kernel) ?_
        refine X_iadd (show decode cX5_noteNumber 40 = .ok (.iadd, 1) by decide +kernel) ?_
        refine X_topi (fun v8 e9 => ?_)
        have w := w v8 e9
        refine X_istore (ls' := [(0, .ref _), (1, .int _), (2, .int _), (3, .int _), (4, .int _), (5, .int _)]) (show decode cX5_noteNumber 41 = .ok (.istore 4, 2) by decide +kernel) (by decide) rfl ?_
        refine X_iinc (j := 5) (v := _ + (nI 1)) (ls' := [(0, .ref _), (1, .int _), (2, .int _), (3, .int _), (4, .int _), (5, .int _)]) (show decode cX5_noteNumber 43 = .ok (.iinc 5 1, 3) by decide +kernel) rfl rfl (Nat.le_of_ble_eq_true rfl) rfl ?_
        refine X_goto (tgt := 6) (show decode cX5_noteNumber 46 = .ok (.goto (-40), 3) by decide +kernel) (by decide) ?_
        exact ih _ _ _ _ _ _ _ w
set_option maxRecDepth 100000 in
set_option maxHeartbeats 4000000 in
theorem kX5_noteNumber {a0 : Nat} {a1 : Int32} {a2 : Int32} {a3 : Int32} {h : AH} {K : AH → Prop} (w : wX5_noteNumber a0 a1 a2 a3 h K) : Cn mX5_noteNumber (cwd mX5_noteNumber) 2 0 0 [.ref a0, .int a1, .int a2, .int a3] h (KV K) T0 := by
  refine Cn_of (by decide +kernel) rfl (Nat.le_of_ble_eq_true rfl) ?_
  show X mX5_noteNumber 2 (KV K) T0 0 0 0 [(0, .ref a0), (1, .int a1), (2, .int a2), (3, .int a3)] [] h
  unfold wX5_noteNumber at w
  refine X_iconst (v := (nI 0)) (show decode cX5_noteNumber 0 = .ok (.iconst 0, 1) by decide +kernel) (by decide) ?_
  refine X_istore (ls' := [(0, .ref _), (1, .int _), (2, .int _), (3, .int _), (4, .int _)]) (show decode cX5_noteNumber 1 = .ok (.istore 4, 2) by decide +kernel) (by decide) rfl ?_
  refine X_iconst (v := (nI 0)) (show decode cX5_noteNumber 3 = .ok (.iconst 0, 1) by decide +kernel) (by decide) ?_
  refine X_istore (ls' := [(0, .ref _), (1, .int _), (2, .int _), (3, .int _), (4, .int _), (5, .int _)]) (show decode cX5_noteNumber 4 = .ok (.istore 5, 2) by decide +kernel) (by decide) rfl ?_
  obtain ⟨n25, w⟩ := w
  refine kX5_noteNumber_L6 ?_ n25 _ _ _ _ _ _ _ w
  · intro x0_11 x1_12 x4_13 h14 w
    refine X_iload_n (j := 1) (show decode cX5_noteNumber 49 = .ok (.iload_n 1, 1) by decide +kernel) rfl rfl ?_
    refine X_iconst (v := (nI 3)) (show decode cX5_noteNumber 50 = .ok (.iconst 3, 1) by decide +kernel) (by decide) ?_
    refine X_icmp_ge (tgt := 76) (show decode cX5_noteNumber 51 = .ok (.if_icmp .ge 25, 3) by decide +kernel) (by decide) ⟨fun c15 => ?_, fun c15 => ?_⟩
    · have w := w.1 c15
      exact X_vret ⟨(show decode cX5_noteNumber 76 = .ok (.return_, 1) by decide +kernel), rfl⟩ ⟨rfl, w⟩
    · have w := w.2 c15
      refine X_aload_n (j := 0) (show decode cX5_noteNumber 54 = .ok (.aload_n 0, 1) by decide +kernel) rfl rfl ?_
      obtain ⟨s16, w⟩ := w
      refine X_getI fl_X5_30 (show decode cX5_noteNumber 55 = .ok (.getfield 30, 3) by decide +kernel) s16 ?_
      refine X_bipush (v := (nI 13)) (show decode cX5_noteNumber 58 = .ok (.bipush 13, 2) by decide +kernel) (by decide) ?_
      refine X_icmp_ge (tgt := 76) (show decode cX5_noteNumber 60 = .ok (.if_icmp .ge 16, 3) by decide +kernel) (by decide) ⟨fun c17 => ?_, fun c17 => ?_⟩
      · have w := w.1 c17
        exact X_vret ⟨(show decode cX5_noteNumber 76 = .ok (.return_, 1) by decide +kernel), rfl⟩ ⟨rfl, w⟩
      · have w := w.2 c17
        refine X_aload_n (j := 0) (show decode cX5_noteNumber 63 = .ok (.aload_n 0, 1) by decide +kernel) rfl rfl ?_
        refine X_getR fl_X5_27 (show decode cX5_noteNumber 64 = .ok (.getfield 27, 3) by decide +kernel) s16 ?_
        refine X_aload_n (j := 0) (show decode cX5_noteNumber 67 = .ok (.aload_n 0, 1) by decide +kernel) rfl rfl ?_
        refine X_getI fl_X5_30 (show decode cX5_noteNumber 68 = .ok (.getfield 30, 3) by decide +kernel) s16 ?_
        obtain ⟨s18, w⟩ := w
        obtain ⟨s19, w⟩ := w
        obtain ⟨s20, w⟩ := w
        refine X_aaldA (show decode cX5_noteNumber 71 = .ok (.aaload, 1) by decide +kernel) (isA_eq s18) s19 s20 ?_
        refine X_iload_n (j := 1) (show decode cX5_noteNumber 72 = .ok (.iload_n 1, 1) by decide +kernel) rfl rfl ?_
        refine X_iload (j := 2) (show decode cX5_noteNumber 73 = .ok (.iload 4, 2) by decide +kernel) rfl ?_
        obtain ⟨s21, w⟩ := w
        obtain ⟨s22, w⟩ := w
        obtain ⟨s23, w⟩ := w
        refine X_iast (show decode cX5_noteNumber 75 = .ok (.iastore, 1) by decide +kernel) (isA_eq s21) s22 s23 ?_
        have w := w _ rfl
        exact X_vret ⟨(show decode cX5_noteNumber 76 = .ok (.return_, 1) by decide +kernel), rfl⟩ ⟨rfl, w⟩
set_option maxRecDepth 100000 in
set_option maxHeartbeats 4000000 in
theorem kX5_match_J100 {K : Int32 → AH → Prop} {c8 : Nat → Nat → Int32 → Int32 → Int32 → AH → Prop} (hc8 : ∀ x0 x1 x3 x4 x5 h, c8 x0 x1 x3 x4 x5 h → X mX5_match 6 (KI K) T0 0 0 8 [(0, .ref x0), (1, .ref x1), (3, .int x3), (4, .int x4), (5, .int x5)] [] h) (x0 : Nat) (x1 : Nat) (x3 : Int32) (x4 : Int32) (x5 : Int32) (x7 : Int32) (h : AH) (w : wX5_match_J100 K c8 x0 x1 x3 x4 x5 x7 h) : X mX5_match 6 (KI K) T0 0 0 100 [(0, .ref x0), (1, .ref x1), (3, .int x3), (4, .int x4), (5, .int x5), (7, .int x7)] [] h := by
  unfold wX5_match_J100 at w
  refine X_iload_n (j := 2) (show decode cX5_match 100 = .ok (.iload_n 3, 1) by decide +kernel) rfl rfl ?_
  refine X_iload (j := 5) (show decode cX5_match 101 = .ok (.iload 7, 2) by decide +kernel) rfl ?_
  refine X_iadd (show decode cX5_match 103 = .ok (.iadd, 1) by decide +kernel) ?_
  refine X_istore_n (ls' := [(0, .ref _), (1, .ref _), (3, .int _), (4, .int _), (5, .int _), (7, .int _)]) (show decode cX5_match 104 = .ok (.istore_n 3, 1) by decide +kernel) rfl (by decide) rfl ?_
  refine X_aload_n (j := 0) (show decode cX5_match 105 = .ok (.aload_n 0, 1) by decide +kernel) rfl rfl ?_
  refine X_aload_n (j := 0) (show decode cX5_match 106 = .ok (.aload_n 0, 1) by decide +kernel) rfl rfl ?_
  obtain ⟨s14, w⟩ := w
  refine X_getI fl_X5_33 (show decode cX5_match 107 = .ok (.getfield 33, 3) by decide +kernel) s14 ?_
  refine X_iload_n (j := 2) (show decode cX5_match 110 = .ok (.iload_n 3, 1) by decide +kernel) rfl rfl ?_
  refine X_mmax (show decode cX5_match 111 = .ok (.invokestatic 76, 3) by decide +kernel) gl_X5_76 gst_max gin_Math gco_max (by decide) (Nat.le_of_ble_eq_true rfl) ?_
  refine X_putI fp_X5_33 (show decode cX5_match 114 = .ok (.putfield 33, 3) by decide +kernel) (fun z => nomatch z) s14 rfl rfl ?_
  have w := w _ rfl
  refine X_iload (j := 5) (show decode cX5_match 117 = .ok (.iload 7, 2) by decide +kernel) rfl ?_
  refine X_if_ne (tgt := 124) (show decode cX5_match 119 = .ok (.ifCond .ne 5, 3) by decide +kernel) (by decide) ⟨fun c16 => ?_, fun c16 => ?_⟩
  · have w := w.1 c16
    refine X_iinc (j := 4) (v := _ + (nI 1)) (ls' := [(0, .ref _), (1, .ref _), (3, .int _), (4, .int _), (5, .int _), (7, .int _)]) (show decode cX5_match 124 = .ok (.iinc 5 1, 3) by decide +kernel) rfl rfl (Nat.le_of_ble_eq_true rfl) rfl ?_
    refine X_goto (tgt := 8) (show decode cX5_match 127 = .ok (.goto (-119), 3) by decide +kernel) (by decide) ?_
    refine X_pick (ls' := [(0, .ref _), (1, .ref _), (3, .int _), (4, .int _), (5, .int _)]) [0, 1, 2, 3, 4] rfl ?_
    exact hc8 _ _ _ _ _ _ w
  · have w := w.2 c16
    refine X_iconst (v := (-1)) (show decode cX5_match 122 = .ok (.iconst (-1), 1) by decide +kernel) (by decide) ?_
    exact X_iret ⟨(show decode cX5_match 123 = .ok (.ireturn, 1) by decide +kernel), .int, rfl, rfl⟩ ⟨_, rfl, w⟩
set_option maxRecDepth 100000 in
set_option maxHeartbeats 4000000 in
theorem kX5_match_J88 {K : Int32 → AH → Prop} {c8 : Nat → Nat → Int32 → Int32 → Int32 → AH → Prop} (hc8 : ∀ x0 x1 x3 x4 x5 h, c8 x0 x1 x3 x4 x5 h → X mX5_match 6 (KI K) T0 0 0 8 [(0, .ref x0), (1, .ref x1), (3, .int x3), (4, .int x4), (5, .int x5)] [] h) (x0 : Nat) (x1 : Nat) (x3 : Int32) (x4 : Int32) (x5 : Int32) (x7 : Int32) (h : AH) (w : wX5_match_J88 K c8 x0 x1 x3 x4 x5 x7 h) : X mX5_match 6 (KI K) T0 0 0 88 [(0, .ref x0), (1, .ref x1), (3, .int x3), (4, .int x4), (5, .int x5), (7, .int x7)] [] h := by
  unfold wX5_match_J88 at w
  refine X_aload_n (j := 0) (show decode cX5_match 88 = .ok (.aload_n 0, 1) by decide +kernel) rfl rfl ?_
  refine X_iload (j := 3) (show decode cX5_match 89 = .ok (.iload 4, 2) by decide +kernel) rfl ?_
  refine X_iload_n (j := 2) (show decode cX5_match 91 = .ok (.iload_n 3, 1) by decide +kernel) rfl rfl ?_
  refine X_iload (j := 5) (show decode cX5_match 92 = .ok (.iload 7, 2) by decide +kernel) rfl ?_
  obtain ⟨s17, w⟩ := w
  refine X_vV (rc' := 0) (rs' := 0) (as := [.int _, .int _, .int _]) mv_X5_72 (show decode cX5_match 94 = .ok (.invokevirtual 72, 3) by decide +kernel) (by decide) (Nat.le_of_ble_eq_true rfl) (Nat.le_of_ble_eq_true rfl) rfl rfl (Nat.le_of_ble_eq_true rfl) (rcvD s17 (by decide) rfl) (kX5_noteNumber w) (fun E h hk => hk.elim) (fun h12 w => ?_)
  refine X_iinc (j := 3) (v := _ + (nI 1)) (ls' := [(0, .ref _), (1, .ref _), (3, .int _), (4, .int _), (5, .int _), (7, .int _)]) (show decode cX5_match 97 = .ok (.iinc 4 1, 3) by decide +kernel) rfl rfl (Nat.le_of_ble_eq_true rfl) rfl ?_
  exact kX5_match_J100 hc8 _ _ _ _ _ _ _ w
set_option maxRecDepth 100000 in
set_option maxHeartbeats 4000000 in
theorem kX5_match_J72 {K : Int32 → AH → Prop} {c8 : Nat → Nat → Int32 → Int32 → Int32 → AH → Prop} (hc8 : ∀ x0 x1 x3 x4 x5 h, c8 x0 x1 x3 x4 x5 h → X mX5_match 6 (KI K) T0 0 0 8 [(0, .ref x0), (1, .ref x1), (3, .int x3), (4, .int x4), (5, .int x5)] [] h) (x0 : Nat) (x1 : Nat) (x3 : Int32) (x4 : Int32) (x5 : Int32) (x6 : Int32) (y0 : Int32) (h : AH) (w : wX5_match_J72 K c8 x0 x1 x3 x4 x5 x6 y0 h) : X mX5_match 6 (KI K) T0 0 0 72 [(0, .ref x0), (1, .ref x1), (3, .int x3), (4, .int x4), (5, .int x5), (6, .int x6)] [.int y0] h := by
  unfold wX5_match_J72 at w
  refine X_istore (ls' := [(0, .ref _), (1, .ref _), (3, .int _), (4, .int _), (5, .int _), (6, .int _), (7, .int _)]) (show decode cX5_match 72 = .ok (.istore 7, 2) by decide +kernel) (by decide) rfl ?_
  refine X_iload (j := 5) (show decode cX5_match 74 = .ok (.iload 6, 2) by decide +kernel) rfl ?_
  refine X_bipush (v := (nI 35)) (show decode cX5_match 76 = .ok (.bipush 35, 2) by decide +kernel) (by decide) ?_
  refine X_icmp_eq (tgt := 88) (show decode cX5_match 78 = .ok (.if_icmp .eq 10, 3) by decide +kernel) (by decide) ⟨fun c11 => ?_, fun c11 => ?_⟩
  · have w := w.1 c11
    refine X_pick (ls' := [(0, .ref _), (1, .ref _), (3, .int _), (4, .int _), (5, .int _), (7, .int _)]) [0, 1, 2, 3, 4, 6] rfl ?_
    exact kX5_match_J88 hc8 _ _ _ _ _ _ _ w
  · have w := w.2 c11
    refine X_iload (j := 5) (show decode cX5_match 81 = .ok (.iload 6, 2) by decide +kernel) rfl ?_
    refine X_bipush (v := (nI 42)) (show decode cX5_match 83 = .ok (.bipush 42, 2) by decide +kernel) (by decide) ?_
    refine X_icmp_ne (tgt := 100) (show decode cX5_match 85 = .ok (.if_icmp .ne 15, 3) by decide +kernel) (by decide) ⟨fun c18 => ?_, fun c18 => ?_⟩
    · have w := w.1 c18
      refine X_pick (ls' := [(0, .ref _), (1, .ref _), (3, .int _), (4, .int _), (5, .int _), (7, .int _)]) [0, 1, 2, 3, 4, 6] rfl ?_
      exact kX5_match_J100 hc8 _ _ _ _ _ _ _ w
    · have w := w.2 c18
      refine X_pick (ls' := [(0, .ref _), (1, .ref _), (3, .int _), (4, .int _), (5, .int _), (7, .int _)]) [0, 1, 2, 3, 4, 6] rfl ?_
      exact kX5_match_J88 hc8 _ _ _ _ _ _ _ w
set_option maxRecDepth 100000 in
set_option maxHeartbeats 4000000 in
theorem kX5_match_L8 {K : Int32 → AH → Prop}    : ∀ (n : Nat) (x0 : Nat) (x1 : Nat) (x3 : Int32) (x4 : Int32) (x5 : Int32) (h : AH), wX5_match_L8 K   n x0 x1 x3 x4 x5 h → X mX5_match 6 (KI K) T0 0 0 8 [(0, .ref x0), (1, .ref x1), (3, .int x3), (4, .int x4), (5, .int x5)] [] h := by
  intro n
  induction n with
  | zero => intro _ _ _ _ _ _ w; exact w.elim
  | succ n ih =>
    intro x0 x1 x3 x4 x5 h w
    rw [wX5_match_L8] at w
    refine X_iload (j := 4) (show decode cX5_match 8 = .ok (.iload 5, 2) by decide +kernel) rfl ?_
    refine X_aload_n (j := 1) (show decode cX5_match 10 = .ok (.aload_n 1, 1) by decide +kernel) rfl rfl ?_
    obtain ⟨s28, w⟩ := w
    obtain ⟨s29, w⟩ := w
    refine X_vI (rc' := 0) (rs' := 0) (as := []) mv_X5_59 (show decode cX5_match 11 = .ok (.invokevirtual 59, 3) by decide +kernel) (by decide) (Nat.le_of_ble_eq_true rfl) (Nat.le_of_ble_eq_true rfl) rfl rfl (Nat.le_of_ble_eq_true rfl) (Or.inr ⟨s29, Or.inl ⟨s28, rfl⟩⟩) (kJ0_length_8abf5 w) (fun E h hk => hk.elim) (fun r2 h1 w => ?_)
    refine X_icmp_ge (tgt := 130) (show decode cX5_match 14 = .ok (.if_icmp .ge 116, 3) by decide +kernel) (by decide) ⟨fun c3 => ?_, fun c3 => ?_⟩
    · have w := w.1 c3
      refine X_iload_n (j := 2) (show decode cX5_match 130 = .ok (.iload_n 3, 1) by decide +kernel) rfl rfl ?_
      exact X_iret ⟨(show decode cX5_match 131 = .ok (.ireturn, 1) by decide +kernel), .int, rfl, rfl⟩ ⟨_, rfl, w⟩
    · have w := w.2 c3
      refine X_aload_n (j := 1) (show decode cX5_match 17 = .ok (.aload_n 1, 1) by decide +kernel) rfl rfl ?_
      refine X_iload (j := 4) (show decode cX5_match 18 = .ok (.iload 5, 2) by decide +kernel) rfl ?_
      obtain ⟨s26, w⟩ := w
      obtain ⟨s27, w⟩ := w
      refine X_vI (rc' := 0) (rs' := 0) (as := [.int _]) mv_X5_64 (show decode cX5_match 20 = .ok (.invokevirtual 64, 3) by decide +kernel) (by decide) (Nat.le_of_ble_eq_true rfl) (Nat.le_of_ble_eq_true rfl) rfl rfl (Nat.le_of_ble_eq_true rfl) (Or.inr ⟨s27, Or.inl ⟨s26, rfl⟩⟩) (kJ0_charAt_5068e w) (fun E h hk => hk.elim) (fun r5 h4 w => ?_)
      refine X_istore (ls' := [(0, .ref _), (1, .ref _), (3, .int _), (4, .int _), (5, .int _), (6, .int _)]) (show decode cX5_match 23 = .ok (.istore 6, 2) by decide +kernel) (by decide) rfl ?_
      refine X_iload (j := 5) (show decode cX5_match 25 = .ok (.iload 6, 2) by decide +kernel) rfl ?_
      refine X_bipush (v := (nI 35)) (show decode cX5_match 27 = .ok (.bipush 35, 2) by decide +kernel) (by decide) ?_
      refine X_icmp_ne (tgt := 41) (show decode cX5_match 29 = .ok (.if_icmp .ne 12, 3) by decide +kernel) (by decide) ⟨fun c6 => ?_, fun c6 => ?_⟩
      · have w := w.1 c6
        refine X_iload (j := 5) (show decode cX5_match 41 = .ok (.iload 6, 2) by decide +kernel) rfl ?_
        refine X_bipush (v := (nI 42)) (show decode cX5_match 43 = .ok (.bipush 42, 2) by decide +kernel) (by decide) ?_
        refine X_icmp_ne (tgt := 57) (show decode cX5_match 45 = .ok (.if_icmp .ne 12, 3) by decide +kernel) (by decide) ⟨fun c7 => ?_, fun c7 => ?_⟩
        · have w := w.1 c7
          refine X_aload_n (j := 0) (show decode cX5_match 57 = .ok (.aload_n 0, 1) by decide +kernel) rfl rfl ?_
          refine X_iload_n (j := 2) (show decode cX5_match 58 = .ok (.iload_n 3, 1) by decide +kernel) rfl rfl ?_
          refine X_iload (j := 5) (show decode cX5_match 59 = .ok (.iload 6, 2) by decide +kernel) rfl ?_
          obtain ⟨s19, w⟩ := w
          refine X_vI (rc' := 0) (rs' := 0) (as := [.int _, .int _]) mv_X5_55 (show decode cX5_match 61 = .ok (.invokevirtual 55, 3) by decide +kernel) (by decide) (Nat.le_of_ble_eq_true rfl) (Nat.le_of_ble_eq_true rfl) rfl rfl (Nat.le_of_ble_eq_true rfl) (rcvD s19 (by decide) rfl) (kX5_isAt w) (fun E h hk => hk.elim) (fun r9 h8 w => ?_)
          refine X_if_eq (tgt := 71) (show decode cX5_match 64 = .ok (.ifCond .eq 7, 3) by decide +kernel) (by decide) ⟨fun c10 => ?_, fun c10 => ?_⟩
          · have w := w.1 c10
            refine X_iconst (v := (nI 0)) (show decode cX5_match 71 = .ok (.iconst 0, 1) by decide +kernel) (by decide) ?_
            exact kX5_match_J72 ih _ _ _ _ _ _ _ _ w
          · have w := w.2 c10
            refine X_iconst (v := (nI 1)) (show decode cX5_match 67 = .ok (.iconst 1, 1) by decide +kernel) (by decide) ?_
            refine X_goto (tgt := 72) (show decode cX5_match 68 = .ok (.goto 4, 3) by decide +kernel) (by decide) ?_
            exact kX5_match_J72 ih _ _ _ _ _ _ _ _ w
        · have w := w.2 c7
          refine X_aload_n (j := 0) (show decode cX5_match 48 = .ok (.aload_n 0, 1) by decide +kernel) rfl rfl ?_
          refine X_iload_n (j := 2) (show decode cX5_match 49 = .ok (.iload_n 3, 1) by decide +kernel) rfl rfl ?_
          refine X_iconst (v := (nI 3)) (show decode cX5_match 50 = .ok (.iconst 3, 1) by decide +kernel) (by decide) ?_
          obtain ⟨s22, w⟩ := w
          refine X_vI (rc' := 0) (rs' := 0) (as := [.int _, .int _]) mv_X5_68 (show decode cX5_match 51 = .ok (.invokevirtual 68, 3) by decide +kernel) (by decide) (Nat.le_of_ble_eq_true rfl) (Nat.le_of_ble_eq_true rfl) rfl rfl (Nat.le_of_ble_eq_true rfl) (rcvD s22 (by decide) rfl) (kX5_digitsAt w) (fun E h hk => hk.elim) (fun r21 h20 w => ?_)
          refine X_goto (tgt := 72) (show decode cX5_match 54 = .ok (.goto 18, 3) by decide +kernel) (by decide) ?_
          exact kX5_match_J72 ih _ _ _ _ _ _ _ _ w
      · have w := w.2 c6
        refine X_aload_n (j := 0) (show decode cX5_match 32 = .ok (.aload_n 0, 1) by decide +kernel) rfl rfl ?_
        refine X_iload_n (j := 2) (show decode cX5_match 33 = .ok (.iload_n 3, 1) by decide +kernel) rfl rfl ?_
        refine X_iconst (v := (nI 1)) (show decode cX5_match 34 = .ok (.iconst 1, 1) by decide +kernel) (by decide) ?_
        obtain ⟨s25, w⟩ := w
        refine X_vI (rc' := 0) (rs' := 0) (as := [.int _, .int _]) mv_X5_68 (show decode cX5_match 35 = .ok (.invokevirtual 68, 3) by decide +kernel) (by decide) (Nat.le_of_ble_eq_true rfl) (Nat.le_of_ble_eq_true rfl) rfl rfl (Nat.le_of_ble_eq_true rfl) (rcvD s25 (by decide) rfl) (kX5_digitsAt w) (fun E h hk => hk.elim) (fun r24 h23 w => ?_)
        refine X_goto (tgt := 72) (show decode cX5_match 38 = .ok (.goto 34, 3) by decide +kernel) (by decide) ?_
        exact kX5_match_J72 ih _ _ _ _ _ _ _ _ w
set_option maxRecDepth 100000 in
set_option maxHeartbeats 4000000 in
theorem kX5_match {a0 : Nat} {a1 : Nat} {a2 : Int32} {h : AH} {K : Int32 → AH → Prop} (w : wX5_match a0 a1 a2 h K) : Cn mX5_match (cwd mX5_match) 6 0 0 [.ref a0, .ref a1, .int a2] h (KI K) T0 := by
  refine Cn_of (by decide +kernel) rfl (Nat.le_of_ble_eq_true rfl) ?_
  show X mX5_match 6 (KI K) T0 0 0 0 [(0, .ref a0), (1, .ref a1), (2, .int a2)] [] h
  unfold wX5_match at w
  refine X_iload_n (j := 2) (show decode cX5_match 0 = .ok (.iload_n 2, 1) by decide +kernel) rfl rfl ?_
  refine X_istore_n (ls' := [(0, .ref _), (1, .ref _), (2, .int _), (3, .int _)]) (show decode cX5_match 1 = .ok (.istore_n 3, 1) by decide +kernel) rfl (by decide) rfl ?_
  refine X_iconst (v := (nI 0)) (show decode cX5_match 2 = .ok (.iconst 0, 1) by decide +kernel) (by decide) ?_
  refine X_istore (ls' := [(0, .ref _), (1, .ref _), (2, .int _), (3, .int _), (4, .int _)]) (show decode cX5_match 3 = .ok (.istore 4, 2) by decide +kernel) (by decide) rfl ?_
  refine X_iconst (v := (nI 0)) (show decode cX5_match 5 = .ok (.iconst 0, 1) by decide +kernel) (by decide) ?_
  refine X_istore (ls' := [(0, .ref _), (1, .ref _), (2, .int _), (3, .int _), (4, .int _), (5, .int _)]) (show decode cX5_match 6 = .ok (.istore 5, 2) by decide +kernel) (by decide) rfl ?_
  refine X_pick (ls' := [(0, .ref _), (1, .ref _), (3, .int _), (4, .int _), (5, .int _)]) [0, 1, 3, 4, 5] rfl ?_
  obtain ⟨n30, w⟩ := w
  exact kX5_match_L8  n30 _ _ _ _ _ _ w
set_option maxRecDepth 100000 in
set_option maxHeartbeats 4000000 in
theorem kX5_parseCommand_L9 {K : Int32 → AH → Prop}    : ∀ (n : Nat) (x0 : Nat) (x1 : Int32) (x2 : Int32) (x3 : Int32) (h : AH), wX5_parseCommand_L9 K   n x0 x1 x2 x3 h → X mX5_parseCommand 7 (KI K) T0 0 0 9 [(0, .ref x0), (1, .int x1), (2, .int x2), (3, .int x3)] [] h := by
  intro n
  induction n with
  | zero => intro _ _ _ _ _ w; exact w.elim
  | succ n ih =>
    intro x0 x1 x2 x3 h w
    rw [wX5_parseCommand_L9] at w
    refine X_iload_n (j := 3) (show decode cX5_parseCommand 9 = .ok (.iload_n 3, 1) by decide +kernel) rfl rfl ?_
    refine X_getstN (j := 0) (host := "InterlockingBox") rfl (by decide) (List.mem_of_getElem? (i := 35) rfl) (show decode cX5_parseCommand 10 = .ok (.getstatic 44, 3) by decide +kernel) ?_
    obtain ⟨s3, w⟩ := w
    refine X_alen (v := nI (ln _ _)) (show decode cX5_parseCommand 13 = .ok (.arraylength, 1) by decide +kernel) (by decide) (isA_eq s3) rfl ?_
    refine X_icmp_ge (tgt := 70) (show decode cX5_parseCommand 14 = .ok (.if_icmp .ge 56, 3) by decide +kernel) (by decide) ⟨fun c4 => ?_, fun c4 => ?_⟩
    · have w := w.1 c4
      refine X_iload_n (j := 2) (show decode cX5_parseCommand 70 = .ok (.iload_n 2, 1) by decide +kernel) rfl rfl ?_
      refine X_aload_n (j := 0) (show decode cX5_parseCommand 71 = .ok (.aload_n 0, 1) by decide +kernel) rfl rfl ?_
      obtain ⟨s5, w⟩ := w
      refine X_getI fl_X5_15 (show decode cX5_parseCommand 72 = .ok (.getfield 15, 3) by decide +kernel) s5 ?_
      refine X_icmp_eq (tgt := 88) (show decode cX5_parseCommand 75 = .ok (.if_icmp .eq 13, 3) by decide +kernel) (by decide) ⟨fun c6 => ?_, fun c6 => ?_⟩
      · have w := w.1 c6
        refine X_iload_n (j := 2) (show decode cX5_parseCommand 88 = .ok (.iload_n 2, 1) by decide +kernel) rfl rfl ?_
        refine X_goto (tgt := 93) (show decode cX5_parseCommand 89 = .ok (.goto 4, 3) by decide +kernel) (by decide) ?_
        exact X_iret ⟨(show decode cX5_parseCommand 93 = .ok (.ireturn, 1) by decide +kernel), .int, rfl, rfl⟩ ⟨_, rfl, w⟩
      · have w := w.2 c6
        refine X_aload_n (j := 0) (show decode cX5_parseCommand 78 = .ok (.aload_n 0, 1) by decide +kernel) rfl rfl ?_
        refine X_iload_n (j := 2) (show decode cX5_parseCommand 79 = .ok (.iload_n 2, 1) by decide +kernel) rfl rfl ?_
        refine X_bipush (v := (nI 59)) (show decode cX5_parseCommand 80 = .ok (.bipush 59, 2) by decide +kernel) (by decide) ?_
        refine X_vI (rc' := 0) (rs' := 0) (as := [.int _, .int _]) mv_X5_55 (show decode cX5_parseCommand 82 = .ok (.invokevirtual 55, 3) by decide +kernel) (by decide) (Nat.le_of_ble_eq_true rfl) (Nat.le_of_ble_eq_true rfl) rfl rfl (Nat.le_of_ble_eq_true rfl) (rcvD s5 (by decide) rfl) (kX5_isAt w) (fun E h hk => hk.elim) (fun r8 h7 w => ?_)
        refine X_if_eq (tgt := 92) (show decode cX5_parseCommand 85 = .ok (.ifCond .eq 7, 3) by decide +kernel) (by decide) ⟨fun c9 => ?_, fun c9 => ?_⟩
        · have w := w.1 c9
          refine X_iconst (v := (-1)) (show decode cX5_parseCommand 92 = .ok (.iconst (-1), 1) by decide +kernel) (by decide) ?_
          exact X_iret ⟨(show decode cX5_parseCommand 93 = .ok (.ireturn, 1) by decide +kernel), .int, rfl, rfl⟩ ⟨_, rfl, w⟩
        · have w := w.2 c9
          refine X_iload_n (j := 2) (show decode cX5_parseCommand 88 = .ok (.iload_n 2, 1) by decide +kernel) rfl rfl ?_
          refine X_goto (tgt := 93) (show decode cX5_parseCommand 89 = .ok (.goto 4, 3) by decide +kernel) (by decide) ?_
          exact X_iret ⟨(show decode cX5_parseCommand 93 = .ok (.ireturn, 1) by decide +kernel), .int, rfl, rfl⟩ ⟨_, rfl, w⟩
    · have w := w.2 c4
      refine X_aload_n (j := 0) (show decode cX5_parseCommand 17 = .ok (.aload_n 0, 1) by decide +kernel) rfl rfl ?_
      refine X_getstN (j := 0) (host := "InterlockingBox") rfl (by decide) (List.mem_of_getElem? (i := 35) rfl) (show decode cX5_parseCommand 18 = .ok (.getstatic 44, 3) by decide +kernel) ?_
      refine X_iload_n (j := 3) (show decode cX5_parseCommand 21 = .ok (.iload_n 3, 1) by decide +kernel) rfl rfl ?_
      obtain ⟨s10, w⟩ := w
      refine X_aaldC (show decode cX5_parseCommand 22 = .ok (.aaload, 1) by decide +kernel) (isA_eq s3) s10 ?_
      obtain ⟨s11, w⟩ := w
      obtain ⟨s12, w⟩ := w
      refine X_getS (j := 0) (kd := 21) (c := 1) (show decode cX5_parseCommand 23 = .ok (.getfield 47, 3) by decide +kernel) (by decide) rfl rfl (Or.inr ⟨"InterlockingBox", List.mem_of_getElem? (i := 36) rfl⟩) s11 s12 ?_
      show X _ _ _ _ _ _ _ _ (.ref (mR _ _ 0) :: _) _
      refine X_iload_n (j := 1) (show decode cX5_parseCommand 26 = .ok (.iload_n 1, 1) by decide +kernel) rfl rfl ?_
      obtain ⟨s26, w⟩ := w
      refine X_vI (rc' := 0) (rs' := 0) (as := [.ref _, .int _]) mv_X5_51 (show decode cX5_parseCommand 27 = .ok (.invokevirtual 51, 3) by decide +kernel) (by decide) (Nat.le_of_ble_eq_true rfl) (Nat.le_of_ble_eq_true rfl) rfl rfl (Nat.le_of_ble_eq_true rfl) (rcvD s26 (by decide) rfl) (kX5_match w) (fun E h hk => hk.elim) (fun r14 h13 w => ?_)
      refine X_istore (ls' := [(0, .ref _), (1, .int _), (2, .int _), (3, .int _), (4, .int _)]) (show decode cX5_parseCommand 30 = .ok (.istore 4, 2) by decide +kernel) (by decide) rfl ?_
      refine X_iload (j := 4) (show decode cX5_parseCommand 32 = .ok (.iload 4, 2) by decide +kernel) rfl ?_
      refine X_iload_n (j := 2) (show decode cX5_parseCommand 34 = .ok (.iload_n 2, 1) by decide +kernel) rfl rfl ?_
      refine X_icmp_le (tgt := 64) (show decode cX5_parseCommand 35 = .ok (.if_icmp .le 29, 3) by decide +kernel) (by decide) ⟨fun c15 => ?_, fun c15 => ?_⟩
      · have w := w.1 c15
        refine X_iinc (j := 3) (v := _ + (nI 1)) (ls' := [(0, .ref _), (1, .int _), (2, .int _), (3, .int _), (4, .int _)]) (show decode cX5_parseCommand 64 = .ok (.iinc 3 1, 3) by decide +kernel) rfl rfl (Nat.le_of_ble_eq_true rfl) rfl ?_
        refine X_goto (tgt := 9) (show decode cX5_parseCommand 67 = .ok (.goto (-58), 3) by decide +kernel) (by decide) ?_
        refine X_pick (ls' := [(0, .ref _), (1, .int _), (2, .int _), (3, .int _)]) [0, 1, 2, 3] rfl ?_
        exact ih _ _ _ _ _ w
      · have w := w.2 c15
        refine X_aload_n (j := 0) (show decode cX5_parseCommand 38 = .ok (.aload_n 0, 1) by decide +kernel) rfl rfl ?_
        obtain ⟨s16, w⟩ := w
        refine X_getI fl_X5_30 (show decode cX5_parseCommand 39 = .ok (.getfield 30, 3) by decide +kernel) s16 ?_
        refine X_bipush (v := (nI 13)) (show decode cX5_parseCommand 42 = .ok (.bipush 13, 2) by decide +kernel) (by decide) ?_
        refine X_icmp_ge (tgt := 64) (show decode cX5_parseCommand 44 = .ok (.if_icmp .ge 20, 3) by decide +kernel) (by decide) ⟨fun c17 => ?_, fun c17 => ?_⟩
        · have w := w.1 c17
          refine X_iinc (j := 3) (v := _ + (nI 1)) (ls' := [(0, .ref _), (1, .int _), (2, .int _), (3, .int _), (4, .int _)]) (show decode cX5_parseCommand 64 = .ok (.iinc 3 1, 3) by decide +kernel) rfl rfl (Nat.le_of_ble_eq_true rfl) rfl ?_
          refine X_goto (tgt := 9) (show decode cX5_parseCommand 67 = .ok (.goto (-58), 3) by decide +kernel) (by decide) ?_
          refine X_pick (ls' := [(0, .ref _), (1, .int _), (2, .int _), (3, .int _)]) [0, 1, 2, 3] rfl ?_
          exact ih _ _ _ _ _ w
        · have w := w.2 c17
          refine X_iload (j := 4) (show decode cX5_parseCommand 47 = .ok (.iload 4, 2) by decide +kernel) rfl ?_
          refine X_istore_n (ls' := [(0, .ref _), (1, .int _), (2, .int _), (3, .int _), (4, .int _)]) (show decode cX5_parseCommand 49 = .ok (.istore_n 2, 1) by decide +kernel) rfl (by decide) rfl ?_
          refine X_aload_n (j := 0) (show decode cX5_parseCommand 50 = .ok (.aload_n 0, 1) by decide +kernel) rfl rfl ?_
          refine X_getR fl_X5_21 (show decode cX5_parseCommand 51 = .ok (.getfield 21, 3) by decide +kernel) s16 ?_
          refine X_aload_n (j := 0) (show decode cX5_parseCommand 54 = .ok (.aload_n 0, 1) by decide +kernel) rfl rfl ?_
          refine X_getI fl_X5_30 (show decode cX5_parseCommand 55 = .ok (.getfield 30, 3) by decide +kernel) s16 ?_
          refine X_getstN (j := 0) (host := "InterlockingBox") rfl (by decide) (List.mem_of_getElem? (i := 35) rfl) (show decode cX5_parseCommand 58 = .ok (.getstatic 44, 3) by decide +kernel) ?_
          refine X_iload_n (j := 3) (show decode cX5_parseCommand 61 = .ok (.iload_n 3, 1) by decide +kernel) rfl rfl ?_
          obtain ⟨s18, w⟩ := w
          obtain ⟨s19, w⟩ := w
          refine X_aaldC (show decode cX5_parseCommand 62 = .ok (.aaload, 1) by decide +kernel) (isA_eq s18) s19 ?_
          obtain ⟨s20, w⟩ := w
          obtain ⟨s21, w⟩ := w
          obtain ⟨s22, w⟩ := w
          obtain ⟨s23, w⟩ := w
          obtain ⟨s24, w⟩ := w
          refine X_aastC (show decode cX5_parseCommand 63 = .ok (.aastore, 1) by decide +kernel) (isA_eq s20) s21 s22 s23 s24 ?_
          have w := w _ rfl
          refine X_iinc (j := 3) (v := _ + (nI 1)) (ls' := [(0, .ref _), (1, .int _), (2, .int _), (3, .int _), (4, .int _)]) (show decode cX5_parseCommand 64 = .ok (.iinc 3 1, 3) by decide +kernel) rfl rfl (Nat.le_of_ble_eq_true rfl) rfl ?_
          refine X_goto (tgt := 9) (show decode cX5_parseCommand 67 = .ok (.goto (-58), 3) by decide +kernel) (by decide) ?_
          refine X_pick (ls' := [(0, .ref _), (1, .int _), (2, .int _), (3, .int _)]) [0, 1, 2, 3] rfl ?_
          exact ih _ _ _ _ _ w
set_option maxRecDepth 100000 in
set_option maxHeartbeats 4000000 in
theorem kX5_parseCommand {a0 : Nat} {a1 : Int32} {h : AH} {K : Int32 → AH → Prop} (w : wX5_parseCommand a0 a1 h K) : Cn mX5_parseCommand (cwd mX5_parseCommand) 7 0 0 [.ref a0, .int a1] h (KI K) T0 := by
  refine Cn_of (by decide +kernel) rfl (Nat.le_of_ble_eq_true rfl) ?_
  show X mX5_parseCommand 7 (KI K) T0 0 0 0 [(0, .ref a0), (1, .int a1)] [] h
  unfold wX5_parseCommand at w
  refine X_iconst (v := (-1)) (show decode cX5_parseCommand 0 = .ok (.iconst (-1), 1) by decide +kernel) (by decide) ?_
  refine X_istore_n (ls' := [(0, .ref _), (1, .int _), (2, .int _)]) (show decode cX5_parseCommand 1 = .ok (.istore_n 2, 1) by decide +kernel) rfl (by decide) rfl ?_
  refine X_aload_n (j := 0) (show decode cX5_parseCommand 2 = .ok (.aload_n 0, 1) by decide +kernel) rfl rfl ?_
  refine X_iload_n (j := 1) (show decode cX5_parseCommand 3 = .ok (.iload_n 1, 1) by decide +kernel) rfl rfl ?_
  obtain ⟨s1, w⟩ := w
  refine X_putI fp_X5_33 (show decode cX5_parseCommand 4 = .ok (.putfield 33, 3) by decide +kernel) (fun z => nomatch z) s1 rfl rfl ?_
  have w := w _ rfl
  refine X_iconst (v := (nI 0)) (show decode cX5_parseCommand 7 = .ok (.iconst 0, 1) by decide +kernel) (by decide) ?_
  refine X_istore_n (ls' := [(0, .ref _), (1, .int _), (2, .int _), (3, .int _)]) (show decode cX5_parseCommand 8 = .ok (.istore_n 3, 1) by decide +kernel) rfl (by decide) rfl ?_
  obtain ⟨n27, w⟩ := w
  exact kX5_parseCommand_L9  n27 _ _ _ _ _ w
set_option maxRecDepth 100000 in
set_option maxHeartbeats 4000000 in
theorem kX5_parse_L9 {K : Int32 → AH → Prop}    : ∀ (n : Nat) (x0 : Nat) (x1 : Int32) (x2 : Int32) (h : AH), wX5_parse_L9 K   n x0 x1 x2 h → X mX5_parse 8 (KI K) T0 0 0 9 [(0, .ref x0), (1, .int x1), (2, .int x2)] [] h := by
  intro n
  induction n with
  | zero => intro _ _ _ _ w; exact w.elim
  | succ n ih =>
    intro x0 x1 x2 h w
    rw [wX5_parse_L9] at w
    refine X_iload_n (j := 2) (show decode cX5_parse 9 = .ok (.iload_n 2, 1) by decide +kernel) rfl rfl ?_
    refine X_bipush (v := (nI 13)) (show decode cX5_parse 10 = .ok (.bipush 13, 2) by decide +kernel) (by decide) ?_
    refine X_icmp_ge (tgt := 58) (show decode cX5_parse 12 = .ok (.if_icmp .ge 46, 3) by decide +kernel) (by decide) ⟨fun c3 => ?_, fun c3 => ?_⟩
    · have w := w.1 c3
      refine X_iconst (v := (nI 0)) (show decode cX5_parse 58 = .ok (.iconst 0, 1) by decide +kernel) (by decide) ?_
      exact X_iret ⟨(show decode cX5_parse 59 = .ok (.ireturn, 1) by decide +kernel), .boolean, rfl, (by decide)⟩ ⟨_, rfl, w⟩
    · have w := w.2 c3
      refine X_aload_n (j := 0) (show decode cX5_parse 15 = .ok (.aload_n 0, 1) by decide +kernel) rfl rfl ?_
      refine X_iload_n (j := 1) (show decode cX5_parse 16 = .ok (.iload_n 1, 1) by decide +kernel) rfl rfl ?_
      obtain ⟨s10, w⟩ := w
      refine X_vI (rc' := 0) (rs' := 0) (as := [.int _]) mv_X5_40 (show decode cX5_parse 17 = .ok (.invokevirtual 40, 3) by decide +kernel) (by decide) (Nat.le_of_ble_eq_true rfl) (Nat.le_of_ble_eq_true rfl) rfl rfl (Nat.le_of_ble_eq_true rfl) (rcvD s10 (by decide) rfl) (kX5_parseCommand w) (fun E h hk => hk.elim) (fun r5 h4 w => ?_)
      refine X_istore_n (ls' := [(0, .ref _), (1, .int _), (2, .int _), (3, .int _)]) (show decode cX5_parse 20 = .ok (.istore_n 3, 1) by decide +kernel) rfl (by decide) rfl ?_
      refine X_iload_n (j := 3) (show decode cX5_parse 21 = .ok (.iload_n 3, 1) by decide +kernel) rfl rfl ?_
      refine X_iconst (v := (-1)) (show decode cX5_parse 22 = .ok (.iconst (-1), 1) by decide +kernel) (by decide) ?_
      refine X_icmp_ne (tgt := 28) (show decode cX5_parse 23 = .ok (.if_icmp .ne 5, 3) by decide +kernel) (by decide) ⟨fun c6 => ?_, fun c6 => ?_⟩
      · have w := w.1 c6
        refine X_aload_n (j := 0) (show decode cX5_parse 28 = .ok (.aload_n 0, 1) by decide +kernel) rfl rfl ?_
        refine X_dup (show decode cX5_parse 29 = .ok (.dup, 1) by decide +kernel) rfl ?_
        obtain ⟨s7, w⟩ := w
        refine X_getI fl_X5_30 (show decode cX5_parse 30 = .ok (.getfield 30, 3) by decide +kernel) s7 ?_
        refine X_iconst (v := (nI 1)) (show decode cX5_parse 33 = .ok (.iconst 1, 1) by decide +kernel) (by decide) ?_
        refine X_iadd (show decode cX5_parse 34 = .ok (.iadd, 1) by decide +kernel) ?_
        refine X_putI fp_X5_30 (show decode cX5_parse 35 = .ok (.putfield 30, 3) by decide +kernel) (fun z => nomatch z) s7 rfl rfl ?_
        have w := w _ rfl
        refine X_iload_n (j := 3) (show decode cX5_parse 38 = .ok (.iload_n 3, 1) by decide +kernel) rfl rfl ?_
        refine X_aload_n (j := 0) (show decode cX5_parse 39 = .ok (.aload_n 0, 1) by decide +kernel) rfl rfl ?_
        refine X_getI fl_X5_15 (show decode cX5_parse 40 = .ok (.getfield 15, 3) by decide +kernel) s7 ?_
        refine X_icmp_ne (tgt := 48) (show decode cX5_parse 43 = .ok (.if_icmp .ne 5, 3) by decide +kernel) (by decide) ⟨fun c9 => ?_, fun c9 => ?_⟩
        · have w := w.1 c9
          refine X_iload_n (j := 3) (show decode cX5_parse 48 = .ok (.iload_n 3, 1) by decide +kernel) rfl rfl ?_
          refine X_iconst (v := (nI 1)) (show decode cX5_parse 49 = .ok (.iconst 1, 1) by decide +kernel) (by decide) ?_
          refine X_iadd (show decode cX5_parse 50 = .ok (.iadd, 1) by decide +kernel) ?_
          refine X_istore_n (ls' := [(0, .ref _), (1, .int _), (2, .int _), (3, .int _)]) (show decode cX5_parse 51 = .ok (.istore_n 1, 1) by decide +kernel) rfl (by decide) rfl ?_
          refine X_iinc (j := 2) (v := _ + (nI 1)) (ls' := [(0, .ref _), (1, .int _), (2, .int _), (3, .int _)]) (show decode cX5_parse 52 = .ok (.iinc 2 1, 3) by decide +kernel) rfl rfl (Nat.le_of_ble_eq_true rfl) rfl ?_
          refine X_goto (tgt := 9) (show decode cX5_parse 55 = .ok (.goto (-46), 3) by decide +kernel) (by decide) ?_
          refine X_pick (ls' := [(0, .ref _), (1, .int _), (2, .int _)]) [0, 1, 2] rfl ?_
          exact ih _ _ _ _ w
        · have w := w.2 c9
          refine X_iconst (v := (nI 1)) (show decode cX5_parse 46 = .ok (.iconst 1, 1) by decide +kernel) (by decide) ?_
          exact X_iret ⟨(show decode cX5_parse 47 = .ok (.ireturn, 1) by decide +kernel), .boolean, rfl, (by decide)⟩ ⟨_, rfl, w⟩
      · have w := w.2 c6
        refine X_iconst (v := (nI 0)) (show decode cX5_parse 26 = .ok (.iconst 0, 1) by decide +kernel) (by decide) ?_
        exact X_iret ⟨(show decode cX5_parse 27 = .ok (.ireturn, 1) by decide +kernel), .boolean, rfl, (by decide)⟩ ⟨_, rfl, w⟩
set_option maxRecDepth 100000 in
set_option maxHeartbeats 4000000 in
theorem kX5_parse {a0 : Nat} {h : AH} {K : Int32 → AH → Prop} (w : wX5_parse a0 h K) : Cn mX5_parse (cwd mX5_parse) 8 0 0 [.ref a0] h (KI K) T0 := by
  refine Cn_of (by decide +kernel) rfl (Nat.le_of_ble_eq_true rfl) ?_
  show X mX5_parse 8 (KI K) T0 0 0 0 [(0, .ref a0)] [] h
  unfold wX5_parse at w
  refine X_iconst (v := (nI 0)) (show decode cX5_parse 0 = .ok (.iconst 0, 1) by decide +kernel) (by decide) ?_
  refine X_istore_n (ls' := [(0, .ref _), (1, .int _)]) (show decode cX5_parse 1 = .ok (.istore_n 1, 1) by decide +kernel) rfl (by decide) rfl ?_
  refine X_aload_n (j := 0) (show decode cX5_parse 2 = .ok (.aload_n 0, 1) by decide +kernel) rfl rfl ?_
  refine X_iconst (v := (nI 0)) (show decode cX5_parse 3 = .ok (.iconst 0, 1) by decide +kernel) (by decide) ?_
  obtain ⟨s1, w⟩ := w
  refine X_putI fp_X5_30 (show decode cX5_parse 4 = .ok (.putfield 30, 3) by decide +kernel) (fun z => nomatch z) s1 rfl rfl ?_
  have w := w _ rfl
  refine X_iconst (v := (nI 0)) (show decode cX5_parse 7 = .ok (.iconst 0, 1) by decide +kernel) (by decide) ?_
  refine X_istore_n (ls' := [(0, .ref _), (1, .int _), (2, .int _)]) (show decode cX5_parse 8 = .ok (.istore_n 2, 1) by decide +kernel) rfl (by decide) rfl ?_
  obtain ⟨n11, w⟩ := w
  exact kX5_parse_L9  n11 _ _ _ _ w
set_option maxRecDepth 100000 in
set_option maxHeartbeats 4000000 in
theorem kX5_clear {a0 : Nat} {h : AH} {K : AH → Prop} (w : wX5_clear a0 h K) : Cn mX5_clear (cwd mX5_clear) 1 0 0 [.ref a0] h (KV K) T0 := by
  refine Cn_of (by decide +kernel) rfl (Nat.le_of_ble_eq_true rfl) ?_
  show X mX5_clear 1 (KV K) T0 0 0 0 [(0, .ref a0)] [] h
  unfold wX5_clear at w
  refine X_aload_n (j := 0) (show decode cX5_clear 0 = .ok (.aload_n 0, 1) by decide +kernel) rfl rfl ?_
  refine X_iconst (v := (nI 0)) (show decode cX5_clear 1 = .ok (.iconst 0, 1) by decide +kernel) (by decide) ?_
  obtain ⟨s1, w⟩ := w
  refine X_putI fp_X5_15 (show decode cX5_clear 2 = .ok (.putfield 15, 3) by decide +kernel) (fun z => nomatch z) s1 rfl rfl ?_
  have w := w _ rfl
  exact X_vret ⟨(show decode cX5_clear 5 = .ok (.return_, 1) by decide +kernel), rfl⟩ ⟨rfl, w⟩
set_option maxRecDepth 100000 in
set_option maxHeartbeats 4000000 in
theorem kX5_number_J26 {K : Int32 → AH → Prop}   (x0 : Nat) (x1 : Int32) (x2 : Int32) (y0 : Int32) (h : AH) (w : wX5_number_J26 K  x0 x1 x2 y0 h) : X mX5_number 1 (KI K) T0 0 0 26 [(0, .ref x0), (1, .int x1), (2, .int x2)] [.int y0] h := by
  unfold wX5_number_J26 at w
  refine X_istore_n (ls' := [(0, .ref _), (1, .int _), (2, .int _), (3, .int _)]) (show decode cX5_number 26 = .ok (.istore_n 3, 1) by decide +kernel) rfl (by decide) rfl ?_
  refine X_iload_n (j := 3) (show decode cX5_number 27 = .ok (.iload_n 3, 1) by decide +kernel) rfl rfl ?_
  refine X_if_eq (tgt := 42) (show decode cX5_number 28 = .ok (.ifCond .eq 14, 3) by decide +kernel) (by decide) ⟨fun c2 => ?_, fun c2 => ?_⟩
  · have w := w.1 c2
    refine X_iconst (v := (-1)) (show decode cX5_number 42 = .ok (.iconst (-1), 1) by decide +kernel) (by decide) ?_
    exact X_iret ⟨(show decode cX5_number 43 = .ok (.ireturn, 1) by decide +kernel), .int, rfl, rfl⟩ ⟨_, rfl, w⟩
  · have w := w.2 c2
    refine X_aload_n (j := 0) (show decode cX5_number 31 = .ok (.aload_n 0, 1) by decide +kernel) rfl rfl ?_
    obtain ⟨s3, w⟩ := w
    refine X_getR fl_X5_27 (show decode cX5_number 32 = .ok (.getfield 27, 3) by decide +kernel) s3 ?_
    refine X_iload_n (j := 1) (show decode cX5_number 35 = .ok (.iload_n 1, 1) by decide +kernel) rfl rfl ?_
    obtain ⟨s4, w⟩ := w
    obtain ⟨s5, w⟩ := w
    obtain ⟨s6, w⟩ := w
    refine X_aaldA (show decode cX5_number 36 = .ok (.aaload, 1) by decide +kernel) (isA_eq s4) s5 s6 ?_
    refine X_iload_n (j := 2) (show decode cX5_number 37 = .ok (.iload_n 2, 1) by decide +kernel) rfl rfl ?_
    obtain ⟨s7, w⟩ := w
    obtain ⟨s8, w⟩ := w
    refine X_iald (show decode cX5_number 38 = .ok (.iaload, 1) by decide +kernel) (isA_eq s7) s8 ?_
    refine X_goto (tgt := 43) (show decode cX5_number 39 = .ok (.goto 4, 3) by decide +kernel) (by decide) ?_
    exact X_iret ⟨(show decode cX5_number 43 = .ok (.ireturn, 1) by decide +kernel), .int, rfl, rfl⟩ ⟨_, rfl, w⟩
set_option maxRecDepth 100000 in
set_option maxHeartbeats 4000000 in
theorem kX5_number_J25 {K : Int32 → AH → Prop}   (x0 : Nat) (x1 : Int32) (x2 : Int32) (h : AH) (w : wX5_number_J25 K  x0 x1 x2 h) : X mX5_number 1 (KI K) T0 0 0 25 [(0, .ref x0), (1, .int x1), (2, .int x2)] [] h := by
  unfold wX5_number_J25 at w
  refine X_iconst (v := (nI 0)) (show decode cX5_number 25 = .ok (.iconst 0, 1) by decide +kernel) (by decide) ?_
  exact kX5_number_J26  _ _ _ _ _ w
set_option maxRecDepth 100000 in
set_option maxHeartbeats 4000000 in
theorem kX5_number {a0 : Nat} {a1 : Int32} {a2 : Int32} {h : AH} {K : Int32 → AH → Prop} (w : wX5_number a0 a1 a2 h K) : Cn mX5_number (cwd mX5_number) 1 0 0 [.ref a0, .int a1, .int a2] h (KI K) T0 := by
  refine Cn_of (by decide +kernel) rfl (Nat.le_of_ble_eq_true rfl) ?_
  show X mX5_number 1 (KI K) T0 0 0 0 [(0, .ref a0), (1, .int a1), (2, .int a2)] [] h
  unfold wX5_number at w
  refine X_iload_n (j := 1) (show decode cX5_number 0 = .ok (.iload_n 1, 1) by decide +kernel) rfl rfl ?_
  refine X_if_lt (tgt := 25) (show decode cX5_number 1 = .ok (.ifCond .lt 24, 3) by decide +kernel) (by decide) ⟨fun c1 => ?_, fun c1 => ?_⟩
  · have w := w.1 c1
    exact kX5_number_J25  _ _ _ _ w
  · have w := w.2 c1
    refine X_iload_n (j := 1) (show decode cX5_number 4 = .ok (.iload_n 1, 1) by decide +kernel) rfl rfl ?_
    refine X_aload_n (j := 0) (show decode cX5_number 5 = .ok (.aload_n 0, 1) by decide +kernel) rfl rfl ?_
    obtain ⟨s9, w⟩ := w
    refine X_getI fl_X5_30 (show decode cX5_number 6 = .ok (.getfield 30, 3) by decide +kernel) s9 ?_
    refine X_icmp_ge (tgt := 25) (show decode cX5_number 9 = .ok (.if_icmp .ge 16, 3) by decide +kernel) (by decide) ⟨fun c10 => ?_, fun c10 => ?_⟩
    · have w := w.1 c10
      exact kX5_number_J25  _ _ _ _ w
    · have w := w.2 c10
      refine X_iload_n (j := 2) (show decode cX5_number 12 = .ok (.iload_n 2, 1) by decide +kernel) rfl rfl ?_
      refine X_if_lt (tgt := 25) (show decode cX5_number 13 = .ok (.ifCond .lt 12, 3) by decide +kernel) (by decide) ⟨fun c11 => ?_, fun c11 => ?_⟩
      · have w := w.1 c11
        exact kX5_number_J25  _ _ _ _ w
      · have w := w.2 c11
        refine X_iload_n (j := 2) (show decode cX5_number 16 = .ok (.iload_n 2, 1) by decide +kernel) rfl rfl ?_
        refine X_iconst (v := (nI 3)) (show decode cX5_number 17 = .ok (.iconst 3, 1) by decide +kernel) (by decide) ?_
        refine X_icmp_ge (tgt := 25) (show decode cX5_number 18 = .ok (.if_icmp .ge 7, 3) by decide +kernel) (by decide) ⟨fun c12 => ?_, fun c12 => ?_⟩
        · have w := w.1 c12
          exact kX5_number_J25  _ _ _ _ w
        · have w := w.2 c12
          refine X_iconst (v := (nI 1)) (show decode cX5_number 21 = .ok (.iconst 1, 1) by decide +kernel) (by decide) ?_
          refine X_goto (tgt := 26) (show decode cX5_number 22 = .ok (.goto 4, 3) by decide +kernel) (by decide) ?_
          exact kX5_number_J26  _ _ _ _ _ w
set_option maxRecDepth 100000 in
set_option maxHeartbeats 4000000 in
theorem kX5_command {a0 : Nat} {a1 : Int32} {h : AH} {K : Nat → AH → Prop} (w : wX5_command a0 a1 h K) : Cn mX5_command (cwd mX5_command) 1 0 0 [.ref a0, .int a1] h (KR K) T0 := by
  refine Cn_of (by decide +kernel) rfl (Nat.le_of_ble_eq_true rfl) ?_
  show X mX5_command 1 (KR K) T0 0 0 0 [(0, .ref a0), (1, .int a1)] [] h
  unfold wX5_command at w
  refine X_iload_n (j := 1) (show decode cX5_command 0 = .ok (.iload_n 1, 1) by decide +kernel) rfl rfl ?_
  refine X_if_lt (tgt := 21) (show decode cX5_command 1 = .ok (.ifCond .lt 20, 3) by decide +kernel) (by decide) ⟨fun c1 => ?_, fun c1 => ?_⟩
  · have w := w.1 c1
    refine X_getstR (j := 2) rfl (by decide) gz_X5_36 (show decode cX5_command 21 = .ok (.getstatic 36, 3) by decide +kernel) ?_
    exact X_aret ⟨(show decode cX5_command 24 = .ok (.areturn, 1) by decide +kernel), Or.inl ⟨_, rfl⟩⟩ ⟨_, rfl, w⟩
  · have w := w.2 c1
    refine X_iload_n (j := 1) (show decode cX5_command 4 = .ok (.iload_n 1, 1) by decide +kernel) rfl rfl ?_
    refine X_aload_n (j := 0) (show decode cX5_command 5 = .ok (.aload_n 0, 1) by decide +kernel) rfl rfl ?_
    obtain ⟨s2, w⟩ := w
    refine X_getI fl_X5_30 (show decode cX5_command 6 = .ok (.getfield 30, 3) by decide +kernel) s2 ?_
    refine X_icmp_ge (tgt := 21) (show decode cX5_command 9 = .ok (.if_icmp .ge 12, 3) by decide +kernel) (by decide) ⟨fun c3 => ?_, fun c3 => ?_⟩
    · have w := w.1 c3
      refine X_getstR (j := 2) rfl (by decide) gz_X5_36 (show decode cX5_command 21 = .ok (.getstatic 36, 3) by decide +kernel) ?_
      exact X_aret ⟨(show decode cX5_command 24 = .ok (.areturn, 1) by decide +kernel), Or.inl ⟨_, rfl⟩⟩ ⟨_, rfl, w⟩
    · have w := w.2 c3
      refine X_aload_n (j := 0) (show decode cX5_command 12 = .ok (.aload_n 0, 1) by decide +kernel) rfl rfl ?_
      refine X_getR fl_X5_21 (show decode cX5_command 13 = .ok (.getfield 21, 3) by decide +kernel) s2 ?_
      refine X_iload_n (j := 1) (show decode cX5_command 16 = .ok (.iload_n 1, 1) by decide +kernel) rfl rfl ?_
      obtain ⟨s4, w⟩ := w
      obtain ⟨s5, w⟩ := w
      refine X_aaldC (show decode cX5_command 17 = .ok (.aaload, 1) by decide +kernel) (isA_eq s4) s5 ?_
      refine X_goto (tgt := 24) (show decode cX5_command 18 = .ok (.goto 6, 3) by decide +kernel) (by decide) ?_
      exact X_aret ⟨(show decode cX5_command 24 = .ok (.areturn, 1) by decide +kernel), Or.inl ⟨_, rfl⟩⟩ ⟨_, rfl, w⟩
set_option maxRecDepth 100000 in
set_option maxHeartbeats 4000000 in
theorem kJord {a0 : Nat} {h : AH} {K : Int32 → AH → Prop} (w : wJord a0 h K) : Cn mJord (cwd mJord) 1 0 0 [.ref a0] h (KI K) T0 := by
  refine Cn_of (by decide +kernel) rfl (Nat.le_of_ble_eq_true rfl) ?_
  show X mJord 1 (KI K) T0 0 0 0 [(0, .ref a0)] [] h
  unfold wJord at w
  refine X_aload_n (j := 0) (show decode cJord 0 = .ok (.aload_n 0, 1) by decide +kernel) rfl rfl ?_
  obtain ⟨s1, w⟩ := w
  obtain ⟨s2, w⟩ := w
  refine X_getS (j := 1) (kd := 21) (c := 0) (show decode cJord 1 = .ok (.getfield 7, 3) by decide +kernel) (by decide) rfl rfl (Or.inl (gw_of (List.mem_of_getElem? (i := 1754) (by decide +kernel)) (by decide +kernel))) s1 s2 ?_
  show X _ _ _ _ _ _ _ _ (.int (mI _ _ 1) :: _) _
  exact X_iret ⟨(show decode cJord 4 = .ok (.ireturn, 1) by decide +kernel), .int, rfl, rfl⟩ ⟨_, rfl, w⟩
set_option maxRecDepth 100000 in
set_option maxHeartbeats 4000000 in
theorem kX9_execute {a0 : Nat} {a1 : Int32} {h : AH} {K : Int32 → AH → Prop} (w : wX9_execute a0 a1 h K) : Cn mX9_execute (cwd mX9_execute) 7 0 0 [.ref a0, .int a1] h (KI K) T0 := by
  refine Cn_of (by decide +kernel) rfl (Nat.le_of_ble_eq_true rfl) ?_
  show X mX9_execute 7 (KI K) T0 0 0 0 [(0, .ref a0), (1, .int a1)] [] h
  unfold wX9_execute at w
  refine X_aload_n (j := 0) (show decode cX9_execute 0 = .ok (.aload_n 0, 1) by decide +kernel) rfl rfl ?_
  obtain ⟨s1, w⟩ := w
  refine X_getR fl_X9_39 (show decode cX9_execute 1 = .ok (.getfield 39, 3) by decide +kernel) s1 ?_
  refine X_iload_n (j := 1) (show decode cX9_execute 4 = .ok (.iload_n 1, 1) by decide +kernel) rfl rfl ?_
  refine X_iconst (v := (nI 0)) (show decode cX9_execute 5 = .ok (.iconst 0, 1) by decide +kernel) (by decide) ?_
  obtain ⟨s68, w⟩ := w
  refine X_vI (rc' := 0) (rs' := 0) (as := [.int _, .int _]) mv_X9_411 (show decode cX9_execute 6 = .ok (.invokevirtual 411, 3) by decide +kernel) (by decide) (Nat.le_of_ble_eq_true rfl) (Nat.le_of_ble_eq_true rfl) rfl rfl (Nat.le_of_ble_eq_true rfl) (rcvD s68 (by decide) rfl) (kX5_number w) (fun E h hk => hk.elim) (fun r3 h2 w => ?_)
  refine X_istore_n (ls' := [(0, .ref _), (1, .int _), (2, .int _)]) (show decode cX9_execute 9 = .ok (.istore_n 2, 1) by decide +kernel) rfl (by decide) rfl ?_
  refine X_aload_n (j := 0) (show decode cX9_execute 10 = .ok (.aload_n 0, 1) by decide +kernel) rfl rfl ?_
  obtain ⟨s4, w⟩ := w
  refine X_getR fl_X9_39 (show decode cX9_execute 11 = .ok (.getfield 39, 3) by decide +kernel) s4 ?_
  refine X_iload_n (j := 1) (show decode cX9_execute 14 = .ok (.iload_n 1, 1) by decide +kernel) rfl rfl ?_
  refine X_iconst (v := (nI 1)) (show decode cX9_execute 15 = .ok (.iconst 1, 1) by decide +kernel) (by decide) ?_
  obtain ⟨s67, w⟩ := w
  refine X_vI (rc' := 0) (rs' := 0) (as := [.int _, .int _]) mv_X9_411 (show decode cX9_execute 16 = .ok (.invokevirtual 411, 3) by decide +kernel) (by decide) (Nat.le_of_ble_eq_true rfl) (Nat.le_of_ble_eq_true rfl) rfl rfl (Nat.le_of_ble_eq_true rfl) (rcvD s67 (by decide) rfl) (kX5_number w) (fun E h hk => hk.elim) (fun r6 h5 w => ?_)
  refine X_istore_n (ls' := [(0, .ref _), (1, .int _), (2, .int _), (3, .int _)]) (show decode cX9_execute 19 = .ok (.istore_n 3, 1) by decide +kernel) rfl (by decide) rfl ?_
  refine X_aload_n (j := 0) (show decode cX9_execute 20 = .ok (.aload_n 0, 1) by decide +kernel) rfl rfl ?_
  obtain ⟨s7, w⟩ := w
  refine X_getR fl_X9_39 (show decode cX9_execute 21 = .ok (.getfield 39, 3) by decide +kernel) s7 ?_
  refine X_iload_n (j := 1) (show decode cX9_execute 24 = .ok (.iload_n 1, 1) by decide +kernel) rfl rfl ?_
  refine X_iconst (v := (nI 2)) (show decode cX9_execute 25 = .ok (.iconst 2, 1) by decide +kernel) (by decide) ?_
  obtain ⟨s66, w⟩ := w
  refine X_vI (rc' := 0) (rs' := 0) (as := [.int _, .int _]) mv_X9_411 (show decode cX9_execute 26 = .ok (.invokevirtual 411, 3) by decide +kernel) (by decide) (Nat.le_of_ble_eq_true rfl) (Nat.le_of_ble_eq_true rfl) rfl rfl (Nat.le_of_ble_eq_true rfl) (rcvD s66 (by decide) rfl) (kX5_number w) (fun E h hk => hk.elim) (fun r9 h8 w => ?_)
  refine X_istore (ls' := [(0, .ref _), (1, .int _), (2, .int _), (3, .int _), (4, .int _)]) (show decode cX9_execute 29 = .ok (.istore 4, 2) by decide +kernel) (by decide) rfl ?_
  refine X_getstR (j := 1) rfl (by decide) gz_X9_413 (show decode cX9_execute 31 = .ok (.getstatic 413, 3) by decide +kernel) ?_
  refine X_aload_n (j := 0) (show decode cX9_execute 34 = .ok (.aload_n 0, 1) by decide +kernel) rfl rfl ?_
  obtain ⟨s10, w⟩ := w
  refine X_getR fl_X9_39 (show decode cX9_execute 35 = .ok (.getfield 39, 3) by decide +kernel) s10 ?_
  refine X_iload_n (j := 1) (show decode cX9_execute 38 = .ok (.iload_n 1, 1) by decide +kernel) rfl rfl ?_
  obtain ⟨s65, w⟩ := w
  refine X_vR (rc' := 0) (rs' := 0) (as := [.int _]) mv_X9_419 (show decode cX9_execute 39 = .ok (.invokevirtual 419, 3) by decide +kernel) (by decide) (Nat.le_of_ble_eq_true rfl) (Nat.le_of_ble_eq_true rfl) rfl rfl (Nat.le_of_ble_eq_true rfl) (rcvD s65 (by decide) rfl) (kX5_command w) (fun E h hk => hk.elim) (fun r12 h11 w => ?_)
  obtain ⟨s63, w⟩ := w
  obtain ⟨s64, w⟩ := w
  refine X_uI (rc' := 0) (rs' := 0) (as := []) mu_X9_423 (show decode cX9_execute 42 = .ok (.invokevirtual 423, 3) by decide +kernel) (by decide) (Nat.le_of_ble_eq_true rfl) (Nat.le_of_ble_eq_true rfl) rfl rfl (Nat.le_of_ble_eq_true rfl) (Or.inr ⟨s64, Or.inr ⟨s63, rfl⟩⟩) (kJord w) (fun r14 h13 w => ?_)
  obtain ⟨s15, w⟩ := w
  obtain ⟨s16, w⟩ := w
  refine X_iald (show decode cX9_execute 45 = .ok (.iaload, 1) by decide +kernel) (isA_eq s15) s16 ?_
  by_cases z1 : mI h13 13 r14.toNatClampNeg = (nI 1)
  · have w := w.1 z1
    refine X_tableIn (tgt := 100) (show decode cX9_execute 46 = .ok (.tableswitch 155 1 10 #[54, 66, 81, 94, 104, 110, 119, 128, 137, 146], 54) by decide +kernel) (by rw [z1]; decide) (by rw [z1]; decide) (by rw [z1] <;> rfl) (by decide) ?_
    refine X_aload_n (j := 0) (show decode cX9_execute 100 = .ok (.aload_n 0, 1) by decide +kernel) rfl rfl ?_
    obtain ⟨s17, w⟩ := w
    refine X_getR fl_X9_12 (show decode cX9_execute 101 = .ok (.getfield 12, 3) by decide +kernel) s17 ?_
    obtain ⟨s18, w⟩ := w
    refine X_getR fl_X9_72 (show decode cX9_execute 104 = .ok (.getfield 72, 3) by decide +kernel) s18 ?_
    refine X_iload_n (j := 2) (show decode cX9_execute 107 = .ok (.iload_n 2, 1) by decide +kernel) rfl rfl ?_
    obtain ⟨s21, w⟩ := w
    refine X_vI (rc' := 0) (rs' := 0) (as := [.int _]) mv_X9_76 (show decode cX9_execute 108 = .ok (.invokevirtual 76, 3) by decide +kernel) (by decide) (Nat.le_of_ble_eq_true rfl) (Nat.le_of_ble_eq_true rfl) rfl rfl (Nat.le_of_ble_eq_true rfl) (rcvD s21 (by decide) rfl) (kX4_makeBlock w) (fun E h hk => hk.elim) (fun r20 h19 w => ?_)
    exact X_iret ⟨(show decode cX9_execute 111 = .ok (.ireturn, 1) by decide +kernel), .int, rfl, rfl⟩ ⟨_, rfl, w⟩
  by_cases z2 : mI h13 13 r14.toNatClampNeg = (nI 2)
  · have w := w.2.1 z2
    refine X_tableIn (tgt := 112) (show decode cX9_execute 46 = .ok (.tableswitch 155 1 10 #[54, 66, 81, 94, 104, 110, 119, 128, 137, 146], 54) by decide +kernel) (by rw [z2]; decide) (by rw [z2]; decide) (by rw [z2] <;> rfl) (by decide) ?_
    refine X_aload_n (j := 0) (show decode cX9_execute 112 = .ok (.aload_n 0, 1) by decide +kernel) rfl rfl ?_
    obtain ⟨s22, w⟩ := w
    refine X_getR fl_X9_12 (show decode cX9_execute 113 = .ok (.getfield 12, 3) by decide +kernel) s22 ?_
    obtain ⟨s23, w⟩ := w
    refine X_getR fl_X9_72 (show decode cX9_execute 116 = .ok (.getfield 72, 3) by decide +kernel) s23 ?_
    refine X_iload_n (j := 2) (show decode cX9_execute 119 = .ok (.iload_n 2, 1) by decide +kernel) rfl rfl ?_
    refine X_iload_n (j := 3) (show decode cX9_execute 120 = .ok (.iload_n 3, 1) by decide +kernel) rfl rfl ?_
    refine X_iload (j := 4) (show decode cX9_execute 121 = .ok (.iload 4, 2) by decide +kernel) rfl ?_
    obtain ⟨s26, w⟩ := w
    refine X_vI (rc' := 0) (rs' := 0) (as := [.int _, .int _, .int _]) mv_X9_85 (show decode cX9_execute 123 = .ok (.invokevirtual 85, 3) by decide +kernel) (by decide) (Nat.le_of_ble_eq_true rfl) (Nat.le_of_ble_eq_true rfl) rfl rfl (Nat.le_of_ble_eq_true rfl) (rcvD s26 (by decide) rfl) (kX4_makePoint w) (fun E h hk => hk.elim) (fun r25 h24 w => ?_)
    exact X_iret ⟨(show decode cX9_execute 126 = .ok (.ireturn, 1) by decide +kernel), .int, rfl, rfl⟩ ⟨_, rfl, w⟩
  by_cases z3 : mI h13 13 r14.toNatClampNeg = (nI 3)
  · have w := w.2.2.1 z3
    refine X_tableIn (tgt := 127) (show decode cX9_execute 46 = .ok (.tableswitch 155 1 10 #[54, 66, 81, 94, 104, 110, 119, 128, 137, 146], 54) by decide +kernel) (by rw [z3]; decide) (by rw [z3]; decide) (by rw [z3] <;> rfl) (by decide) ?_
    refine X_aload_n (j := 0) (show decode cX9_execute 127 = .ok (.aload_n 0, 1) by decide +kernel) rfl rfl ?_
    obtain ⟨s27, w⟩ := w
    refine X_getR fl_X9_12 (show decode cX9_execute 128 = .ok (.getfield 12, 3) by decide +kernel) s27 ?_
    obtain ⟨s28, w⟩ := w
    refine X_getR fl_X9_72 (show decode cX9_execute 131 = .ok (.getfield 72, 3) by decide +kernel) s28 ?_
    refine X_iload_n (j := 2) (show decode cX9_execute 134 = .ok (.iload_n 2, 1) by decide +kernel) rfl rfl ?_
    refine X_iload_n (j := 3) (show decode cX9_execute 135 = .ok (.iload_n 3, 1) by decide +kernel) rfl rfl ?_
    obtain ⟨s31, w⟩ := w
    refine X_vI (rc' := 0) (rs' := 0) (as := [.int _, .int _]) mv_X9_89 (show decode cX9_execute 136 = .ok (.invokevirtual 89, 3) by decide +kernel) (by decide) (Nat.le_of_ble_eq_true rfl) (Nat.le_of_ble_eq_true rfl) rfl rfl (Nat.le_of_ble_eq_true rfl) (rcvD s31 (by decide) rfl) (kX4_makeLink w) (fun E h hk => hk.elim) (fun r30 h29 w => ?_)
    exact X_iret ⟨(show decode cX9_execute 139 = .ok (.ireturn, 1) by decide +kernel), .int, rfl, rfl⟩ ⟨_, rfl, w⟩
  by_cases z4 : mI h13 13 r14.toNatClampNeg = (nI 4)
  · have w := w.2.2.2.1 z4
    refine X_tableIn (tgt := 140) (show decode cX9_execute 46 = .ok (.tableswitch 155 1 10 #[54, 66, 81, 94, 104, 110, 119, 128, 137, 146], 54) by decide +kernel) (by rw [z4]; decide) (by rw [z4]; decide) (by rw [z4] <;> rfl) (by decide) ?_
    refine X_aload_n (j := 0) (show decode cX9_execute 140 = .ok (.aload_n 0, 1) by decide +kernel) rfl rfl ?_
    obtain ⟨s32, w⟩ := w
    refine X_getR fl_X9_12 (show decode cX9_execute 141 = .ok (.getfield 12, 3) by decide +kernel) s32 ?_
    refine X_iload_n (j := 2) (show decode cX9_execute 144 = .ok (.iload_n 2, 1) by decide +kernel) rfl rfl ?_
    refine X_iload_n (j := 3) (show decode cX9_execute 145 = .ok (.iload_n 3, 1) by decide +kernel) rfl rfl ?_
    obtain ⟨s35, w⟩ := w
    refine X_vI (rc' := 0) (rs' := 0) (as := [.int _, .int _]) mv_X9_102 (show decode cX9_execute 146 = .ok (.invokevirtual 102, 3) by decide +kernel) (by decide) (Nat.le_of_ble_eq_true rfl) (Nat.le_of_ble_eq_true rfl) rfl rfl (Nat.le_of_ble_eq_true rfl) (rcvD s35 (by decide) rfl) (kX7_bringTrain w) (fun E h hk => hk.elim) (fun r34 h33 w => ?_)
    exact X_iret ⟨(show decode cX9_execute 149 = .ok (.ireturn, 1) by decide +kernel), .int, rfl, rfl⟩ ⟨_, rfl, w⟩
  by_cases z5 : mI h13 13 r14.toNatClampNeg = (nI 5)
  · have w := w.2.2.2.2.1 z5
    refine X_tableIn (tgt := 150) (show decode cX9_execute 46 = .ok (.tableswitch 155 1 10 #[54, 66, 81, 94, 104, 110, 119, 128, 137, 146], 54) by decide +kernel) (by rw [z5]; decide) (by rw [z5]; decide) (by rw [z5] <;> rfl) (by decide) ?_
    refine X_aload_n (j := 0) (show decode cX9_execute 150 = .ok (.aload_n 0, 1) by decide +kernel) rfl rfl ?_
    refine X_iload_n (j := 2) (show decode cX9_execute 151 = .ok (.iload_n 2, 1) by decide +kernel) rfl rfl ?_
    obtain ⟨s38, w⟩ := w
    refine X_vI (rc' := 0) (rs' := 0) (as := [.int _]) mv_X9_105 (show decode cX9_execute 152 = .ok (.invokevirtual 105, 3) by decide +kernel) (by decide) (Nat.le_of_ble_eq_true rfl) (Nat.le_of_ble_eq_true rfl) rfl rfl (Nat.le_of_ble_eq_true rfl) (rcvD s38 (by decide) rfl) (kX9_grantOrRecord w) (fun E h hk => hk.elim) (fun r37 h36 w => ?_)
    exact X_iret ⟨(show decode cX9_execute 155 = .ok (.ireturn, 1) by decide +kernel), .int, rfl, rfl⟩ ⟨_, rfl, w⟩
  by_cases z6 : mI h13 13 r14.toNatClampNeg = (nI 6)
  · have w := w.2.2.2.2.2.1 z6
    refine X_tableIn (tgt := 156) (show decode cX9_execute 46 = .ok (.tableswitch 155 1 10 #[54, 66, 81, 94, 104, 110, 119, 128, 137, 146], 54) by decide +kernel) (by rw [z6]; decide) (by rw [z6]; decide) (by rw [z6] <;> rfl) (by decide) ?_
    refine X_aload_n (j := 0) (show decode cX9_execute 156 = .ok (.aload_n 0, 1) by decide +kernel) rfl rfl ?_
    obtain ⟨s39, w⟩ := w
    refine X_getR fl_X9_12 (show decode cX9_execute 157 = .ok (.getfield 12, 3) by decide +kernel) s39 ?_
    refine X_iload_n (j := 2) (show decode cX9_execute 160 = .ok (.iload_n 2, 1) by decide +kernel) rfl rfl ?_
    obtain ⟨s42, w⟩ := w
    refine X_vI (rc' := 0) (rs' := 0) (as := [.int _]) mv_X9_108 (show decode cX9_execute 161 = .ok (.invokevirtual 108, 3) by decide +kernel) (by decide) (Nat.le_of_ble_eq_true rfl) (Nat.le_of_ble_eq_true rfl) rfl rfl (Nat.le_of_ble_eq_true rfl) (rcvD s42 (by decide) rfl) (kX7_withdrawRoute w) (fun E h hk => hk.elim) (fun r41 h40 w => ?_)
    exact X_iret ⟨(show decode cX9_execute 164 = .ok (.ireturn, 1) by decide +kernel), .int, rfl, rfl⟩ ⟨_, rfl, w⟩
  by_cases z7 : mI h13 13 r14.toNatClampNeg = (nI 7)
  · have w := w.2.2.2.2.2.2.1 z7
    refine X_tableIn (tgt := 165) (show decode cX9_execute 46 = .ok (.tableswitch 155 1 10 #[54, 66, 81, 94, 104, 110, 119, 128, 137, 146], 54) by decide +kernel) (by rw [z7]; decide) (by rw [z7]; decide) (by rw [z7] <;> rfl) (by decide) ?_
    refine X_aload_n (j := 0) (show decode cX9_execute 165 = .ok (.aload_n 0, 1) by decide +kernel) rfl rfl ?_
    obtain ⟨s43, w⟩ := w
    refine X_getR fl_X9_12 (show decode cX9_execute 166 = .ok (.getfield 12, 3) by decide +kernel) s43 ?_
    refine X_iload_n (j := 2) (show decode cX9_execute 169 = .ok (.iload_n 2, 1) by decide +kernel) rfl rfl ?_
    obtain ⟨s46, w⟩ := w
    refine X_vI (rc' := 0) (rs' := 0) (as := [.int _]) mv_X9_93 (show decode cX9_execute 170 = .ok (.invokevirtual 93, 3) by decide +kernel) (by decide) (Nat.le_of_ble_eq_true rfl) (Nat.le_of_ble_eq_true rfl) rfl rfl (Nat.le_of_ble_eq_true rfl) (rcvD s46 (by decide) rfl) (kX7_shutBlock w) (fun E h hk => hk.elim) (fun r45 h44 w => ?_)
    exact X_iret ⟨(show decode cX9_execute 173 = .ok (.ireturn, 1) by decide +kernel), .int, rfl, rfl⟩ ⟨_, rfl, w⟩
  by_cases z8 : mI h13 13 r14.toNatClampNeg = (nI 8)
  · have w := w.2.2.2.2.2.2.2.1 z8
    refine X_tableIn (tgt := 174) (show decode cX9_execute 46 = .ok (.tableswitch 155 1 10 #[54, 66, 81, 94, 104, 110, 119, 128, 137, 146], 54) by decide +kernel) (by rw [z8]; decide) (by rw [z8]; decide) (by rw [z8] <;> rfl) (by decide) ?_
    refine X_aload_n (j := 0) (show decode cX9_execute 174 = .ok (.aload_n 0, 1) by decide +kernel) rfl rfl ?_
    obtain ⟨s47, w⟩ := w
    refine X_getR fl_X9_12 (show decode cX9_execute 175 = .ok (.getfield 12, 3) by decide +kernel) s47 ?_
    refine X_iload_n (j := 2) (show decode cX9_execute 178 = .ok (.iload_n 2, 1) by decide +kernel) rfl rfl ?_
    obtain ⟨s50, w⟩ := w
    refine X_vI (rc' := 0) (rs' := 0) (as := [.int _]) mv_X9_96 (show decode cX9_execute 179 = .ok (.invokevirtual 96, 3) by decide +kernel) (by decide) (Nat.le_of_ble_eq_true rfl) (Nat.le_of_ble_eq_true rfl) rfl rfl (Nat.le_of_ble_eq_true rfl) (rcvD s50 (by decide) rfl) (kX7_openBlock w) (fun E h hk => hk.elim) (fun r49 h48 w => ?_)
    exact X_iret ⟨(show decode cX9_execute 182 = .ok (.ireturn, 1) by decide +kernel), .int, rfl, rfl⟩ ⟨_, rfl, w⟩
  by_cases z9 : mI h13 13 r14.toNatClampNeg = (nI 9)
  · have w := w.2.2.2.2.2.2.2.2.1 z9
    refine X_tableIn (tgt := 183) (show decode cX9_execute 46 = .ok (.tableswitch 155 1 10 #[54, 66, 81, 94, 104, 110, 119, 128, 137, 146], 54) by decide +kernel) (by rw [z9]; decide) (by rw [z9]; decide) (by rw [z9] <;> rfl) (by decide) ?_
    refine X_aload_n (j := 0) (show decode cX9_execute 183 = .ok (.aload_n 0, 1) by decide +kernel) rfl rfl ?_
    obtain ⟨s51, w⟩ := w
    refine X_getR fl_X9_12 (show decode cX9_execute 184 = .ok (.getfield 12, 3) by decide +kernel) s51 ?_
    refine X_iload_n (j := 2) (show decode cX9_execute 187 = .ok (.iload_n 2, 1) by decide +kernel) rfl rfl ?_
    obtain ⟨s54, w⟩ := w
    refine X_vI (rc' := 0) (rs' := 0) (as := [.int _]) mv_X9_99 (show decode cX9_execute 188 = .ok (.invokevirtual 99, 3) by decide +kernel) (by decide) (Nat.le_of_ble_eq_true rfl) (Nat.le_of_ble_eq_true rfl) rfl rfl (Nat.le_of_ble_eq_true rfl) (rcvD s54 (by decide) rfl) (kX7_movePoint w) (fun E h hk => hk.elim) (fun r53 h52 w => ?_)
    exact X_iret ⟨(show decode cX9_execute 191 = .ok (.ireturn, 1) by decide +kernel), .int, rfl, rfl⟩ ⟨_, rfl, w⟩
  by_cases z10 : mI h13 13 r14.toNatClampNeg = (nI 10)
  · have w := w.2.2.2.2.2.2.2.2.2.1 z10
    refine X_tableIn (tgt := 192) (show decode cX9_execute 46 = .ok (.tableswitch 155 1 10 #[54, 66, 81, 94, 104, 110, 119, 128, 137, 146], 54) by decide +kernel) (by rw [z10]; decide) (by rw [z10]; decide) (by rw [z10] <;> rfl) (by decide) ?_
    refine X_aload_n (j := 0) (show decode cX9_execute 192 = .ok (.aload_n 0, 1) by decide +kernel) rfl rfl ?_
    obtain ⟨s55, w⟩ := w
    refine X_getR fl_X9_12 (show decode cX9_execute 193 = .ok (.getfield 12, 3) by decide +kernel) s55 ?_
    refine X_iconst (v := (nI 1)) (show decode cX9_execute 196 = .ok (.iconst 1, 1) by decide +kernel) (by decide) ?_
    obtain ⟨s58, w⟩ := w
    refine X_vI (rc' := 0) (rs' := 0) (as := [.int _]) mv_X9_111 (show decode cX9_execute 197 = .ok (.invokevirtual 111, 3) by decide +kernel) (by decide) (Nat.le_of_ble_eq_true rfl) (Nat.le_of_ble_eq_true rfl) rfl rfl (Nat.le_of_ble_eq_true rfl) (rcvD s58 (by decide) rfl) (kX7_letPass w) (fun E h hk => hk.elim) (fun r57 h56 w => ?_)
    exact X_iret ⟨(show decode cX9_execute 200 = .ok (.ireturn, 1) by decide +kernel), .int, rfl, rfl⟩ ⟨_, rfl, w⟩
  have w := w.2.2.2.2.2.2.2.2.2.2 ⟨z1, z2, z3, z4, z5, z6, z7, z8, z9, z10⟩
  refine X_tab (lo := 1) (hi := 10) (tgt := 201) (show decode cX9_execute 46 = .ok (.tableswitch 155 1 10 #[54, 66, 81, 94, 104, 110, 119, 128, 137, 146], 54) by decide +kernel) (by decide) (fun g1 g2 => ?_) ?_
  · have g3 : (mI h13 13 r14.toNatClampNeg).toInt = 1 ∨ (mI h13 13 r14.toNatClampNeg).toInt = 2 ∨ (mI h13 13 r14.toNatClampNeg).toInt = 3 ∨ (mI h13 13 r14.toNatClampNeg).toInt = 4 ∨ (mI h13 13 r14.toNatClampNeg).toInt = 5 ∨ (mI h13 13 r14.toNatClampNeg).toInt = 6 ∨ (mI h13 13 r14.toNatClampNeg).toInt = 7 ∨ (mI h13 13 r14.toNatClampNeg).toInt = 8 ∨ (mI h13 13 r14.toNatClampNeg).toInt = 9 ∨ (mI h13 13 r14.toNatClampNeg).toInt = 10 := by omega
    rcases g3 with g3 | g3 | g3 | g3 | g3 | g3 | g3 | g3 | g3 | g3
    · exact absurd (i32_of (k := (nI 1)) (g3.trans (by decide))) z1
    · exact absurd (i32_of (k := (nI 2)) (g3.trans (by decide))) z2
    · exact absurd (i32_of (k := (nI 3)) (g3.trans (by decide))) z3
    · exact absurd (i32_of (k := (nI 4)) (g3.trans (by decide))) z4
    · exact absurd (i32_of (k := (nI 5)) (g3.trans (by decide))) z5
    · exact absurd (i32_of (k := (nI 6)) (g3.trans (by decide))) z6
    · exact absurd (i32_of (k := (nI 7)) (g3.trans (by decide))) z7
    · exact absurd (i32_of (k := (nI 8)) (g3.trans (by decide))) z8
    · exact absurd (i32_of (k := (nI 9)) (g3.trans (by decide))) z9
    · exact absurd (i32_of (k := (nI 10)) (g3.trans (by decide))) z10
  · skip
    refine X_aload_n (j := 0) (show decode cX9_execute 201 = .ok (.aload_n 0, 1) by decide +kernel) rfl rfl ?_
    obtain ⟨s59, w⟩ := w
    refine X_getR fl_X9_12 (show decode cX9_execute 202 = .ok (.getfield 12, 3) by decide +kernel) s59 ?_
    refine X_iload_n (j := 2) (show decode cX9_execute 205 = .ok (.iload_n 2, 1) by decide +kernel) rfl rfl ?_
    obtain ⟨s62, w⟩ := w
    refine X_vI (rc' := 0) (rs' := 0) (as := [.int _]) mv_X9_111 (show decode cX9_execute 206 = .ok (.invokevirtual 111, 3) by decide +kernel) (by decide) (Nat.le_of_ble_eq_true rfl) (Nat.le_of_ble_eq_true rfl) rfl rfl (Nat.le_of_ble_eq_true rfl) (rcvD s62 (by decide) rfl) (kX7_letPass w) (fun E h hk => hk.elim) (fun r61 h60 w => ?_)
    exact X_iret ⟨(show decode cX9_execute 209 = .ok (.ireturn, 1) by decide +kernel), .int, rfl, rfl⟩ ⟨_, rfl, w⟩
set_option maxRecDepth 100000 in
set_option maxHeartbeats 4000000 in
theorem kX2_putBack {a0 : Nat} {a1 : Nat} {h : AH} {K : AH → Prop} (w : wX2_putBack a0 a1 h K) : Cn mX2_putBack (cwd mX2_putBack) 4 0 0 [.ref a0, .ref a1] h (KV K) T0 := by
  refine Cn_of (by decide +kernel) rfl (Nat.le_of_ble_eq_true rfl) ?_
  show X mX2_putBack 4 (KV K) T0 0 0 0 [(0, .ref a0), (1, .ref a1)] [] h
  unfold wX2_putBack at w
  refine X_aload_n (j := 1) (show decode cX2_putBack 0 = .ok (.aload_n 1, 1) by decide +kernel) rfl rfl ?_
  refine X_aload_n (j := 0) (show decode cX2_putBack 1 = .ok (.aload_n 0, 1) by decide +kernel) rfl rfl ?_
  obtain ⟨s1, w⟩ := w
  refine X_getR fl_X2_13 (show decode cX2_putBack 2 = .ok (.getfield 13, 3) by decide +kernel) s1 ?_
  refine X_aload_n (j := 0) (show decode cX2_putBack 5 = .ok (.aload_n 0, 1) by decide +kernel) rfl rfl ?_
  refine X_getI fl_X2_17 (show decode cX2_putBack 6 = .ok (.getfield 17, 3) by decide +kernel) s1 ?_
  obtain ⟨s2, w⟩ := w
  obtain ⟨s3, w⟩ := w
  refine X_aaldS (show decode cX2_putBack 9 = .ok (.aaload, 1) by decide +kernel) (isA_eq s2) s3 ?_
  obtain ⟨s6, w⟩ := w
  refine X_vV (rc' := 0) (rs' := 0) (as := [.ref _]) mv_X2_25 (show decode cX2_putBack 10 = .ok (.invokevirtual 25, 3) by decide +kernel) (by decide) (Nat.le_of_ble_eq_true rfl) (Nat.le_of_ble_eq_true rfl) rfl rfl (Nat.le_of_ble_eq_true rfl) (rcvD s6 (by decide) rfl) (kX7_copyFrom w) (fun E h hk => hk.elim) (fun h4 w => ?_)
  exact X_vret ⟨(show decode cX2_putBack 13 = .ok (.return_, 1) by decide +kernel), rfl⟩ ⟨rfl, w⟩
set_option maxRecDepth 100000 in
set_option maxHeartbeats 4000000 in
theorem kX9_run_L54 {K : Int32 → AH → Prop} {T : String → AH → Prop}    : ∀ (n : Nat) (x0 : Nat) (x2 : Int32) (h : AH), wX9_run_L54 K T   n x0 x2 h → X mX9_run 10 (KI K) T 1 6 54 [(0, .ref x0), (2, .int x2)] [] h := by
  intro n
  induction n with
  | zero => intro _ _ _ w; exact w.elim
  | succ n ih =>
    intro x0 x2 h w
    rw [wX9_run_L54] at w
    refine X_iload_n (j := 1) (show decode cX9_run 54 = .ok (.iload_n 2, 1) by decide +kernel) rfl rfl ?_
    refine X_aload_n (j := 0) (show decode cX9_run 55 = .ok (.aload_n 0, 1) by decide +kernel) rfl rfl ?_
    obtain ⟨s11, w⟩ := w
    refine X_getR fl_X9_39 (show decode cX9_run 56 = .ok (.getfield 39, 3) by decide +kernel) s11 ?_
    obtain ⟨s12, w⟩ := w
    refine X_getI fl_X9_342 (show decode cX9_run 59 = .ok (.getfield 342, 3) by decide +kernel) s12 ?_
    refine X_icmp_ge (tgt := 106) (show decode cX9_run 62 = .ok (.if_icmp .ge 44, 3) by decide +kernel) (by decide) ⟨fun c13 => ?_, fun c13 => ?_⟩
    · have w := w.1 c13
      refine X_aload_n (j := 0) (show decode cX9_run 106 = .ok (.aload_n 0, 1) by decide +kernel) rfl rfl ?_
      refine X_aload_n (j := 0) (show decode cX9_run 107 = .ok (.aload_n 0, 1) by decide +kernel) rfl rfl ?_
      refine X_getR fl_X9_39 (show decode cX9_run 108 = .ok (.getfield 39, 3) by decide +kernel) s11 ?_
      refine X_getI fl_X9_342 (show decode cX9_run 111 = .ok (.getfield 342, 3) by decide +kernel) s12 ?_
      refine X_vI (rc' := 0) (rs' := 0) (as := [.int _]) mv_X9_82 (show decode cX9_run 114 = .ok (.invokevirtual 82, 3) by decide +kernel) (by decide) (Nat.le_of_ble_eq_true rfl) (Nat.le_of_ble_eq_true rfl) rfl rfl (Nat.le_of_ble_eq_true rfl) (rcvD s11 (by decide) rfl) (kX9_settle w) (fun E h hk => XT_out hk (fun x hx => absurd hx List.not_mem_nil)) (fun r15 h14 w => ?_)
      exact X_iret ⟨(show decode cX9_run 117 = .ok (.ireturn, 1) by decide +kernel), .int, rfl, rfl⟩ ⟨_, rfl, w⟩
    · have w := w.2 c13
      refine X_aload_n (j := 0) (show decode cX9_run 65 = .ok (.aload_n 0, 1) by decide +kernel) rfl rfl ?_
      refine X_iload_n (j := 1) (show decode cX9_run 66 = .ok (.iload_n 2, 1) by decide +kernel) rfl rfl ?_
      refine X_vI (rc' := 1) (rs' := 6) (as := [.int _]) mv_X9_345 (show decode cX9_run 67 = .ok (.invokevirtual 345, 3) by decide +kernel) (by decide) (Nat.le_of_ble_eq_true rfl) (Nat.le_of_ble_eq_true rfl) rfl rfl (Nat.le_of_ble_eq_true rfl) (rcvD s11 (by decide) rfl) (kX9_execute w) (fun E h hk => hk.elim) (fun r17 h16 w => ?_)
      refine X_if_ge (tgt := 100) (show decode cX9_run 70 = .ok (.ifCond .ge 30, 3) by decide +kernel) (by decide) ⟨fun c18 => ?_, fun c18 => ?_⟩
      · have w := w.1 c18
        refine X_iinc (j := 1) (v := _ + (nI 1)) (ls' := [(0, .ref _), (2, .int _)]) (show decode cX9_run 100 = .ok (.iinc 2 1, 3) by decide +kernel) rfl rfl (Nat.le_of_ble_eq_true rfl) rfl ?_
        refine X_goto (tgt := 54) (show decode cX9_run 103 = .ok (.goto (-49), 3) by decide +kernel) (by decide) ?_
        exact ih _ _ _ w
      · have w := w.2 c18
        refine X_aload_n (j := 0) (show decode cX9_run 73 = .ok (.aload_n 0, 1) by decide +kernel) rfl rfl ?_
        obtain ⟨s19, w⟩ := w
        refine X_getR fl_X9_25 (show decode cX9_run 74 = .ok (.getfield 25, 3) by decide +kernel) s19 ?_
        refine X_aload_n (j := 0) (show decode cX9_run 77 = .ok (.aload_n 0, 1) by decide +kernel) rfl rfl ?_
        refine X_getR fl_X9_12 (show decode cX9_run 78 = .ok (.getfield 12, 3) by decide +kernel) s19 ?_
        obtain ⟨s24, w⟩ := w
        refine X_vV (rc' := 1) (rs' := 6) (as := [.ref _]) mv_X9_348 (show decode cX9_run 81 = .ok (.invokevirtual 348, 3) by decide +kernel) (by decide) (Nat.le_of_ble_eq_true rfl) (Nat.le_of_ble_eq_true rfl) rfl rfl (Nat.le_of_ble_eq_true rfl) (rcvD s24 (by decide) rfl) (kX2_putBack w) (fun E h hk => hk.elim) (fun h20 w => ?_)
        refine X_aload_n (j := 0) (show decode cX9_run 84 = .ok (.aload_n 0, 1) by decide +kernel) rfl rfl ?_
        refine X_iload_n (j := 1) (show decode cX9_run 85 = .ok (.iload_n 2, 1) by decide +kernel) rfl rfl ?_
        obtain ⟨s22, w⟩ := w
        refine X_putI fp_X9_65 (show decode cX9_run 86 = .ok (.putfield 65, 3) by decide +kernel) (fun z => nomatch z) s22 rfl rfl ?_
        have w := w _ rfl
        exact X_throwSW tw_X9_351_353 (show decode cX9_run 89 = .ok (.new 351, 3) by decide +kernel) (show decode cX9_run 92 = .ok (.dup, 1) by decide +kernel) (show decode cX9_run 93 = .ok (.ldc_w 353, 3) by decide +kernel) (show decode cX9_run 96 = .ok (.invokespecial 355, 3) by decide +kernel) (show decode cX9_run 99 = .ok (.athrow, 1) by decide +kernel) (fun x hx => absurd hx List.not_mem_nil) (by decide) (Nat.le_of_ble_eq_true rfl) (Nat.le_of_ble_eq_true rfl) (Nat.le_of_ble_eq_true rfl) w
set_option maxRecDepth 100000 in
set_option maxHeartbeats 4000000 in
theorem kX9_run {a0 : Nat} {h : AH} {K : Int32 → AH → Prop} {T : String → AH → Prop} (w : wX9_run a0 h K T) : Cn mX9_run (cwd mX9_run) 10 1 6 [.ref a0] h (KI K) T := by
  refine Cn_of (by decide +kernel) rfl (Nat.le_of_ble_eq_true rfl) ?_
  show X mX9_run 10 (KI K) T 1 6 0 [(0, .ref a0)] [] h
  unfold wX9_run at w
  refine X_aload_n (j := 0) (show decode cX9_run 0 = .ok (.aload_n 0, 1) by decide +kernel) rfl rfl ?_
  obtain ⟨s1, w⟩ := w
  refine X_getR fl_X9_39 (show decode cX9_run 1 = .ok (.getfield 39, 3) by decide +kernel) s1 ?_
  obtain ⟨s31, w⟩ := w
  refine X_vI (rc' := 1) (rs' := 6) (as := []) mv_X9_331 (show decode cX9_run 4 = .ok (.invokevirtual 331, 3) by decide +kernel) (by decide) (Nat.le_of_ble_eq_true rfl) (Nat.le_of_ble_eq_true rfl) rfl rfl (Nat.le_of_ble_eq_true rfl) (rcvD s31 (by decide) rfl) (kX5_parse w) (fun E h hk => hk.elim) (fun r3 h2 w => ?_)
  refine X_istore_n (ls' := [(0, .ref _), (1, .int _)]) (show decode cX9_run 7 = .ok (.istore_n 1, 1) by decide +kernel) rfl (by decide) rfl ?_
  refine X_aload_n (j := 0) (show decode cX9_run 8 = .ok (.aload_n 0, 1) by decide +kernel) rfl rfl ?_
  obtain ⟨s4, w⟩ := w
  refine X_getR fl_X9_39 (show decode cX9_run 9 = .ok (.getfield 39, 3) by decide +kernel) s4 ?_
  obtain ⟨s30, w⟩ := w
  refine X_vV (rc' := 1) (rs' := 6) (as := []) mv_X9_334 (show decode cX9_run 12 = .ok (.invokevirtual 334, 3) by decide +kernel) (by decide) (Nat.le_of_ble_eq_true rfl) (Nat.le_of_ble_eq_true rfl) rfl rfl (Nat.le_of_ble_eq_true rfl) (rcvD s30 (by decide) rfl) (kX5_clear w) (fun E h hk => hk.elim) (fun h5 w => ?_)
  refine X_iload_n (j := 1) (show decode cX9_run 15 = .ok (.iload_n 1, 1) by decide +kernel) rfl rfl ?_
  refine X_if_ne (tgt := 41) (show decode cX9_run 16 = .ok (.ifCond .ne 25, 3) by decide +kernel) (by decide) ⟨fun c7 => ?_, fun c7 => ?_⟩
  · have w := w.1 c7
    refine X_aload_n (j := 0) (show decode cX9_run 41 = .ok (.aload_n 0, 1) by decide +kernel) rfl rfl ?_
    obtain ⟨s8, w⟩ := w
    refine X_getR fl_X9_25 (show decode cX9_run 42 = .ok (.getfield 25, 3) by decide +kernel) s8 ?_
    refine X_aload_n (j := 0) (show decode cX9_run 45 = .ok (.aload_n 0, 1) by decide +kernel) rfl rfl ?_
    refine X_getR fl_X9_12 (show decode cX9_run 46 = .ok (.getfield 12, 3) by decide +kernel) s8 ?_
    obtain ⟨s26, w⟩ := w
    refine X_vV (rc' := 1) (rs' := 6) (as := [.ref _]) mv_X9_68 (show decode cX9_run 49 = .ok (.invokevirtual 68, 3) by decide +kernel) (by decide) (Nat.le_of_ble_eq_true rfl) (Nat.le_of_ble_eq_true rfl) rfl rfl (Nat.le_of_ble_eq_true rfl) (rcvD s26 (by decide) rfl) (kX2_keep w) (fun E h hk => hk.elim) (fun h9 w => ?_)
    refine X_iconst (v := (nI 0)) (show decode cX9_run 52 = .ok (.iconst 0, 1) by decide +kernel) (by decide) ?_
    refine X_istore_n (ls' := [(0, .ref _), (1, .int _), (2, .int _)]) (show decode cX9_run 53 = .ok (.istore_n 2, 1) by decide +kernel) rfl (by decide) rfl ?_
    refine X_pick (ls' := [(0, .ref _), (2, .int _)]) [0, 2] rfl ?_
    obtain ⟨n25, w⟩ := w
    exact kX9_run_L54  n25 _ _ _ w
  · have w := w.2 c7
    refine X_aload_n (j := 0) (show decode cX9_run 19 = .ok (.aload_n 0, 1) by decide +kernel) rfl rfl ?_
    refine X_aload_n (j := 0) (show decode cX9_run 20 = .ok (.aload_n 0, 1) by decide +kernel) rfl rfl ?_
    obtain ⟨s27, w⟩ := w
    refine X_getR fl_X9_39 (show decode cX9_run 21 = .ok (.getfield 39, 3) by decide +kernel) s27 ?_
    obtain ⟨s28, w⟩ := w
    refine X_getI fl_X9_337 (show decode cX9_run 24 = .ok (.getfield 337, 3) by decide +kernel) s28 ?_
    refine X_putI fp_X9_62 (show decode cX9_run 27 = .ok (.putfield 62, 3) by decide +kernel) (fun z => nomatch z) s27 rfl rfl ?_
    have w := w _ rfl
    exact X_throwSW tw_X9_244_340 (show decode cX9_run 30 = .ok (.new 244, 3) by decide +kernel) (show decode cX9_run 33 = .ok (.dup, 1) by decide +kernel) (show decode cX9_run 34 = .ok (.ldc_w 340, 3) by decide +kernel) (show decode cX9_run 37 = .ok (.invokespecial 248, 3) by decide +kernel) (show decode cX9_run 40 = .ok (.athrow, 1) by decide +kernel) (fun x hx => absurd hx List.not_mem_nil) (by decide) (Nat.le_of_ble_eq_true rfl) (Nat.le_of_ble_eq_true rfl) (Nat.le_of_ble_eq_true rfl) w
