set_option maxRecDepth 100000 in
set_option maxHeartbeats 4000000 in
theorem kX6_relate {a0 : Nat} {a1 : Int32} {a2 : Int32} {h : AH} {K : AH → Prop} (w : wX6_relate a0 a1 a2 h K) : Cn mX6_relate (cwd mX6_relate) 1 0 0 [.ref a0, .int a1, .int a2] h (KV K) T0 := by
  refine Cn_of (by decide +kernel) rfl (Nat.le_of_ble_eq_true rfl) ?_
  show X mX6_relate 1 (KV K) T0 0 0 0 [(0, .ref a0), (1, .int a1), (2, .int a2)] [] h
  unfold wX6_relate at w
  refine X_iload_n (j := 1) (show decode cX6_relate 0 = .ok (.iload_n 1, 1) by decide +kernel) rfl rfl ?_
  refine X_if_lt (tgt := 24) (show decode cX6_relate 1 = .ok (.ifCond .lt 23, 3) by decide +kernel) (by decide) ⟨fun c1 => ?_, fun c1 => ?_⟩
  · have w := w.1 c1
    exact X_vret ⟨(show decode cX6_relate 24 = .ok (.return_, 1) by decide +kernel), rfl⟩ ⟨rfl, w⟩
  · have w := w.2 c1
    refine X_iload_n (j := 1) (show decode cX6_relate 4 = .ok (.iload_n 1, 1) by decide +kernel) rfl rfl ?_
    refine X_aload_n (j := 0) (show decode cX6_relate 5 = .ok (.aload_n 0, 1) by decide +kernel) rfl rfl ?_
    obtain ⟨s2, w⟩ := w
    refine X_getI fl_X6_9 (show decode cX6_relate 6 = .ok (.getfield 9, 3) by decide +kernel) s2 ?_
    refine X_icmp_ge (tgt := 24) (show decode cX6_relate 9 = .ok (.if_icmp .ge 15, 3) by decide +kernel) (by decide) ⟨fun c3 => ?_, fun c3 => ?_⟩
    · have w := w.1 c3
      exact X_vret ⟨(show decode cX6_relate 24 = .ok (.return_, 1) by decide +kernel), rfl⟩ ⟨rfl, w⟩
    · have w := w.2 c3
      refine X_aload_n (j := 0) (show decode cX6_relate 12 = .ok (.aload_n 0, 1) by decide +kernel) rfl rfl ?_
      refine X_getR fl_X6_15 (show decode cX6_relate 13 = .ok (.getfield 15, 3) by decide +kernel) s2 ?_
      refine X_iload_n (j := 1) (show decode cX6_relate 16 = .ok (.iload_n 1, 1) by decide +kernel) rfl rfl ?_
      refine X_dup2 (show decode cX6_relate 17 = .ok (.dup2, 1) by decide +kernel) rfl rfl ?_
      obtain ⟨s4, w⟩ := w
      obtain ⟨s5, w⟩ := w
      refine X_iald (show decode cX6_relate 18 = .ok (.iaload, 1) by decide +kernel) (isA_eq s4) s5 ?_
      refine X_iconst (v := (nI 1)) (show decode cX6_relate 19 = .ok (.iconst 1, 1) by decide +kernel) (by decide) ?_
      refine X_iload_n (j := 2) (show decode cX6_relate 20 = .ok (.iload_n 2, 1) by decide +kernel) rfl rfl ?_
      refine X_ishl (show decode cX6_relate 21 = .ok (.ishl, 1) by decide +kernel) ?_
      refine X_ior (show decode cX6_relate 22 = .ok (.ior, 1) by decide +kernel) ?_
      obtain ⟨s6, w⟩ := w
      refine X_iast (show decode cX6_relate 23 = .ok (.iastore, 1) by decide +kernel) (isA_eq s4) s6 s5 ?_
      have w := w _ rfl
      exact X_vret ⟨(show decode cX6_relate 24 = .ok (.return_, 1) by decide +kernel), rfl⟩ ⟨rfl, w⟩
set_option maxRecDepth 100000 in
set_option maxHeartbeats 4000000 in
theorem kX7_relateWaiting_L20 {K : AH → Prop} {c64 : Nat → Nat → Int32 → AH → Prop} (hc64 : ∀ x0 x1 x2 h, c64 x0 x1 x2 h → X mX7_relateWaiting 5 (KV K) T0 0 0 64 [(0, .ref x0), (1, .ref x1), (2, .int x2)] [] h)  : ∀ (n : Nat) (x0 : Nat) (x1 : Nat) (x2 : Int32) (x3 : Int32) (h : AH), wX7_relateWaiting_L20 K c64  n x0 x1 x2 x3 h → X mX7_relateWaiting 5 (KV K) T0 0 0 20 [(0, .ref x0), (1, .ref x1), (2, .int x2), (3, .int x3)] [] h := by
  intro n
  induction n with
  | zero => intro _ _ _ _ _ w; exact w.elim
  | succ n ih =>
    intro x0 x1 x2 x3 h w
    rw [wX7_relateWaiting_L20] at w
    refine X_iload_n (j := 3) (show decode cX7_relateWaiting 20 = .ok (.iload_n 3, 1) by decide +kernel) rfl rfl ?_
    refine X_aload_n (j := 0) (show decode cX7_relateWaiting 21 = .ok (.aload_n 0, 1) by decide +kernel) rfl rfl ?_
    obtain ⟨s6, w⟩ := w
    refine X_getI fl_X7_28 (show decode cX7_relateWaiting 22 = .ok (.getfield 28, 3) by decide +kernel) s6 ?_
    refine X_icmp_ge (tgt := 64) (show decode cX7_relateWaiting 25 = .ok (.if_icmp .ge 39, 3) by decide +kernel) (by decide) ⟨fun c7 => ?_, fun c7 => ?_⟩
    · have w := w.1 c7
      refine X_pick (ls' := [(0, .ref _), (1, .ref _), (2, .int _)]) [0, 1, 2] rfl ?_
      exact hc64 _ _ _ _ w
    · have w := w.2 c7
      refine X_iload_n (j := 2) (show decode cX7_relateWaiting 28 = .ok (.iload_n 2, 1) by decide +kernel) rfl rfl ?_
      refine X_iload_n (j := 3) (show decode cX7_relateWaiting 29 = .ok (.iload_n 3, 1) by decide +kernel) rfl rfl ?_
      refine X_icmp_eq (tgt := 58) (show decode cX7_relateWaiting 30 = .ok (.if_icmp .eq 28, 3) by decide +kernel) (by decide) ⟨fun c8 => ?_, fun c8 => ?_⟩
      · have w := w.1 c8
        refine X_iinc (j := 3) (v := _ + (nI 1)) (ls' := [(0, .ref _), (1, .ref _), (2, .int _), (3, .int _)]) (show decode cX7_relateWaiting 58 = .ok (.iinc 3 1, 3) by decide +kernel) rfl rfl (Nat.le_of_ble_eq_true rfl) rfl ?_
        refine X_goto (tgt := 20) (show decode cX7_relateWaiting 61 = .ok (.goto (-41), 3) by decide +kernel) (by decide) ?_
        exact ih _ _ _ _ _ w
      · have w := w.2 c8
        refine X_aload_n (j := 0) (show decode cX7_relateWaiting 33 = .ok (.aload_n 0, 1) by decide +kernel) rfl rfl ?_
        refine X_aload_n (j := 0) (show decode cX7_relateWaiting 34 = .ok (.aload_n 0, 1) by decide +kernel) rfl rfl ?_
        refine X_getR fl_X7_20 (show decode cX7_relateWaiting 35 = .ok (.getfield 20, 3) by decide +kernel) s6 ?_
        refine X_iload_n (j := 2) (show decode cX7_relateWaiting 38 = .ok (.iload_n 2, 1) by decide +kernel) rfl rfl ?_
        obtain ⟨s9, w⟩ := w
        obtain ⟨s10, w⟩ := w
        refine X_aaldT (show decode cX7_relateWaiting 39 = .ok (.aaload, 1) by decide +kernel) (isA_eq s9) s10 ?_
        refine X_aload_n (j := 0) (show decode cX7_relateWaiting 40 = .ok (.aload_n 0, 1) by decide +kernel) rfl rfl ?_
        refine X_getR fl_X7_20 (show decode cX7_relateWaiting 41 = .ok (.getfield 20, 3) by decide +kernel) s6 ?_
        refine X_iload_n (j := 3) (show decode cX7_relateWaiting 44 = .ok (.iload_n 3, 1) by decide +kernel) rfl rfl ?_
        obtain ⟨s11, w⟩ := w
        refine X_aaldT (show decode cX7_relateWaiting 45 = .ok (.aaload, 1) by decide +kernel) (isA_eq s9) s11 ?_
        refine X_vI (rc' := 0) (rs' := 0) (as := [.ref _, .ref _]) mv_X7_189 (show decode cX7_relateWaiting 46 = .ok (.invokevirtual 189, 3) by decide +kernel) (by decide) (Nat.le_of_ble_eq_true rfl) (Nat.le_of_ble_eq_true rfl) rfl rfl (Nat.le_of_ble_eq_true rfl) (rcvD s6 (by decide) rfl) (kX7_waits w) (fun E h hk => hk.elim) (fun r13 h12 w => ?_)
        refine X_if_eq (tgt := 58) (show decode cX7_relateWaiting 49 = .ok (.ifCond .eq 9, 3) by decide +kernel) (by decide) ⟨fun c14 => ?_, fun c14 => ?_⟩
        · have w := w.1 c14
          refine X_iinc (j := 3) (v := _ + (nI 1)) (ls' := [(0, .ref _), (1, .ref _), (2, .int _), (3, .int _)]) (show decode cX7_relateWaiting 58 = .ok (.iinc 3 1, 3) by decide +kernel) rfl rfl (Nat.le_of_ble_eq_true rfl) rfl ?_
          refine X_goto (tgt := 20) (show decode cX7_relateWaiting 61 = .ok (.goto (-41), 3) by decide +kernel) (by decide) ?_
          exact ih _ _ _ _ _ w
        · have w := w.2 c14
          refine X_aload_n (j := 1) (show decode cX7_relateWaiting 52 = .ok (.aload_n 1, 1) by decide +kernel) rfl rfl ?_
          refine X_iload_n (j := 2) (show decode cX7_relateWaiting 53 = .ok (.iload_n 2, 1) by decide +kernel) rfl rfl ?_
          refine X_iload_n (j := 3) (show decode cX7_relateWaiting 54 = .ok (.iload_n 3, 1) by decide +kernel) rfl rfl ?_
          obtain ⟨s17, w⟩ := w
          refine X_vV (rc' := 0) (rs' := 0) (as := [.int _, .int _]) mv_X7_193 (show decode cX7_relateWaiting 55 = .ok (.invokevirtual 193, 3) by decide +kernel) (by decide) (Nat.le_of_ble_eq_true rfl) (Nat.le_of_ble_eq_true rfl) rfl rfl (Nat.le_of_ble_eq_true rfl) (rcvD s17 (by decide) rfl) (kX6_relate w) (fun E h hk => hk.elim) (fun h15 w => ?_)
          refine X_iinc (j := 3) (v := _ + (nI 1)) (ls' := [(0, .ref _), (1, .ref _), (2, .int _), (3, .int _)]) (show decode cX7_relateWaiting 58 = .ok (.iinc 3 1, 3) by decide +kernel) rfl rfl (Nat.le_of_ble_eq_true rfl) rfl ?_
          refine X_goto (tgt := 20) (show decode cX7_relateWaiting 61 = .ok (.goto (-41), 3) by decide +kernel) (by decide) ?_
          exact ih _ _ _ _ _ w
set_option maxRecDepth 100000 in
set_option maxHeartbeats 4000000 in
theorem kX7_relateWaiting_L10 {K : AH → Prop}    : ∀ (n : Nat) (x0 : Nat) (x1 : Nat) (x2 : Int32) (h : AH), wX7_relateWaiting_L10 K   n x0 x1 x2 h → X mX7_relateWaiting 5 (KV K) T0 0 0 10 [(0, .ref x0), (1, .ref x1), (2, .int x2)] [] h := by
  intro n
  induction n with
  | zero => intro _ _ _ _ w; exact w.elim
  | succ n ih =>
    intro x0 x1 x2 h w
    rw [wX7_relateWaiting_L10] at w
    refine X_iload_n (j := 2) (show decode cX7_relateWaiting 10 = .ok (.iload_n 2, 1) by decide +kernel) rfl rfl ?_
    refine X_aload_n (j := 0) (show decode cX7_relateWaiting 11 = .ok (.aload_n 0, 1) by decide +kernel) rfl rfl ?_
    obtain ⟨s4, w⟩ := w
    refine X_getI fl_X7_28 (show decode cX7_relateWaiting 12 = .ok (.getfield 28, 3) by decide +kernel) s4 ?_
    refine X_icmp_ge (tgt := 70) (show decode cX7_relateWaiting 15 = .ok (.if_icmp .ge 55, 3) by decide +kernel) (by decide) ⟨fun c5 => ?_, fun c5 => ?_⟩
    · have w := w.1 c5
      exact X_vret ⟨(show decode cX7_relateWaiting 70 = .ok (.return_, 1) by decide +kernel), rfl⟩ ⟨rfl, w⟩
    · have w := w.2 c5
      refine X_iconst (v := (nI 0)) (show decode cX7_relateWaiting 18 = .ok (.iconst 0, 1) by decide +kernel) (by decide) ?_
      refine X_istore_n (ls' := [(0, .ref _), (1, .ref _), (2, .int _), (3, .int _)]) (show decode cX7_relateWaiting 19 = .ok (.istore_n 3, 1) by decide +kernel) rfl (by decide) rfl ?_
      obtain ⟨n22, w⟩ := w
      refine kX7_relateWaiting_L20 ?_ n22 _ _ _ _ _ w
      · intro x0_18 x1_19 x2_20 h21 w
        refine X_iinc (j := 2) (v := _ + (nI 1)) (ls' := [(0, .ref _), (1, .ref _), (2, .int _)]) (show decode cX7_relateWaiting 64 = .ok (.iinc 2 1, 3) by decide +kernel) rfl rfl (Nat.le_of_ble_eq_true rfl) rfl ?_
        refine X_goto (tgt := 10) (show decode cX7_relateWaiting 67 = .ok (.goto (-57), 3) by decide +kernel) (by decide) ?_
        exact ih _ _ _ _ w
set_option maxRecDepth 100000 in
set_option maxHeartbeats 4000000 in
theorem kX7_relateWaiting {a0 : Nat} {a1 : Nat} {h : AH} {K : AH → Prop} (w : wX7_relateWaiting a0 a1 h K) : Cn mX7_relateWaiting (cwd mX7_relateWaiting) 5 0 0 [.ref a0, .ref a1] h (KV K) T0 := by
  refine Cn_of (by decide +kernel) rfl (Nat.le_of_ble_eq_true rfl) ?_
  show X mX7_relateWaiting 5 (KV K) T0 0 0 0 [(0, .ref a0), (1, .ref a1)] [] h
  unfold wX7_relateWaiting at w
  refine X_aload_n (j := 1) (show decode cX7_relateWaiting 0 = .ok (.aload_n 1, 1) by decide +kernel) rfl rfl ?_
  refine X_aload_n (j := 0) (show decode cX7_relateWaiting 1 = .ok (.aload_n 0, 1) by decide +kernel) rfl rfl ?_
  obtain ⟨s1, w⟩ := w
  refine X_getI fl_X7_28 (show decode cX7_relateWaiting 2 = .ok (.getfield 28, 3) by decide +kernel) s1 ?_
  obtain ⟨s24, w⟩ := w
  refine X_vV (rc' := 0) (rs' := 0) (as := [.int _]) mv_X7_185 (show decode cX7_relateWaiting 5 = .ok (.invokevirtual 185, 3) by decide +kernel) (by decide) (Nat.le_of_ble_eq_true rfl) (Nat.le_of_ble_eq_true rfl) rfl rfl (Nat.le_of_ble_eq_true rfl) (rcvD s24 (by decide) rfl) (kX6_begin w) (fun E h hk => hk.elim) (fun h2 w => ?_)
  refine X_iconst (v := (nI 0)) (show decode cX7_relateWaiting 8 = .ok (.iconst 0, 1) by decide +kernel) (by decide) ?_
  refine X_istore_n (ls' := [(0, .ref _), (1, .ref _), (2, .int _)]) (show decode cX7_relateWaiting 9 = .ok (.istore_n 2, 1) by decide +kernel) rfl (by decide) rfl ?_
  obtain ⟨n23, w⟩ := w
  exact kX7_relateWaiting_L10  n23 _ _ _ _ w
set_option maxRecDepth 100000 in
set_option maxHeartbeats 4000000 in
theorem kX6_enter {a0 : Nat} {a1 : Int32} {h : AH} {K : AH → Prop} (w : wX6_enter a0 a1 h K) : Cn mX6_enter (cwd mX6_enter) 1 0 0 [.ref a0, .int a1] h (KV K) T0 := by
  refine Cn_of (by decide +kernel) rfl (Nat.le_of_ble_eq_true rfl) ?_
  show X mX6_enter 1 (KV K) T0 0 0 0 [(0, .ref a0), (1, .int a1)] [] h
  unfold wX6_enter at w
  refine X_aload_n (j := 0) (show decode cX6_enter 0 = .ok (.aload_n 0, 1) by decide +kernel) rfl rfl ?_
  refine X_dup (show decode cX6_enter 1 = .ok (.dup, 1) by decide +kernel) rfl ?_
  obtain ⟨s1, w⟩ := w
  refine X_getI fl_X6_25 (show decode cX6_enter 2 = .ok (.getfield 25, 3) by decide +kernel) s1 ?_
  refine X_iconst (v := (nI 1)) (show decode cX6_enter 5 = .ok (.iconst 1, 1) by decide +kernel) (by decide) ?_
  refine X_iadd (show decode cX6_enter 6 = .ok (.iadd, 1) by decide +kernel) ?_
  refine X_putI fp_X6_25 (show decode cX6_enter 7 = .ok (.putfield 25, 3) by decide +kernel) (fun z => nomatch z) s1 rfl rfl ?_
  have w := w _ rfl
  refine X_aload_n (j := 0) (show decode cX6_enter 10 = .ok (.aload_n 0, 1) by decide +kernel) rfl rfl ?_
  refine X_getR fl_X6_19 (show decode cX6_enter 11 = .ok (.getfield 19, 3) by decide +kernel) s1 ?_
  refine X_iload_n (j := 1) (show decode cX6_enter 14 = .ok (.iload_n 1, 1) by decide +kernel) rfl rfl ?_
  refine X_aload_n (j := 0) (show decode cX6_enter 15 = .ok (.aload_n 0, 1) by decide +kernel) rfl rfl ?_
  refine X_getI fl_X6_25 (show decode cX6_enter 16 = .ok (.getfield 25, 3) by decide +kernel) s1 ?_
  obtain ⟨s3, w⟩ := w
  obtain ⟨s4, w⟩ := w
  obtain ⟨s5, w⟩ := w
  refine X_iast (show decode cX6_enter 19 = .ok (.iastore, 1) by decide +kernel) (isA_eq s3) s4 s5 ?_
  have w := w _ rfl
  refine X_aload_n (j := 0) (show decode cX6_enter 20 = .ok (.aload_n 0, 1) by decide +kernel) rfl rfl ?_
  refine X_getR fl_X6_22 (show decode cX6_enter 21 = .ok (.getfield 22, 3) by decide +kernel) s1 ?_
  refine X_iload_n (j := 1) (show decode cX6_enter 24 = .ok (.iload_n 1, 1) by decide +kernel) rfl rfl ?_
  refine X_aload_n (j := 0) (show decode cX6_enter 25 = .ok (.aload_n 0, 1) by decide +kernel) rfl rfl ?_
  refine X_getI fl_X6_25 (show decode cX6_enter 26 = .ok (.getfield 25, 3) by decide +kernel) s1 ?_
  obtain ⟨s7, w⟩ := w
  obtain ⟨s8, w⟩ := w
  obtain ⟨s9, w⟩ := w
  refine X_iast (show decode cX6_enter 29 = .ok (.iastore, 1) by decide +kernel) (isA_eq s7) s8 s9 ?_
  have w := w _ rfl
  refine X_aload_n (j := 0) (show decode cX6_enter 30 = .ok (.aload_n 0, 1) by decide +kernel) rfl rfl ?_
  refine X_dup (show decode cX6_enter 31 = .ok (.dup, 1) by decide +kernel) rfl ?_
  refine X_getI fl_X6_28 (show decode cX6_enter 32 = .ok (.getfield 28, 3) by decide +kernel) s1 ?_
  refine X_iconst (v := (nI 1)) (show decode cX6_enter 35 = .ok (.iconst 1, 1) by decide +kernel) (by decide) ?_
  refine X_iload_n (j := 1) (show decode cX6_enter 36 = .ok (.iload_n 1, 1) by decide +kernel) rfl rfl ?_
  refine X_ishl (show decode cX6_enter 37 = .ok (.ishl, 1) by decide +kernel) ?_
  refine X_ior (show decode cX6_enter 38 = .ok (.ior, 1) by decide +kernel) ?_
  refine X_putI fp_X6_28 (show decode cX6_enter 39 = .ok (.putfield 28, 3) by decide +kernel) (fun z => nomatch z) s1 rfl rfl ?_
  have w := w _ rfl
  exact X_vret ⟨(show decode cX6_enter 42 = .ok (.return_, 1) by decide +kernel), rfl⟩ ⟨rfl, w⟩
set_option maxRecDepth 100000 in
set_option maxHeartbeats 4000000 in
theorem kX6_closeSet_L4 {K : AH → Prop}    : ∀ (n : Nat) (x0 : Nat) (x1 : Int32) (x2 : Int32) (x3 : Int32) (h : AH), wX6_closeSet_L4 K   n x0 x1 x2 x3 h → X mX6_closeSet 2 (KV K) T0 0 0 4 [(0, .ref x0), (1, .int x1), (2, .int x2), (3, .int x3)] [] h := by
  intro n
  induction n with
  | zero => intro _ _ _ _ _ w; exact w.elim
  | succ n ih =>
    intro x0 x1 x2 x3 h w
    rw [wX6_closeSet_L4] at w
    refine X_iload_n (j := 3) (show decode cX6_closeSet 4 = .ok (.iload_n 3, 1) by decide +kernel) rfl rfl ?_
    refine X_aload_n (j := 0) (show decode cX6_closeSet 5 = .ok (.aload_n 0, 1) by decide +kernel) rfl rfl ?_
    obtain ⟨s1, w⟩ := w
    refine X_getI fl_X6_9 (show decode cX6_closeSet 6 = .ok (.getfield 9, 3) by decide +kernel) s1 ?_
    refine X_icmp_ge (tgt := 56) (show decode cX6_closeSet 9 = .ok (.if_icmp .ge 47, 3) by decide +kernel) (by decide) ⟨fun c2 => ?_, fun c2 => ?_⟩
    · have w := w.1 c2
      refine X_iload_n (j := 2) (show decode cX6_closeSet 56 = .ok (.iload_n 2, 1) by decide +kernel) rfl rfl ?_
      refine X_iconst (v := (nI 1)) (show decode cX6_closeSet 57 = .ok (.iconst 1, 1) by decide +kernel) (by decide) ?_
      refine X_icmp_le (tgt := 71) (show decode cX6_closeSet 58 = .ok (.if_icmp .le 13, 3) by decide +kernel) (by decide) ⟨fun c3 => ?_, fun c3 => ?_⟩
      · have w := w.1 c3
        exact X_vret ⟨(show decode cX6_closeSet 71 = .ok (.return_, 1) by decide +kernel), rfl⟩ ⟨rfl, w⟩
      · have w := w.2 c3
        refine X_aload_n (j := 0) (show decode cX6_closeSet 61 = .ok (.aload_n 0, 1) by decide +kernel) rfl rfl ?_
        refine X_dup (show decode cX6_closeSet 62 = .ok (.dup, 1) by decide +kernel) rfl ?_
        refine X_getI fl_X6_31 (show decode cX6_closeSet 63 = .ok (.getfield 31, 3) by decide +kernel) s1 ?_
        refine X_iload_n (j := 2) (show decode cX6_closeSet 66 = .ok (.iload_n 2, 1) by decide +kernel) rfl rfl ?_
        refine X_iadd (show decode cX6_closeSet 67 = .ok (.iadd, 1) by decide +kernel) ?_
        refine X_putI fp_X6_31 (show decode cX6_closeSet 68 = .ok (.putfield 31, 3) by decide +kernel) (fun z => nomatch z) s1 rfl rfl ?_
        have w := w _ rfl
        exact X_vret ⟨(show decode cX6_closeSet 71 = .ok (.return_, 1) by decide +kernel), rfl⟩ ⟨rfl, w⟩
    · have w := w.2 c2
      refine X_aload_n (j := 0) (show decode cX6_closeSet 12 = .ok (.aload_n 0, 1) by decide +kernel) rfl rfl ?_
      refine X_getI fl_X6_28 (show decode cX6_closeSet 13 = .ok (.getfield 28, 3) by decide +kernel) s1 ?_
      refine X_iload_n (j := 3) (show decode cX6_closeSet 16 = .ok (.iload_n 3, 1) by decide +kernel) rfl rfl ?_
      refine X_nI (rc' := 0) (rs' := 0) (as := [.int _, .int _]) msn_X6_57 (show decode cX6_closeSet 17 = .ok (.invokestatic 57, 3) by decide +kernel) (by decide) (Nat.le_of_ble_eq_true rfl) (Nat.le_of_ble_eq_true rfl) rfl rfl (Nat.le_of_ble_eq_true rfl) (kX9_contains w) (fun r6 h5 w => ?_)
      refine X_if_eq (tgt := 50) (show decode cX6_closeSet 20 = .ok (.ifCond .eq 30, 3) by decide +kernel) (by decide) ⟨fun c7 => ?_, fun c7 => ?_⟩
      · have w := w.1 c7
        refine X_iinc (j := 3) (v := _ + (nI 1)) (ls' := [(0, .ref _), (1, .int _), (2, .int _), (3, .int _)]) (show decode cX6_closeSet 50 = .ok (.iinc 3 1, 3) by decide +kernel) rfl rfl (Nat.le_of_ble_eq_true rfl) rfl ?_
        refine X_goto (tgt := 4) (show decode cX6_closeSet 53 = .ok (.goto (-49), 3) by decide +kernel) (by decide) ?_
        exact ih _ _ _ _ _ w
      · have w := w.2 c7
        refine X_aload_n (j := 0) (show decode cX6_closeSet 23 = .ok (.aload_n 0, 1) by decide +kernel) rfl rfl ?_
        obtain ⟨s8, w⟩ := w
        refine X_getR fl_X6_19 (show decode cX6_closeSet 24 = .ok (.getfield 19, 3) by decide +kernel) s8 ?_
        refine X_iload_n (j := 3) (show decode cX6_closeSet 27 = .ok (.iload_n 3, 1) by decide +kernel) rfl rfl ?_
        obtain ⟨s9, w⟩ := w
        obtain ⟨s10, w⟩ := w
        refine X_iald (show decode cX6_closeSet 28 = .ok (.iaload, 1) by decide +kernel) (isA_eq s9) s10 ?_
        refine X_iload_n (j := 1) (show decode cX6_closeSet 29 = .ok (.iload_n 1, 1) by decide +kernel) rfl rfl ?_
        refine X_icmp_lt (tgt := 50) (show decode cX6_closeSet 30 = .ok (.if_icmp .lt 20, 3) by decide +kernel) (by decide) ⟨fun c11 => ?_, fun c11 => ?_⟩
        · have w := w.1 c11
          refine X_iinc (j := 3) (v := _ + (nI 1)) (ls' := [(0, .ref _), (1, .int _), (2, .int _), (3, .int _)]) (show decode cX6_closeSet 50 = .ok (.iinc 3 1, 3) by decide +kernel) rfl rfl (Nat.le_of_ble_eq_true rfl) rfl ?_
          refine X_goto (tgt := 4) (show decode cX6_closeSet 53 = .ok (.goto (-49), 3) by decide +kernel) (by decide) ?_
          exact ih _ _ _ _ _ w
        · have w := w.2 c11
          refine X_iinc (j := 2) (v := _ + (nI 1)) (ls' := [(0, .ref _), (1, .int _), (2, .int _), (3, .int _)]) (show decode cX6_closeSet 33 = .ok (.iinc 2 1, 3) by decide +kernel) rfl rfl (Nat.le_of_ble_eq_true rfl) rfl ?_
          refine X_aload_n (j := 0) (show decode cX6_closeSet 36 = .ok (.aload_n 0, 1) by decide +kernel) rfl rfl ?_
          refine X_dup (show decode cX6_closeSet 37 = .ok (.dup, 1) by decide +kernel) rfl ?_
          refine X_getI fl_X6_28 (show decode cX6_closeSet 38 = .ok (.getfield 28, 3) by decide +kernel) s8 ?_
          refine X_iconst (v := (nI 1)) (show decode cX6_closeSet 41 = .ok (.iconst 1, 1) by decide +kernel) (by decide) ?_
          refine X_iload_n (j := 3) (show decode cX6_closeSet 42 = .ok (.iload_n 3, 1) by decide +kernel) rfl rfl ?_
          refine X_ishl (show decode cX6_closeSet 43 = .ok (.ishl, 1) by decide +kernel) ?_
          refine X_iconst (v := (-1)) (show decode cX6_closeSet 44 = .ok (.iconst (-1), 1) by decide +kernel) (by decide) ?_
          refine X_ixor (show decode cX6_closeSet 45 = .ok (.ixor, 1) by decide +kernel) ?_
          refine X_iand (show decode cX6_closeSet 46 = .ok (.iand, 1) by decide +kernel) ?_
          refine X_putI fp_X6_28 (show decode cX6_closeSet 47 = .ok (.putfield 28, 3) by decide +kernel) (fun z => nomatch z) s8 rfl rfl ?_
          have w := w _ rfl
          refine X_iinc (j := 3) (v := _ + (nI 1)) (ls' := [(0, .ref _), (1, .int _), (2, .int _), (3, .int _)]) (show decode cX6_closeSet 50 = .ok (.iinc 3 1, 3) by decide +kernel) rfl rfl (Nat.le_of_ble_eq_true rfl) rfl ?_
          refine X_goto (tgt := 4) (show decode cX6_closeSet 53 = .ok (.goto (-49), 3) by decide +kernel) (by decide) ?_
          exact ih _ _ _ _ _ w
set_option maxRecDepth 100000 in
set_option maxHeartbeats 4000000 in
theorem kX6_closeSet {a0 : Nat} {a1 : Int32} {h : AH} {K : AH → Prop} (w : wX6_closeSet a0 a1 h K) : Cn mX6_closeSet (cwd mX6_closeSet) 2 0 0 [.ref a0, .int a1] h (KV K) T0 := by
  refine Cn_of (by decide +kernel) rfl (Nat.le_of_ble_eq_true rfl) ?_
  show X mX6_closeSet 2 (KV K) T0 0 0 0 [(0, .ref a0), (1, .int a1)] [] h
  unfold wX6_closeSet at w
  refine X_iconst (v := (nI 0)) (show decode cX6_closeSet 0 = .ok (.iconst 0, 1) by decide +kernel) (by decide) ?_
  refine X_istore_n (ls' := [(0, .ref _), (1, .int _), (2, .int _)]) (show decode cX6_closeSet 1 = .ok (.istore_n 2, 1) by decide +kernel) rfl (by decide) rfl ?_
  refine X_iconst (v := (nI 0)) (show decode cX6_closeSet 2 = .ok (.iconst 0, 1) by decide +kernel) (by decide) ?_
  refine X_istore_n (ls' := [(0, .ref _), (1, .int _), (2, .int _), (3, .int _)]) (show decode cX6_closeSet 3 = .ok (.istore_n 3, 1) by decide +kernel) rfl (by decide) rfl ?_
  obtain ⟨n13, w⟩ := w
  exact kX6_closeSet_L4  n13 _ _ _ _ _ w
set_option maxRecDepth 100000 in
set_option maxHeartbeats 4000000 in
theorem kX6_search_L30 {d : Nat} {rec : Nat → Int32 → Int32 → AH → (AH → Prop) → Prop} {K : AH → Prop} (hrec : ∀ b0 b1 b2 h K, rec b0 b1 b2 h K → Cn mX6_search (cwd mX6_search) (d + 2) 0 0 [.ref b0, .int b1, .int b2] h (KV K) T0)    : ∀ (n : Nat) (x0 : Nat) (x1 : Int32) (x2 : Int32) (x3 : Int32) (x4 : Int32) (h : AH), wX6_search_L30 rec K   n x0 x1 x2 x3 x4 h → X mX6_search (d + 3) (KV K) T0 0 0 30 [(0, .ref x0), (1, .int x1), (2, .int x2), (3, .int x3), (4, .int x4)] [] h := by
  intro n
  induction n with
  | zero => intro _ _ _ _ _ _ w; exact w.elim
  | succ n ih =>
    intro x0 x1 x2 x3 x4 h w
    rw [wX6_search_L30] at w
    refine X_iload (j := 4) (show decode cX6_search 30 = .ok (.iload 4, 2) by decide +kernel) rfl ?_
    refine X_aload_n (j := 0) (show decode cX6_search 32 = .ok (.aload_n 0, 1) by decide +kernel) rfl rfl ?_
    obtain ⟨s9, w⟩ := w
    refine X_getI fl_X6_9 (show decode cX6_search 33 = .ok (.getfield 9, 3) by decide +kernel) s9 ?_
    refine X_icmp_ge (tgt := 117) (show decode cX6_search 36 = .ok (.if_icmp .ge 81, 3) by decide +kernel) (by decide) ⟨fun c10 => ?_, fun c10 => ?_⟩
    · have w := w.1 c10
      refine X_aload_n (j := 0) (show decode cX6_search 117 = .ok (.aload_n 0, 1) by decide +kernel) rfl rfl ?_
      refine X_getR fl_X6_22 (show decode cX6_search 118 = .ok (.getfield 22, 3) by decide +kernel) s9 ?_
      refine X_iload_n (j := 1) (show decode cX6_search 121 = .ok (.iload_n 1, 1) by decide +kernel) rfl rfl ?_
      refine X_iload_n (j := 3) (show decode cX6_search 122 = .ok (.iload_n 3, 1) by decide +kernel) rfl rfl ?_
      obtain ⟨s11, w⟩ := w
      obtain ⟨s12, w⟩ := w
      obtain ⟨s13, w⟩ := w
      refine X_iast (show decode cX6_search 123 = .ok (.iastore, 1) by decide +kernel) (isA_eq s11) s12 s13 ?_
      have w := w _ rfl
      refine X_iload_n (j := 3) (show decode cX6_search 124 = .ok (.iload_n 3, 1) by decide +kernel) rfl rfl ?_
      refine X_aload_n (j := 0) (show decode cX6_search 125 = .ok (.aload_n 0, 1) by decide +kernel) rfl rfl ?_
      refine X_getR fl_X6_19 (show decode cX6_search 126 = .ok (.getfield 19, 3) by decide +kernel) s9 ?_
      refine X_iload_n (j := 1) (show decode cX6_search 129 = .ok (.iload_n 1, 1) by decide +kernel) rfl rfl ?_
      obtain ⟨s15, w⟩ := w
      obtain ⟨s16, w⟩ := w
      refine X_iald (show decode cX6_search 130 = .ok (.iaload, 1) by decide +kernel) (isA_eq s15) s16 ?_
      refine X_icmp_ne (tgt := 139) (show decode cX6_search 131 = .ok (.if_icmp .ne 8, 3) by decide +kernel) (by decide) ⟨fun c17 => ?_, fun c17 => ?_⟩
      · have w := w.1 c17
        exact X_vret ⟨(show decode cX6_search 139 = .ok (.return_, 1) by decide +kernel), rfl⟩ ⟨rfl, w⟩
      · have w := w.2 c17
        refine X_aload_n (j := 0) (show decode cX6_search 134 = .ok (.aload_n 0, 1) by decide +kernel) rfl rfl ?_
        refine X_iload_n (j := 3) (show decode cX6_search 135 = .ok (.iload_n 3, 1) by decide +kernel) rfl rfl ?_
        refine X_vV (rc' := 0) (rs' := 0) (as := [.int _]) mv_X6_61 (show decode cX6_search 136 = .ok (.invokevirtual 61, 3) by decide +kernel) (by omega) (Nat.le_of_ble_eq_true rfl) (Nat.le_of_ble_eq_true rfl) rfl rfl (Nat.le_of_ble_eq_true rfl) (rcvD s9 (by decide) rfl) (kX6_closeSet w) (fun E h hk => hk.elim) (fun h18 w => ?_)
        exact X_vret ⟨(show decode cX6_search 139 = .ok (.return_, 1) by decide +kernel), rfl⟩ ⟨rfl, w⟩
    · have w := w.2 c10
      refine X_aload_n (j := 0) (show decode cX6_search 39 = .ok (.aload_n 0, 1) by decide +kernel) rfl rfl ?_
      refine X_getR fl_X6_15 (show decode cX6_search 40 = .ok (.getfield 15, 3) by decide +kernel) s9 ?_
      refine X_iload_n (j := 1) (show decode cX6_search 43 = .ok (.iload_n 1, 1) by decide +kernel) rfl rfl ?_
      obtain ⟨s20, w⟩ := w
      obtain ⟨s21, w⟩ := w
      refine X_iald (show decode cX6_search 44 = .ok (.iaload, 1) by decide +kernel) (isA_eq s20) s21 ?_
      refine X_iload (j := 4) (show decode cX6_search 45 = .ok (.iload 4, 2) by decide +kernel) rfl ?_
      refine X_nI (rc' := 0) (rs' := 0) (as := [.int _, .int _]) msn_X6_57 (show decode cX6_search 47 = .ok (.invokestatic 57, 3) by decide +kernel) (by omega) (Nat.le_of_ble_eq_true rfl) (Nat.le_of_ble_eq_true rfl) rfl rfl (Nat.le_of_ble_eq_true rfl) (kX9_contains w) (fun r23 h22 w => ?_)
      refine X_if_eq (tgt := 111) (show decode cX6_search 50 = .ok (.ifCond .eq 61, 3) by decide +kernel) (by decide) ⟨fun c24 => ?_, fun c24 => ?_⟩
      · have w := w.1 c24
        refine X_iinc (j := 4) (v := _ + (nI 1)) (ls' := [(0, .ref _), (1, .int _), (2, .int _), (3, .int _), (4, .int _)]) (show decode cX6_search 111 = .ok (.iinc 4 1, 3) by decide +kernel) rfl rfl (Nat.le_of_ble_eq_true rfl) rfl ?_
        refine X_goto (tgt := 30) (show decode cX6_search 114 = .ok (.goto (-84), 3) by decide +kernel) (by decide) ?_
        exact ih _ _ _ _ _ _ w
      · have w := w.2 c24
        refine X_aload_n (j := 0) (show decode cX6_search 53 = .ok (.aload_n 0, 1) by decide +kernel) rfl rfl ?_
        obtain ⟨s25, w⟩ := w
        refine X_getR fl_X6_19 (show decode cX6_search 54 = .ok (.getfield 19, 3) by decide +kernel) s25 ?_
        refine X_iload (j := 4) (show decode cX6_search 57 = .ok (.iload 4, 2) by decide +kernel) rfl ?_
        obtain ⟨s26, w⟩ := w
        obtain ⟨s27, w⟩ := w
        refine X_iald (show decode cX6_search 59 = .ok (.iaload, 1) by decide +kernel) (isA_eq s26) s27 ?_
        refine X_if_ne (tgt := 87) (show decode cX6_search 60 = .ok (.ifCond .ne 27, 3) by decide +kernel) (by decide) ⟨fun c28 => ?_, fun c28 => ?_⟩
        · have w := w.1 c28
          refine X_aload_n (j := 0) (show decode cX6_search 87 = .ok (.aload_n 0, 1) by decide +kernel) rfl rfl ?_
          refine X_getI fl_X6_28 (show decode cX6_search 88 = .ok (.getfield 28, 3) by decide +kernel) s25 ?_
          refine X_iload (j := 4) (show decode cX6_search 91 = .ok (.iload 4, 2) by decide +kernel) rfl ?_
          refine X_nI (rc' := 0) (rs' := 0) (as := [.int _, .int _]) msn_X6_57 (show decode cX6_search 93 = .ok (.invokestatic 57, 3) by decide +kernel) (by omega) (Nat.le_of_ble_eq_true rfl) (Nat.le_of_ble_eq_true rfl) rfl rfl (Nat.le_of_ble_eq_true rfl) (kX9_contains w) (fun r30 h29 w => ?_)
          refine X_if_eq (tgt := 111) (show decode cX6_search 96 = .ok (.ifCond .eq 15, 3) by decide +kernel) (by decide) ⟨fun c31 => ?_, fun c31 => ?_⟩
          · have w := w.1 c31
            refine X_iinc (j := 4) (v := _ + (nI 1)) (ls' := [(0, .ref _), (1, .int _), (2, .int _), (3, .int _), (4, .int _)]) (show decode cX6_search 111 = .ok (.iinc 4 1, 3) by decide +kernel) rfl rfl (Nat.le_of_ble_eq_true rfl) rfl ?_
            refine X_goto (tgt := 30) (show decode cX6_search 114 = .ok (.goto (-84), 3) by decide +kernel) (by decide) ?_
            exact ih _ _ _ _ _ _ w
          · have w := w.2 c31
            refine X_iload_n (j := 3) (show decode cX6_search 99 = .ok (.iload_n 3, 1) by decide +kernel) rfl rfl ?_
            refine X_aload_n (j := 0) (show decode cX6_search 100 = .ok (.aload_n 0, 1) by decide +kernel) rfl rfl ?_
            obtain ⟨s32, w⟩ := w
            refine X_getR fl_X6_19 (show decode cX6_search 101 = .ok (.getfield 19, 3) by decide +kernel) s32 ?_
            refine X_iload (j := 4) (show decode cX6_search 104 = .ok (.iload 4, 2) by decide +kernel) rfl ?_
            obtain ⟨s33, w⟩ := w
            obtain ⟨s34, w⟩ := w
            refine X_iald (show decode cX6_search 106 = .ok (.iaload, 1) by decide +kernel) (isA_eq s33) s34 ?_
            refine X_mmin (show decode cX6_search 107 = .ok (.invokestatic 34, 3) by decide +kernel) gl_X6_34 gst_min gin_Math gco_min (by omega) (Nat.le_of_ble_eq_true rfl) ?_
            refine X_topi (fun v35 e36 => ?_)
            have w := w v35 e36
            refine X_istore_n (ls' := [(0, .ref _), (1, .int _), (2, .int _), (3, .int _), (4, .int _)]) (show decode cX6_search 110 = .ok (.istore_n 3, 1) by decide +kernel) rfl (by decide) rfl ?_
            refine X_iinc (j := 4) (v := _ + (nI 1)) (ls' := [(0, .ref _), (1, .int _), (2, .int _), (3, .int _), (4, .int _)]) (show decode cX6_search 111 = .ok (.iinc 4 1, 3) by decide +kernel) rfl rfl (Nat.le_of_ble_eq_true rfl) rfl ?_
            refine X_goto (tgt := 30) (show decode cX6_search 114 = .ok (.goto (-84), 3) by decide +kernel) (by decide) ?_
            exact ih _ _ _ _ _ _ w
        · have w := w.2 c28
          refine X_aload_n (j := 0) (show decode cX6_search 63 = .ok (.aload_n 0, 1) by decide +kernel) rfl rfl ?_
          refine X_iload (j := 4) (show decode cX6_search 64 = .ok (.iload 4, 2) by decide +kernel) rfl ?_
          refine X_iload_n (j := 2) (show decode cX6_search 66 = .ok (.iload_n 2, 1) by decide +kernel) rfl rfl ?_
          refine X_iconst (v := (nI 1)) (show decode cX6_search 67 = .ok (.iconst 1, 1) by decide +kernel) (by decide) ?_
          refine X_iadd (show decode cX6_search 68 = .ok (.iadd, 1) by decide +kernel) ?_
          refine X_sV (rc' := 0) (rs' := 0) (as := [.ref _, .int _, .int _]) ms_X6_49 (show decode cX6_search 69 = .ok (.invokestatic 49, 3) by decide +kernel) (Nat.le_refl _) (Nat.le_of_ble_eq_true rfl) (Nat.le_of_ble_eq_true rfl) rfl rfl (Nat.le_of_ble_eq_true rfl) (hrec _ _ _ _ _ w) (fun E h hk => hk.elim) (fun h37 w => ?_)
          refine X_iload_n (j := 3) (show decode cX6_search 72 = .ok (.iload_n 3, 1) by decide +kernel) rfl rfl ?_
          refine X_aload_n (j := 0) (show decode cX6_search 73 = .ok (.aload_n 0, 1) by decide +kernel) rfl rfl ?_
          obtain ⟨s39, w⟩ := w
          refine X_getR fl_X6_22 (show decode cX6_search 74 = .ok (.getfield 22, 3) by decide +kernel) s39 ?_
          refine X_iload (j := 4) (show decode cX6_search 77 = .ok (.iload 4, 2) by decide +kernel) rfl ?_
          obtain ⟨s40, w⟩ := w
          obtain ⟨s41, w⟩ := w
          refine X_iald (show decode cX6_search 79 = .ok (.iaload, 1) by decide +kernel) (isA_eq s40) s41 ?_
          refine X_mmin (show decode cX6_search 80 = .ok (.invokestatic 34, 3) by decide +kernel) gl_X6_34 gst_min gin_Math gco_min (by omega) (Nat.le_of_ble_eq_true rfl) ?_
          refine X_topi (fun v42 e43 => ?_)
          have w := w v42 e43
          refine X_istore_n (ls' := [(0, .ref _), (1, .int _), (2, .int _), (3, .int _), (4, .int _)]) (show decode cX6_search 83 = .ok (.istore_n 3, 1) by decide +kernel) rfl (by decide) rfl ?_
          refine X_goto (tgt := 111) (show decode cX6_search 84 = .ok (.goto 27, 3) by decide +kernel) (by decide) ?_
          refine X_iinc (j := 4) (v := _ + (nI 1)) (ls' := [(0, .ref _), (1, .int _), (2, .int _), (3, .int _), (4, .int _)]) (show decode cX6_search 111 = .ok (.iinc 4 1, 3) by decide +kernel) rfl rfl (Nat.le_of_ble_eq_true rfl) rfl ?_
          refine X_goto (tgt := 30) (show decode cX6_search 114 = .ok (.goto (-84), 3) by decide +kernel) (by decide) ?_
          exact ih _ _ _ _ _ _ w
set_option maxRecDepth 100000 in
set_option maxHeartbeats 4000000 in
theorem kX6_search_b {d : Nat} {rec : Nat → Int32 → Int32 → AH → (AH → Prop) → Prop} (hrec : ∀ b0 b1 b2 h K, rec b0 b1 b2 h K → Cn mX6_search (cwd mX6_search) (d + 2) 0 0 [.ref b0, .int b1, .int b2] h (KV K) T0) {a0 : Nat} {a1 : Int32} {a2 : Int32} {h : AH} {K : AH → Prop} (w : wX6_search_b rec a0 a1 a2 h K) : Cn mX6_search (cwd mX6_search) (d + 3) 0 0 [.ref a0, .int a1, .int a2] h (KV K) T0 := by
  refine Cn_of (by decide +kernel) rfl (Nat.le_of_ble_eq_true rfl) ?_
  show X mX6_search (d + 3) (KV K) T0 0 0 0 [(0, .ref a0), (1, .int a1), (2, .int a2)] [] h
  unfold wX6_search_b at w
  refine X_iload_n (j := 2) (show decode cX6_search 0 = .ok (.iload_n 2, 1) by decide +kernel) rfl rfl ?_
  refine X_bipush (v := (nI 8)) (show decode cX6_search 1 = .ok (.bipush 8, 2) by decide +kernel) (by decide) ?_
  refine X_icmp_ge (tgt := 14) (show decode cX6_search 3 = .ok (.if_icmp .ge 11, 3) by decide +kernel) (by decide) ⟨fun c1 => ?_, fun c1 => ?_⟩
  · have w := w.1 c1
    exact X_vret ⟨(show decode cX6_search 14 = .ok (.return_, 1) by decide +kernel), rfl⟩ ⟨rfl, w⟩
  · have w := w.2 c1
    refine X_iload_n (j := 1) (show decode cX6_search 6 = .ok (.iload_n 1, 1) by decide +kernel) rfl rfl ?_
    refine X_aload_n (j := 0) (show decode cX6_search 7 = .ok (.aload_n 0, 1) by decide +kernel) rfl rfl ?_
    obtain ⟨s2, w⟩ := w
    refine X_getI fl_X6_9 (show decode cX6_search 8 = .ok (.getfield 9, 3) by decide +kernel) s2 ?_
    refine X_icmp_lt (tgt := 15) (show decode cX6_search 11 = .ok (.if_icmp .lt 4, 3) by decide +kernel) (by decide) ⟨fun c3 => ?_, fun c3 => ?_⟩
    · have w := w.1 c3
      refine X_aload_n (j := 0) (show decode cX6_search 15 = .ok (.aload_n 0, 1) by decide +kernel) rfl rfl ?_
      refine X_iload_n (j := 1) (show decode cX6_search 16 = .ok (.iload_n 1, 1) by decide +kernel) rfl rfl ?_
      refine X_vV (rc' := 0) (rs' := 0) (as := [.int _]) mv_X6_53 (show decode cX6_search 17 = .ok (.invokevirtual 53, 3) by decide +kernel) (by omega) (Nat.le_of_ble_eq_true rfl) (Nat.le_of_ble_eq_true rfl) rfl rfl (Nat.le_of_ble_eq_true rfl) (rcvD s2 (by decide) rfl) (kX6_enter w) (fun E h hk => hk.elim) (fun h4 w => ?_)
      refine X_aload_n (j := 0) (show decode cX6_search 20 = .ok (.aload_n 0, 1) by decide +kernel) rfl rfl ?_
      obtain ⟨s6, w⟩ := w
      refine X_getR fl_X6_19 (show decode cX6_search 21 = .ok (.getfield 19, 3) by decide +kernel) s6 ?_
      refine X_iload_n (j := 1) (show decode cX6_search 24 = .ok (.iload_n 1, 1) by decide +kernel) rfl rfl ?_
      obtain ⟨s7, w⟩ := w
      obtain ⟨s8, w⟩ := w
      refine X_iald (show decode cX6_search 25 = .ok (.iaload, 1) by decide +kernel) (isA_eq s7) s8 ?_
      refine X_istore_n (ls' := [(0, .ref _), (1, .int _), (2, .int _), (3, .int _)]) (show decode cX6_search 26 = .ok (.istore_n 3, 1) by decide +kernel) rfl (by decide) rfl ?_
      refine X_iconst (v := (nI 0)) (show decode cX6_search 27 = .ok (.iconst 0, 1) by decide +kernel) (by decide) ?_
      refine X_istore (ls' := [(0, .ref _), (1, .int _), (2, .int _), (3, .int _), (4, .int _)]) (show decode cX6_search 28 = .ok (.istore 4, 2) by decide +kernel) (by decide) rfl ?_
      obtain ⟨n44, w⟩ := w
      exact kX6_search_L30 hrec  n44 _ _ _ _ _ _ w
    · have w := w.2 c3
      exact X_vret ⟨(show decode cX6_search 14 = .ok (.return_, 1) by decide +kernel), rfl⟩ ⟨rfl, w⟩
theorem kX6_search : ∀ (d : Nat) (a0 : Nat) (a1 : Int32) (a2 : Int32) (h : AH) (K : AH → Prop), wX6_search d a0 a1 a2 h K → Cn mX6_search (cwd mX6_search) (d + 2) 0 0 [.ref a0, .int a1, .int a2] h (KV K) T0
  | 0, _, _, _, _, _, w => w.elim
  | d + 1, a0, a1, a2, h, K, w => by
    have := kX6_search_b (d := d) (kX6_search d) w
    rw [show d + 1 + 2 = d + 3 by omega]
    exact this
set_option maxRecDepth 100000 in
set_option maxHeartbeats 4000000 in
theorem kX6_inCircles_L25 {K : Int32 → AH → Prop}    : ∀ (n : Nat) (x0 : Nat) (x1 : Int32) (h : AH), wX6_inCircles_L25 K   n x0 x1 h → X mX6_inCircles 13 (KI K) T0 0 0 25 [(0, .ref x0), (1, .int x1)] [] h := by
  intro n
  induction n with
  | zero => intro _ _ _ w; exact w.elim
  | succ n ih =>
    intro x0 x1 h w
    rw [wX6_inCircles_L25] at w
    refine X_iload_n (j := 1) (show decode cX6_inCircles 25 = .ok (.iload_n 1, 1) by decide +kernel) rfl rfl ?_
    refine X_aload_n (j := 0) (show decode cX6_inCircles 26 = .ok (.aload_n 0, 1) by decide +kernel) rfl rfl ?_
    obtain ⟨s8, w⟩ := w
    refine X_getI fl_X6_9 (show decode cX6_inCircles 27 = .ok (.getfield 9, 3) by decide +kernel) s8 ?_
    refine X_icmp_ge (tgt := 54) (show decode cX6_inCircles 30 = .ok (.if_icmp .ge 24, 3) by decide +kernel) (by decide) ⟨fun c9 => ?_, fun c9 => ?_⟩
    · have w := w.1 c9
      refine X_aload_n (j := 0) (show decode cX6_inCircles 54 = .ok (.aload_n 0, 1) by decide +kernel) rfl rfl ?_
      refine X_getI fl_X6_31 (show decode cX6_inCircles 55 = .ok (.getfield 31, 3) by decide +kernel) s8 ?_
      exact X_iret ⟨(show decode cX6_inCircles 58 = .ok (.ireturn, 1) by decide +kernel), .int, rfl, rfl⟩ ⟨_, rfl, w⟩
    · have w := w.2 c9
      refine X_aload_n (j := 0) (show decode cX6_inCircles 33 = .ok (.aload_n 0, 1) by decide +kernel) rfl rfl ?_
      refine X_getR fl_X6_19 (show decode cX6_inCircles 34 = .ok (.getfield 19, 3) by decide +kernel) s8 ?_
      refine X_iload_n (j := 1) (show decode cX6_inCircles 37 = .ok (.iload_n 1, 1) by decide +kernel) rfl rfl ?_
      obtain ⟨s10, w⟩ := w
      obtain ⟨s11, w⟩ := w
      refine X_iald (show decode cX6_inCircles 38 = .ok (.iaload, 1) by decide +kernel) (isA_eq s10) s11 ?_
      refine X_if_ne (tgt := 48) (show decode cX6_inCircles 39 = .ok (.ifCond .ne 9, 3) by decide +kernel) (by decide) ⟨fun c12 => ?_, fun c12 => ?_⟩
      · have w := w.1 c12
        refine X_iinc (j := 1) (v := _ + (nI 1)) (ls' := [(0, .ref _), (1, .int _)]) (show decode cX6_inCircles 48 = .ok (.iinc 1 1, 3) by decide +kernel) rfl rfl (Nat.le_of_ble_eq_true rfl) rfl ?_
        refine X_goto (tgt := 25) (show decode cX6_inCircles 51 = .ok (.goto (-26), 3) by decide +kernel) (by decide) ?_
        exact ih _ _ _ w
      · have w := w.2 c12
        refine X_aload_n (j := 0) (show decode cX6_inCircles 42 = .ok (.aload_n 0, 1) by decide +kernel) rfl rfl ?_
        refine X_iload_n (j := 1) (show decode cX6_inCircles 43 = .ok (.iload_n 1, 1) by decide +kernel) rfl rfl ?_
        refine X_iconst (v := (nI 0)) (show decode cX6_inCircles 44 = .ok (.iconst 0, 1) by decide +kernel) (by decide) ?_
        refine X_sV (rc' := 0) (rs' := 0) (as := [.ref _, .int _, .int _]) ms_X6_49 (show decode cX6_inCircles 45 = .ok (.invokestatic 49, 3) by decide +kernel) (by decide) (Nat.le_of_ble_eq_true rfl) (Nat.le_of_ble_eq_true rfl) rfl rfl (Nat.le_of_ble_eq_true rfl) (kX6_search 10 _ _ _ _ _ w) (fun E h hk => hk.elim) (fun h13 w => ?_)
        refine X_iinc (j := 1) (v := _ + (nI 1)) (ls' := [(0, .ref _), (1, .int _)]) (show decode cX6_inCircles 48 = .ok (.iinc 1 1, 3) by decide +kernel) rfl rfl (Nat.le_of_ble_eq_true rfl) rfl ?_
        refine X_goto (tgt := 25) (show decode cX6_inCircles 51 = .ok (.goto (-26), 3) by decide +kernel) (by decide) ?_
        exact ih _ _ _ w
set_option maxRecDepth 100000 in
set_option maxHeartbeats 4000000 in
theorem kX6_inCircles {a0 : Nat} {h : AH} {K : Int32 → AH → Prop} (w : wX6_inCircles a0 h K) : Cn mX6_inCircles (cwd mX6_inCircles) 13 0 0 [.ref a0] h (KI K) T0 := by
  refine Cn_of (by decide +kernel) rfl (Nat.le_of_ble_eq_true rfl) ?_
  show X mX6_inCircles 13 (KI K) T0 0 0 0 [(0, .ref a0)] [] h
  unfold wX6_inCircles at w
  refine X_aload_n (j := 0) (show decode cX6_inCircles 0 = .ok (.aload_n 0, 1) by decide +kernel) rfl rfl ?_
  obtain ⟨s1, w⟩ := w
  refine X_getR fl_X6_19 (show decode cX6_inCircles 1 = .ok (.getfield 19, 3) by decide +kernel) s1 ?_
  refine X_iconst (v := (nI 0)) (show decode cX6_inCircles 4 = .ok (.iconst 0, 1) by decide +kernel) (by decide) ?_
  refine X_sV (rc' := 0) (rs' := 0) (as := [.ref _, .int _]) ms_X6_43 (show decode cX6_inCircles 5 = .ok (.invokestatic 43, 3) by decide +kernel) (by decide) (Nat.le_of_ble_eq_true rfl) (Nat.le_of_ble_eq_true rfl) rfl rfl (Nat.le_of_ble_eq_true rfl) (kJ7_fill_53178 w) (fun E h hk => hk.elim) (fun h2 w => ?_)
  refine X_aload_n (j := 0) (show decode cX6_inCircles 8 = .ok (.aload_n 0, 1) by decide +kernel) rfl rfl ?_
  refine X_iconst (v := (nI 0)) (show decode cX6_inCircles 9 = .ok (.iconst 0, 1) by decide +kernel) (by decide) ?_
  obtain ⟨s4, w⟩ := w
  refine X_putI fp_X6_25 (show decode cX6_inCircles 10 = .ok (.putfield 25, 3) by decide +kernel) (fun z => nomatch z) s4 rfl rfl ?_
  have w := w _ rfl
  refine X_aload_n (j := 0) (show decode cX6_inCircles 13 = .ok (.aload_n 0, 1) by decide +kernel) rfl rfl ?_
  refine X_iconst (v := (nI 0)) (show decode cX6_inCircles 14 = .ok (.iconst 0, 1) by decide +kernel) (by decide) ?_
  refine X_putI fp_X6_28 (show decode cX6_inCircles 15 = .ok (.putfield 28, 3) by decide +kernel) (fun z => nomatch z) s4 rfl rfl ?_
  have w := w _ rfl
  refine X_aload_n (j := 0) (show decode cX6_inCircles 18 = .ok (.aload_n 0, 1) by decide +kernel) rfl rfl ?_
  refine X_iconst (v := (nI 0)) (show decode cX6_inCircles 19 = .ok (.iconst 0, 1) by decide +kernel) (by decide) ?_
  refine X_putI fp_X6_31 (show decode cX6_inCircles 20 = .ok (.putfield 31, 3) by decide +kernel) (fun z => nomatch z) s4 rfl rfl ?_
  have w := w _ rfl
  refine X_iconst (v := (nI 0)) (show decode cX6_inCircles 23 = .ok (.iconst 0, 1) by decide +kernel) (by decide) ?_
  refine X_istore_n (ls' := [(0, .ref _), (1, .int _)]) (show decode cX6_inCircles 24 = .ok (.istore_n 1, 1) by decide +kernel) rfl (by decide) rfl ?_
  obtain ⟨n15, w⟩ := w
  exact kX6_inCircles_L25  n15 _ _ _ w
set_option maxRecDepth 100000 in
set_option maxHeartbeats 4000000 in
theorem kX9_deadlocked {a0 : Nat} {h : AH} {K : Int32 → AH → Prop} (w : wX9_deadlocked a0 h K) : Cn mX9_deadlocked (cwd mX9_deadlocked) 14 0 0 [.ref a0] h (KI K) T0 := by
  refine Cn_of (by decide +kernel) rfl (Nat.le_of_ble_eq_true rfl) ?_
  show X mX9_deadlocked 14 (KI K) T0 0 0 0 [(0, .ref a0)] [] h
  unfold wX9_deadlocked at w
  refine X_aload_n (j := 0) (show decode cX9_deadlocked 0 = .ok (.aload_n 0, 1) by decide +kernel) rfl rfl ?_
  obtain ⟨s1, w⟩ := w
  refine X_getR fl_X9_12 (show decode cX9_deadlocked 1 = .ok (.getfield 12, 3) by decide +kernel) s1 ?_
  refine X_aload_n (j := 0) (show decode cX9_deadlocked 4 = .ok (.aload_n 0, 1) by decide +kernel) rfl rfl ?_
  refine X_getR fl_X9_32 (show decode cX9_deadlocked 5 = .ok (.getfield 32, 3) by decide +kernel) s1 ?_
  obtain ⟨s8, w⟩ := w
  refine X_vV (rc' := 0) (rs' := 0) (as := [.ref _]) mv_X9_233 (show decode cX9_deadlocked 8 = .ok (.invokevirtual 233, 3) by decide +kernel) (by decide) (Nat.le_of_ble_eq_true rfl) (Nat.le_of_ble_eq_true rfl) rfl rfl (Nat.le_of_ble_eq_true rfl) (rcvD s8 (by decide) rfl) (kX7_relateWaiting w) (fun E h hk => hk.elim) (fun h2 w => ?_)
  refine X_aload_n (j := 0) (show decode cX9_deadlocked 11 = .ok (.aload_n 0, 1) by decide +kernel) rfl rfl ?_
  obtain ⟨s4, w⟩ := w
  refine X_getR fl_X9_32 (show decode cX9_deadlocked 12 = .ok (.getfield 32, 3) by decide +kernel) s4 ?_
  obtain ⟨s7, w⟩ := w
  refine X_vI (rc' := 0) (rs' := 0) (as := []) mv_X9_237 (show decode cX9_deadlocked 15 = .ok (.invokevirtual 237, 3) by decide +kernel) (by decide) (Nat.le_of_ble_eq_true rfl) (Nat.le_of_ble_eq_true rfl) rfl rfl (Nat.le_of_ble_eq_true rfl) (rcvD s7 (by decide) rfl) (kX6_inCircles w) (fun E h hk => hk.elim) (fun r6 h5 w => ?_)
  exact X_iret ⟨(show decode cX9_deadlocked 18 = .ok (.ireturn, 1) by decide +kernel), .int, rfl, rfl⟩ ⟨_, rfl, w⟩
set_option maxRecDepth 100000 in
set_option maxHeartbeats 4000000 in
theorem kX6_inCirclesByPairs_L12 {K : Int32 → AH → Prop} {c54 : Nat → Int32 → AH → Prop} (hc54 : ∀ x0 x1 h, c54 x0 x1 h → X mX6_inCirclesByPairs 2 (KI K) T0 0 0 54 [(0, .ref x0), (1, .int x1)] [] h)  : ∀ (n : Nat) (x0 : Nat) (x1 : Int32) (x2 : Int32) (h : AH), wX6_inCirclesByPairs_L12 K c54  n x0 x1 x2 h → X mX6_inCirclesByPairs 2 (KI K) T0 0 0 12 [(0, .ref x0), (1, .int x1), (2, .int x2)] [] h := by
  intro n
  induction n with
  | zero => intro _ _ _ _ w; exact w.elim
  | succ n ih =>
    intro x0 x1 x2 h w
    rw [wX6_inCirclesByPairs_L12] at w
    refine X_iload_n (j := 2) (show decode cX6_inCirclesByPairs 12 = .ok (.iload_n 2, 1) by decide +kernel) rfl rfl ?_
    refine X_aload_n (j := 0) (show decode cX6_inCirclesByPairs 13 = .ok (.aload_n 0, 1) by decide +kernel) rfl rfl ?_
    obtain ⟨s3, w⟩ := w
    refine X_getI fl_X6_9 (show decode cX6_inCirclesByPairs 14 = .ok (.getfield 9, 3) by decide +kernel) s3 ?_
    refine X_icmp_ge (tgt := 54) (show decode cX6_inCirclesByPairs 17 = .ok (.if_icmp .ge 37, 3) by decide +kernel) (by decide) ⟨fun c4 => ?_, fun c4 => ?_⟩
    · have w := w.1 c4
      refine X_pick (ls' := [(0, .ref _), (1, .int _)]) [0, 1] rfl ?_
      exact hc54 _ _ _ w
    · have w := w.2 c4
      refine X_aload_n (j := 0) (show decode cX6_inCirclesByPairs 20 = .ok (.aload_n 0, 1) by decide +kernel) rfl rfl ?_
      refine X_getR fl_X6_15 (show decode cX6_inCirclesByPairs 21 = .ok (.getfield 15, 3) by decide +kernel) s3 ?_
      refine X_iload_n (j := 2) (show decode cX6_inCirclesByPairs 24 = .ok (.iload_n 2, 1) by decide +kernel) rfl rfl ?_
      obtain ⟨s5, w⟩ := w
      obtain ⟨s6, w⟩ := w
      refine X_iald (show decode cX6_inCirclesByPairs 25 = .ok (.iaload, 1) by decide +kernel) (isA_eq s5) s6 ?_
      refine X_iload_n (j := 1) (show decode cX6_inCirclesByPairs 26 = .ok (.iload_n 1, 1) by decide +kernel) rfl rfl ?_
      refine X_nI (rc' := 0) (rs' := 0) (as := [.int _, .int _]) msn_X6_57 (show decode cX6_inCirclesByPairs 27 = .ok (.invokestatic 57, 3) by decide +kernel) (by decide) (Nat.le_of_ble_eq_true rfl) (Nat.le_of_ble_eq_true rfl) rfl rfl (Nat.le_of_ble_eq_true rfl) (kX9_contains w) (fun r8 h7 w => ?_)
      refine X_if_eq (tgt := 48) (show decode cX6_inCirclesByPairs 30 = .ok (.ifCond .eq 18, 3) by decide +kernel) (by decide) ⟨fun c9 => ?_, fun c9 => ?_⟩
      · have w := w.1 c9
        refine X_iinc (j := 2) (v := _ + (nI 1)) (ls' := [(0, .ref _), (1, .int _), (2, .int _)]) (show decode cX6_inCirclesByPairs 48 = .ok (.iinc 2 1, 3) by decide +kernel) rfl rfl (Nat.le_of_ble_eq_true rfl) rfl ?_
        refine X_goto (tgt := 12) (show decode cX6_inCirclesByPairs 51 = .ok (.goto (-39), 3) by decide +kernel) (by decide) ?_
        exact ih _ _ _ _ w
      · have w := w.2 c9
        refine X_aload_n (j := 0) (show decode cX6_inCirclesByPairs 33 = .ok (.aload_n 0, 1) by decide +kernel) rfl rfl ?_
        obtain ⟨s10, w⟩ := w
        refine X_getR fl_X6_15 (show decode cX6_inCirclesByPairs 34 = .ok (.getfield 15, 3) by decide +kernel) s10 ?_
        refine X_iload_n (j := 2) (show decode cX6_inCirclesByPairs 37 = .ok (.iload_n 2, 1) by decide +kernel) rfl rfl ?_
        refine X_dup2 (show decode cX6_inCirclesByPairs 38 = .ok (.dup2, 1) by decide +kernel) rfl rfl ?_
        obtain ⟨s11, w⟩ := w
        obtain ⟨s12, w⟩ := w
        refine X_iald (show decode cX6_inCirclesByPairs 39 = .ok (.iaload, 1) by decide +kernel) (isA_eq s11) s12 ?_
        refine X_aload_n (j := 0) (show decode cX6_inCirclesByPairs 40 = .ok (.aload_n 0, 1) by decide +kernel) rfl rfl ?_
        refine X_getR fl_X6_15 (show decode cX6_inCirclesByPairs 41 = .ok (.getfield 15, 3) by decide +kernel) s10 ?_
        refine X_iload_n (j := 1) (show decode cX6_inCirclesByPairs 44 = .ok (.iload_n 1, 1) by decide +kernel) rfl rfl ?_
        obtain ⟨s13, w⟩ := w
        refine X_iald (show decode cX6_inCirclesByPairs 45 = .ok (.iaload, 1) by decide +kernel) (isA_eq s11) s13 ?_
        refine X_ior (show decode cX6_inCirclesByPairs 46 = .ok (.ior, 1) by decide +kernel) ?_
        obtain ⟨s14, w⟩ := w
        refine X_iast (show decode cX6_inCirclesByPairs 47 = .ok (.iastore, 1) by decide +kernel) (isA_eq s11) s14 s12 ?_
        have w := w _ rfl
        refine X_iinc (j := 2) (v := _ + (nI 1)) (ls' := [(0, .ref _), (1, .int _), (2, .int _)]) (show decode cX6_inCirclesByPairs 48 = .ok (.iinc 2 1, 3) by decide +kernel) rfl rfl (Nat.le_of_ble_eq_true rfl) rfl ?_
        refine X_goto (tgt := 12) (show decode cX6_inCirclesByPairs 51 = .ok (.goto (-39), 3) by decide +kernel) (by decide) ?_
        exact ih _ _ _ _ w
set_option maxRecDepth 100000 in
set_option maxHeartbeats 4000000 in
theorem kX6_inCirclesByPairs_L2 {K : Int32 → AH → Prop} {c60 : Nat → AH → Prop} (hc60 : ∀ x0 h, c60 x0 h → X mX6_inCirclesByPairs 2 (KI K) T0 0 0 60 [(0, .ref x0)] [] h)  : ∀ (n : Nat) (x0 : Nat) (x1 : Int32) (h : AH), wX6_inCirclesByPairs_L2 K c60  n x0 x1 h → X mX6_inCirclesByPairs 2 (KI K) T0 0 0 2 [(0, .ref x0), (1, .int x1)] [] h := by
  intro n
  induction n with
  | zero => intro _ _ _ w; exact w.elim
  | succ n ih =>
    intro x0 x1 h w
    rw [wX6_inCirclesByPairs_L2] at w
    refine X_iload_n (j := 1) (show decode cX6_inCirclesByPairs 2 = .ok (.iload_n 1, 1) by decide +kernel) rfl rfl ?_
    refine X_aload_n (j := 0) (show decode cX6_inCirclesByPairs 3 = .ok (.aload_n 0, 1) by decide +kernel) rfl rfl ?_
    obtain ⟨s1, w⟩ := w
    refine X_getI fl_X6_9 (show decode cX6_inCirclesByPairs 4 = .ok (.getfield 9, 3) by decide +kernel) s1 ?_
    refine X_icmp_ge (tgt := 60) (show decode cX6_inCirclesByPairs 7 = .ok (.if_icmp .ge 53, 3) by decide +kernel) (by decide) ⟨fun c2 => ?_, fun c2 => ?_⟩
    · have w := w.1 c2
      refine X_pick (ls' := [(0, .ref _)]) [0] rfl ?_
      exact hc60 _ _ w
    · have w := w.2 c2
      refine X_iconst (v := (nI 0)) (show decode cX6_inCirclesByPairs 10 = .ok (.iconst 0, 1) by decide +kernel) (by decide) ?_
      refine X_istore_n (ls' := [(0, .ref _), (1, .int _), (2, .int _)]) (show decode cX6_inCirclesByPairs 11 = .ok (.istore_n 2, 1) by decide +kernel) rfl (by decide) rfl ?_
      obtain ⟨n19, w⟩ := w
      refine kX6_inCirclesByPairs_L12 ?_ n19 _ _ _ _ w
      · intro x0_16 x1_17 h18 w
        refine X_iinc (j := 1) (v := _ + (nI 1)) (ls' := [(0, .ref _), (1, .int _)]) (show decode cX6_inCirclesByPairs 54 = .ok (.iinc 1 1, 3) by decide +kernel) rfl rfl (Nat.le_of_ble_eq_true rfl) rfl ?_
        refine X_goto (tgt := 2) (show decode cX6_inCirclesByPairs 57 = .ok (.goto (-55), 3) by decide +kernel) (by decide) ?_
        exact ih _ _ _ w
set_option maxRecDepth 100000 in
set_option maxHeartbeats 4000000 in
theorem kX6_inCirclesByPairs_L64 {K : Int32 → AH → Prop}    : ∀ (n : Nat) (x0 : Nat) (x1 : Int32) (x2 : Int32) (h : AH), wX6_inCirclesByPairs_L64 K   n x0 x1 x2 h → X mX6_inCirclesByPairs 2 (KI K) T0 0 0 64 [(0, .ref x0), (1, .int x1), (2, .int x2)] [] h := by
  intro n
  induction n with
  | zero => intro _ _ _ _ w; exact w.elim
  | succ n ih =>
    intro x0 x1 x2 h w
    rw [wX6_inCirclesByPairs_L64] at w
    refine X_iload_n (j := 2) (show decode cX6_inCirclesByPairs 64 = .ok (.iload_n 2, 1) by decide +kernel) rfl rfl ?_
    refine X_aload_n (j := 0) (show decode cX6_inCirclesByPairs 65 = .ok (.aload_n 0, 1) by decide +kernel) rfl rfl ?_
    obtain ⟨s22, w⟩ := w
    refine X_getI fl_X6_9 (show decode cX6_inCirclesByPairs 66 = .ok (.getfield 9, 3) by decide +kernel) s22 ?_
    refine X_icmp_ge (tgt := 94) (show decode cX6_inCirclesByPairs 69 = .ok (.if_icmp .ge 25, 3) by decide +kernel) (by decide) ⟨fun c23 => ?_, fun c23 => ?_⟩
    · have w := w.1 c23
      refine X_iload_n (j := 1) (show decode cX6_inCirclesByPairs 94 = .ok (.iload_n 1, 1) by decide +kernel) rfl rfl ?_
      exact X_iret ⟨(show decode cX6_inCirclesByPairs 95 = .ok (.ireturn, 1) by decide +kernel), .int, rfl, rfl⟩ ⟨_, rfl, w⟩
    · have w := w.2 c23
      refine X_aload_n (j := 0) (show decode cX6_inCirclesByPairs 72 = .ok (.aload_n 0, 1) by decide +kernel) rfl rfl ?_
      refine X_getR fl_X6_15 (show decode cX6_inCirclesByPairs 73 = .ok (.getfield 15, 3) by decide +kernel) s22 ?_
      refine X_iload_n (j := 2) (show decode cX6_inCirclesByPairs 76 = .ok (.iload_n 2, 1) by decide +kernel) rfl rfl ?_
      obtain ⟨s24, w⟩ := w
      obtain ⟨s25, w⟩ := w
      refine X_iald (show decode cX6_inCirclesByPairs 77 = .ok (.iaload, 1) by decide +kernel) (isA_eq s24) s25 ?_
      refine X_iload_n (j := 2) (show decode cX6_inCirclesByPairs 78 = .ok (.iload_n 2, 1) by decide +kernel) rfl rfl ?_
      refine X_nI (rc' := 0) (rs' := 0) (as := [.int _, .int _]) msn_X6_57 (show decode cX6_inCirclesByPairs 79 = .ok (.invokestatic 57, 3) by decide +kernel) (by decide) (Nat.le_of_ble_eq_true rfl) (Nat.le_of_ble_eq_true rfl) rfl rfl (Nat.le_of_ble_eq_true rfl) (kX9_contains w) (fun r27 h26 w => ?_)
      refine X_if_eq (tgt := 88) (show decode cX6_inCirclesByPairs 82 = .ok (.ifCond .eq 6, 3) by decide +kernel) (by decide) ⟨fun c28 => ?_, fun c28 => ?_⟩
      · have w := w.1 c28
        refine X_iinc (j := 2) (v := _ + (nI 1)) (ls' := [(0, .ref _), (1, .int _), (2, .int _)]) (show decode cX6_inCirclesByPairs 88 = .ok (.iinc 2 1, 3) by decide +kernel) rfl rfl (Nat.le_of_ble_eq_true rfl) rfl ?_
        refine X_goto (tgt := 64) (show decode cX6_inCirclesByPairs 91 = .ok (.goto (-27), 3) by decide +kernel) (by decide) ?_
        exact ih _ _ _ _ w
      · have w := w.2 c28
        refine X_iinc (j := 1) (v := _ + (nI 1)) (ls' := [(0, .ref _), (1, .int _), (2, .int _)]) (show decode cX6_inCirclesByPairs 85 = .ok (.iinc 1 1, 3) by decide +kernel) rfl rfl (Nat.le_of_ble_eq_true rfl) rfl ?_
        refine X_iinc (j := 2) (v := _ + (nI 1)) (ls' := [(0, .ref _), (1, .int _), (2, .int _)]) (show decode cX6_inCirclesByPairs 88 = .ok (.iinc 2 1, 3) by decide +kernel) rfl rfl (Nat.le_of_ble_eq_true rfl) rfl ?_
        refine X_goto (tgt := 64) (show decode cX6_inCirclesByPairs 91 = .ok (.goto (-27), 3) by decide +kernel) (by decide) ?_
        exact ih _ _ _ _ w
set_option maxRecDepth 100000 in
set_option maxHeartbeats 4000000 in
theorem kX6_inCirclesByPairs {a0 : Nat} {h : AH} {K : Int32 → AH → Prop} (w : wX6_inCirclesByPairs a0 h K) : Cn mX6_inCirclesByPairs (cwd mX6_inCirclesByPairs) 2 0 0 [.ref a0] h (KI K) T0 := by
  refine Cn_of (by decide +kernel) rfl (Nat.le_of_ble_eq_true rfl) ?_
  show X mX6_inCirclesByPairs 2 (KI K) T0 0 0 0 [(0, .ref a0)] [] h
  unfold wX6_inCirclesByPairs at w
  refine X_iconst (v := (nI 0)) (show decode cX6_inCirclesByPairs 0 = .ok (.iconst 0, 1) by decide +kernel) (by decide) ?_
  refine X_istore_n (ls' := [(0, .ref _), (1, .int _)]) (show decode cX6_inCirclesByPairs 1 = .ok (.istore_n 1, 1) by decide +kernel) rfl (by decide) rfl ?_
  obtain ⟨n30, w⟩ := w
  refine kX6_inCirclesByPairs_L2 ?_ n30 _ _ _ w
  · intro x0_20 h21 w
    refine X_iconst (v := (nI 0)) (show decode cX6_inCirclesByPairs 60 = .ok (.iconst 0, 1) by decide +kernel) (by decide) ?_
    refine X_istore_n (ls' := [(0, .ref _), (1, .int _)]) (show decode cX6_inCirclesByPairs 61 = .ok (.istore_n 1, 1) by decide +kernel) rfl (by decide) rfl ?_
    refine X_iconst (v := (nI 0)) (show decode cX6_inCirclesByPairs 62 = .ok (.iconst 0, 1) by decide +kernel) (by decide) ?_
    refine X_istore_n (ls' := [(0, .ref _), (1, .int _), (2, .int _)]) (show decode cX6_inCirclesByPairs 63 = .ok (.istore_n 2, 1) by decide +kernel) rfl (by decide) rfl ?_
    obtain ⟨n29, w⟩ := w
    exact kX6_inCirclesByPairs_L64  n29 _ _ _ _ w
set_option maxRecDepth 100000 in
set_option maxHeartbeats 4000000 in
theorem kX9_deadlockedByPairs {a0 : Nat} {h : AH} {K : Int32 → AH → Prop} (w : wX9_deadlockedByPairs a0 h K) : Cn mX9_deadlockedByPairs (cwd mX9_deadlockedByPairs) 6 0 0 [.ref a0] h (KI K) T0 := by
  refine Cn_of (by decide +kernel) rfl (Nat.le_of_ble_eq_true rfl) ?_
  show X mX9_deadlockedByPairs 6 (KI K) T0 0 0 0 [(0, .ref a0)] [] h
  unfold wX9_deadlockedByPairs at w
  refine X_aload_n (j := 0) (show decode cX9_deadlockedByPairs 0 = .ok (.aload_n 0, 1) by decide +kernel) rfl rfl ?_
  obtain ⟨s1, w⟩ := w
  refine X_getR fl_X9_12 (show decode cX9_deadlockedByPairs 1 = .ok (.getfield 12, 3) by decide +kernel) s1 ?_
  refine X_aload_n (j := 0) (show decode cX9_deadlockedByPairs 4 = .ok (.aload_n 0, 1) by decide +kernel) rfl rfl ?_
  refine X_getR fl_X9_32 (show decode cX9_deadlockedByPairs 5 = .ok (.getfield 32, 3) by decide +kernel) s1 ?_
  obtain ⟨s8, w⟩ := w
  refine X_vV (rc' := 0) (rs' := 0) (as := [.ref _]) mv_X9_233 (show decode cX9_deadlockedByPairs 8 = .ok (.invokevirtual 233, 3) by decide +kernel) (by decide) (Nat.le_of_ble_eq_true rfl) (Nat.le_of_ble_eq_true rfl) rfl rfl (Nat.le_of_ble_eq_true rfl) (rcvD s8 (by decide) rfl) (kX7_relateWaiting w) (fun E h hk => hk.elim) (fun h2 w => ?_)
  refine X_aload_n (j := 0) (show decode cX9_deadlockedByPairs 11 = .ok (.aload_n 0, 1) by decide +kernel) rfl rfl ?_
  obtain ⟨s4, w⟩ := w
  refine X_getR fl_X9_32 (show decode cX9_deadlockedByPairs 12 = .ok (.getfield 32, 3) by decide +kernel) s4 ?_
  obtain ⟨s7, w⟩ := w
  refine X_vI (rc' := 0) (rs' := 0) (as := []) mv_X9_241 (show decode cX9_deadlockedByPairs 15 = .ok (.invokevirtual 241, 3) by decide +kernel) (by decide) (Nat.le_of_ble_eq_true rfl) (Nat.le_of_ble_eq_true rfl) rfl rfl (Nat.le_of_ble_eq_true rfl) (rcvD s7 (by decide) rfl) (kX6_inCirclesByPairs w) (fun E h hk => hk.elim) (fun r6 h5 w => ?_)
  exact X_iret ⟨(show decode cX9_deadlockedByPairs 18 = .ok (.ireturn, 1) by decide +kernel), .int, rfl, rfl⟩ ⟨_, rfl, w⟩
set_option maxRecDepth 100000 in
set_option maxHeartbeats 4000000 in
theorem kX7_routesMeet {a0 : Nat} {a1 : Nat} {a2 : Nat} {h : AH} {K : Int32 → AH → Prop} (w : wX7_routesMeet a0 a1 a2 h K) : Cn mX7_routesMeet (cwd mX7_routesMeet) 4 0 0 [.ref a0, .ref a1, .ref a2] h (KI K) T0 := by
  refine Cn_of (by decide +kernel) rfl (Nat.le_of_ble_eq_true rfl) ?_
  show X mX7_routesMeet 4 (KI K) T0 0 0 0 [(0, .ref a0), (1, .ref a1), (2, .ref a2)] [] h
  unfold wX7_routesMeet at w
  refine X_aload_n (j := 0) (show decode cX7_routesMeet 0 = .ok (.aload_n 0, 1) by decide +kernel) rfl rfl ?_
  refine X_aload_n (j := 1) (show decode cX7_routesMeet 1 = .ok (.aload_n 1, 1) by decide +kernel) rfl rfl ?_
  obtain ⟨s7, w⟩ := w
  refine X_vI (rc' := 0) (rs' := 0) (as := [.ref _]) mv_X7_181 (show decode cX7_routesMeet 2 = .ok (.invokevirtual 181, 3) by decide +kernel) (by decide) (Nat.le_of_ble_eq_true rfl) (Nat.le_of_ble_eq_true rfl) rfl rfl (Nat.le_of_ble_eq_true rfl) (rcvD s7 (by decide) rfl) (kX7_routeOf w) (fun E h hk => hk.elim) (fun r2 h1 w => ?_)
  refine X_aload_n (j := 0) (show decode cX7_routesMeet 5 = .ok (.aload_n 0, 1) by decide +kernel) rfl rfl ?_
  refine X_aload_n (j := 2) (show decode cX7_routesMeet 6 = .ok (.aload_n 2, 1) by decide +kernel) rfl rfl ?_
  obtain ⟨s6, w⟩ := w
  refine X_vI (rc' := 0) (rs' := 0) (as := [.ref _]) mv_X7_181 (show decode cX7_routesMeet 7 = .ok (.invokevirtual 181, 3) by decide +kernel) (by decide) (Nat.le_of_ble_eq_true rfl) (Nat.le_of_ble_eq_true rfl) rfl rfl (Nat.le_of_ble_eq_true rfl) (rcvD s6 (by decide) rfl) (kX7_routeOf w) (fun E h hk => hk.elim) (fun r4 h3 w => ?_)
  refine X_iand (show decode cX7_routesMeet 10 = .ok (.iand, 1) by decide +kernel) ?_
  refine X_if_eq (tgt := 18) (show decode cX7_routesMeet 11 = .ok (.ifCond .eq 7, 3) by decide +kernel) (by decide) ⟨fun c5 => ?_, fun c5 => ?_⟩
  · have w := w.1 c5
    refine X_iconst (v := (nI 0)) (show decode cX7_routesMeet 18 = .ok (.iconst 0, 1) by decide +kernel) (by decide) ?_
    exact X_iret ⟨(show decode cX7_routesMeet 19 = .ok (.ireturn, 1) by decide +kernel), .boolean, rfl, (by decide)⟩ ⟨_, rfl, w⟩
  · have w := w.2 c5
    refine X_iconst (v := (nI 1)) (show decode cX7_routesMeet 14 = .ok (.iconst 1, 1) by decide +kernel) (by decide) ?_
    refine X_goto (tgt := 19) (show decode cX7_routesMeet 15 = .ok (.goto 4, 3) by decide +kernel) (by decide) ?_
    exact X_iret ⟨(show decode cX7_routesMeet 19 = .ok (.ireturn, 1) by decide +kernel), .boolean, rfl, (by decide)⟩ ⟨_, rfl, w⟩
set_option maxRecDepth 100000 in
set_option maxHeartbeats 4000000 in
theorem kX9_conflict {a0 : Nat} {a1 : Int32} {a2 : Int32} {h : AH} {K : Int32 → AH → Prop} {T : String → AH → Prop} (w : wX9_conflict a0 a1 a2 h K T) : Cn mX9_conflict (cwd mX9_conflict) 9 3 18 [.ref a0, .int a1, .int a2] h (KI K) T := by
  refine Cn_of (by decide +kernel) rfl (Nat.le_of_ble_eq_true rfl) ?_
  show X mX9_conflict 9 (KI K) T 3 18 0 [(0, .ref a0), (1, .int a1), (2, .int a2)] [] h
  unfold wX9_conflict at w
  refine X_aload_n (j := 0) (show decode cX9_conflict 0 = .ok (.aload_n 0, 1) by decide +kernel) rfl rfl ?_
  refine X_iload_n (j := 1) (show decode cX9_conflict 1 = .ok (.iload_n 1, 1) by decide +kernel) rfl rfl ?_
  obtain ⟨s12, w⟩ := w
  refine X_vR (rc' := 2) (rs' := 12) (as := [.int _]) mv_X9_180 (show decode cX9_conflict 2 = .ok (.invokevirtual 180, 3) by decide +kernel) (by decide) (Nat.le_of_ble_eq_true rfl) (Nat.le_of_ble_eq_true rfl) rfl rfl (Nat.le_of_ble_eq_true rfl) (rcvD s12 (by decide) rfl) (kX9_presentTrain w) (fun E h hk => XT_out hk (fun x hx => absurd hx List.not_mem_nil)) (fun r2 h1 w => ?_)
  refine X_astore_n (ls' := [(0, .ref _), (1, .int _), (2, .int _), (3, .ref _)]) (show decode cX9_conflict 5 = .ok (.astore_n 3, 1) by decide +kernel) rfl (by decide) rfl ?_
  refine X_aload_n (j := 0) (show decode cX9_conflict 6 = .ok (.aload_n 0, 1) by decide +kernel) rfl rfl ?_
  refine X_iload_n (j := 2) (show decode cX9_conflict 7 = .ok (.iload_n 2, 1) by decide +kernel) rfl rfl ?_
  obtain ⟨s11, w⟩ := w
  refine X_vR (rc' := 1) (rs' := 6) (as := [.int _]) mv_X9_180 (show decode cX9_conflict 8 = .ok (.invokevirtual 180, 3) by decide +kernel) (by decide) (Nat.le_of_ble_eq_true rfl) (Nat.le_of_ble_eq_true rfl) rfl rfl (Nat.le_of_ble_eq_true rfl) (rcvD s11 (by decide) rfl) (kX9_presentTrain w) (fun E h hk => XT_out hk (fun x hx => absurd hx List.not_mem_nil)) (fun r4 h3 w => ?_)
  refine X_astore (ls' := [(0, .ref _), (1, .int _), (2, .int _), (3, .ref _), (4, .ref _)]) (show decode cX9_conflict 11 = .ok (.astore 4, 2) by decide +kernel) (by decide) rfl ?_
  refine X_iload_n (j := 1) (show decode cX9_conflict 13 = .ok (.iload_n 1, 1) by decide +kernel) rfl rfl ?_
  refine X_iload_n (j := 2) (show decode cX9_conflict 14 = .ok (.iload_n 2, 1) by decide +kernel) rfl rfl ?_
  refine X_icmp_ne (tgt := 28) (show decode cX9_conflict 15 = .ok (.if_icmp .ne 13, 3) by decide +kernel) (by decide) ⟨fun c5 => ?_, fun c5 => ?_⟩
  · have w := w.1 c5
    refine X_aload_n (j := 0) (show decode cX9_conflict 28 = .ok (.aload_n 0, 1) by decide +kernel) rfl rfl ?_
    obtain ⟨s6, w⟩ := w
    refine X_getR fl_X9_12 (show decode cX9_conflict 29 = .ok (.getfield 12, 3) by decide +kernel) s6 ?_
    refine X_aload_n (j := 3) (show decode cX9_conflict 32 = .ok (.aload_n 3, 1) by decide +kernel) rfl rfl ?_
    refine X_aload (j := 4) (show decode cX9_conflict 33 = .ok (.aload 4, 2) by decide +kernel) rfl ?_
    obtain ⟨s10, w⟩ := w
    refine X_vI (rc' := 1) (rs' := 6) (as := [.ref _, .ref _]) mv_X9_249 (show decode cX9_conflict 35 = .ok (.invokevirtual 249, 3) by decide +kernel) (by decide) (Nat.le_of_ble_eq_true rfl) (Nat.le_of_ble_eq_true rfl) rfl rfl (Nat.le_of_ble_eq_true rfl) (rcvD s10 (by decide) rfl) (kX7_routesMeet w) (fun E h hk => hk.elim) (fun r8 h7 w => ?_)
    obtain ⟨s9, w⟩ := w
    exact X_iret ⟨(show decode cX9_conflict 38 = .ok (.ireturn, 1) by decide +kernel), .boolean, rfl, s9⟩ ⟨_, rfl, w⟩
  · have w := w.2 c5
    exact X_throwS tw_X9_244_246 (show decode cX9_conflict 18 = .ok (.new 244, 3) by decide +kernel) (show decode cX9_conflict 21 = .ok (.dup, 1) by decide +kernel) (show decode cX9_conflict 22 = .ok (.ldc 246, 2) by decide +kernel) (show decode cX9_conflict 24 = .ok (.invokespecial 248, 3) by decide +kernel) (show decode cX9_conflict 27 = .ok (.athrow, 1) by decide +kernel) (fun x hx => absurd hx List.not_mem_nil) (by decide) (Nat.le_of_ble_eq_true rfl) (Nat.le_of_ble_eq_true rfl) (Nat.le_of_ble_eq_true rfl) w
set_option maxRecDepth 100000 in
set_option maxHeartbeats 4000000 in
theorem kX7_relateConflicts_L20 {K : AH → Prop} {c64 : Nat → Nat → Int32 → AH → Prop} (hc64 : ∀ x0 x1 x2 h, c64 x0 x1 x2 h → X mX7_relateConflicts 5 (KV K) T0 0 0 64 [(0, .ref x0), (1, .ref x1), (2, .int x2)] [] h)  : ∀ (n : Nat) (x0 : Nat) (x1 : Nat) (x2 : Int32) (x3 : Int32) (h : AH), wX7_relateConflicts_L20 K c64  n x0 x1 x2 x3 h → X mX7_relateConflicts 5 (KV K) T0 0 0 20 [(0, .ref x0), (1, .ref x1), (2, .int x2), (3, .int x3)] [] h := by
  intro n
  induction n with
  | zero => intro _ _ _ _ _ w; exact w.elim
  | succ n ih =>
    intro x0 x1 x2 x3 h w
    rw [wX7_relateConflicts_L20] at w
    refine X_iload_n (j := 3) (show decode cX7_relateConflicts 20 = .ok (.iload_n 3, 1) by decide +kernel) rfl rfl ?_
    refine X_aload_n (j := 0) (show decode cX7_relateConflicts 21 = .ok (.aload_n 0, 1) by decide +kernel) rfl rfl ?_
    obtain ⟨s6, w⟩ := w
    refine X_getI fl_X7_28 (show decode cX7_relateConflicts 22 = .ok (.getfield 28, 3) by decide +kernel) s6 ?_
    refine X_icmp_ge (tgt := 64) (show decode cX7_relateConflicts 25 = .ok (.if_icmp .ge 39, 3) by decide +kernel) (by decide) ⟨fun c7 => ?_, fun c7 => ?_⟩
    · have w := w.1 c7
      refine X_pick (ls' := [(0, .ref _), (1, .ref _), (2, .int _)]) [0, 1, 2] rfl ?_
      exact hc64 _ _ _ _ w
    · have w := w.2 c7
      refine X_iload_n (j := 2) (show decode cX7_relateConflicts 28 = .ok (.iload_n 2, 1) by decide +kernel) rfl rfl ?_
      refine X_iload_n (j := 3) (show decode cX7_relateConflicts 29 = .ok (.iload_n 3, 1) by decide +kernel) rfl rfl ?_
      refine X_icmp_eq (tgt := 58) (show decode cX7_relateConflicts 30 = .ok (.if_icmp .eq 28, 3) by decide +kernel) (by decide) ⟨fun c8 => ?_, fun c8 => ?_⟩
      · have w := w.1 c8
        refine X_iinc (j := 3) (v := _ + (nI 1)) (ls' := [(0, .ref _), (1, .ref _), (2, .int _), (3, .int _)]) (show decode cX7_relateConflicts 58 = .ok (.iinc 3 1, 3) by decide +kernel) rfl rfl (Nat.le_of_ble_eq_true rfl) rfl ?_
        refine X_goto (tgt := 20) (show decode cX7_relateConflicts 61 = .ok (.goto (-41), 3) by decide +kernel) (by decide) ?_
        exact ih _ _ _ _ _ w
      · have w := w.2 c8
        refine X_aload_n (j := 0) (show decode cX7_relateConflicts 33 = .ok (.aload_n 0, 1) by decide +kernel) rfl rfl ?_
        refine X_aload_n (j := 0) (show decode cX7_relateConflicts 34 = .ok (.aload_n 0, 1) by decide +kernel) rfl rfl ?_
        refine X_getR fl_X7_20 (show decode cX7_relateConflicts 35 = .ok (.getfield 20, 3) by decide +kernel) s6 ?_
        refine X_iload_n (j := 2) (show decode cX7_relateConflicts 38 = .ok (.iload_n 2, 1) by decide +kernel) rfl rfl ?_
        obtain ⟨s9, w⟩ := w
        obtain ⟨s10, w⟩ := w
        refine X_aaldT (show decode cX7_relateConflicts 39 = .ok (.aaload, 1) by decide +kernel) (isA_eq s9) s10 ?_
        refine X_aload_n (j := 0) (show decode cX7_relateConflicts 40 = .ok (.aload_n 0, 1) by decide +kernel) rfl rfl ?_
        refine X_getR fl_X7_20 (show decode cX7_relateConflicts 41 = .ok (.getfield 20, 3) by decide +kernel) s6 ?_
        refine X_iload_n (j := 3) (show decode cX7_relateConflicts 44 = .ok (.iload_n 3, 1) by decide +kernel) rfl rfl ?_
        obtain ⟨s11, w⟩ := w
        refine X_aaldT (show decode cX7_relateConflicts 45 = .ok (.aaload, 1) by decide +kernel) (isA_eq s9) s11 ?_
        refine X_vI (rc' := 0) (rs' := 0) (as := [.ref _, .ref _]) mv_X7_196 (show decode cX7_relateConflicts 46 = .ok (.invokevirtual 196, 3) by decide +kernel) (by decide) (Nat.le_of_ble_eq_true rfl) (Nat.le_of_ble_eq_true rfl) rfl rfl (Nat.le_of_ble_eq_true rfl) (rcvD s6 (by decide) rfl) (kX7_routesMeet w) (fun E h hk => hk.elim) (fun r13 h12 w => ?_)
        refine X_if_eq (tgt := 58) (show decode cX7_relateConflicts 49 = .ok (.ifCond .eq 9, 3) by decide +kernel) (by decide) ⟨fun c14 => ?_, fun c14 => ?_⟩
        · have w := w.1 c14
          refine X_iinc (j := 3) (v := _ + (nI 1)) (ls' := [(0, .ref _), (1, .ref _), (2, .int _), (3, .int _)]) (show decode cX7_relateConflicts 58 = .ok (.iinc 3 1, 3) by decide +kernel) rfl rfl (Nat.le_of_ble_eq_true rfl) rfl ?_
          refine X_goto (tgt := 20) (show decode cX7_relateConflicts 61 = .ok (.goto (-41), 3) by decide +kernel) (by decide) ?_
          exact ih _ _ _ _ _ w
        · have w := w.2 c14
          refine X_aload_n (j := 1) (show decode cX7_relateConflicts 52 = .ok (.aload_n 1, 1) by decide +kernel) rfl rfl ?_
          refine X_iload_n (j := 2) (show decode cX7_relateConflicts 53 = .ok (.iload_n 2, 1) by decide +kernel) rfl rfl ?_
          refine X_iload_n (j := 3) (show decode cX7_relateConflicts 54 = .ok (.iload_n 3, 1) by decide +kernel) rfl rfl ?_
          obtain ⟨s17, w⟩ := w
          refine X_vV (rc' := 0) (rs' := 0) (as := [.int _, .int _]) mv_X7_193 (show decode cX7_relateConflicts 55 = .ok (.invokevirtual 193, 3) by decide +kernel) (by decide) (Nat.le_of_ble_eq_true rfl) (Nat.le_of_ble_eq_true rfl) rfl rfl (Nat.le_of_ble_eq_true rfl) (rcvD s17 (by decide) rfl) (kX6_relate w) (fun E h hk => hk.elim) (fun h15 w => ?_)
          refine X_iinc (j := 3) (v := _ + (nI 1)) (ls' := [(0, .ref _), (1, .ref _), (2, .int _), (3, .int _)]) (show decode cX7_relateConflicts 58 = .ok (.iinc 3 1, 3) by decide +kernel) rfl rfl (Nat.le_of_ble_eq_true rfl) rfl ?_
          refine X_goto (tgt := 20) (show decode cX7_relateConflicts 61 = .ok (.goto (-41), 3) by decide +kernel) (by decide) ?_
          exact ih _ _ _ _ _ w
set_option maxRecDepth 100000 in
set_option maxHeartbeats 4000000 in
theorem kX7_relateConflicts_L10 {K : AH → Prop}    : ∀ (n : Nat) (x0 : Nat) (x1 : Nat) (x2 : Int32) (h : AH), wX7_relateConflicts_L10 K   n x0 x1 x2 h → X mX7_relateConflicts 5 (KV K) T0 0 0 10 [(0, .ref x0), (1, .ref x1), (2, .int x2)] [] h := by
  intro n
  induction n with
  | zero => intro _ _ _ _ w; exact w.elim
  | succ n ih =>
    intro x0 x1 x2 h w
    rw [wX7_relateConflicts_L10] at w
    refine X_iload_n (j := 2) (show decode cX7_relateConflicts 10 = .ok (.iload_n 2, 1) by decide +kernel) rfl rfl ?_
    refine X_aload_n (j := 0) (show decode cX7_relateConflicts 11 = .ok (.aload_n 0, 1) by decide +kernel) rfl rfl ?_
    obtain ⟨s4, w⟩ := w
    refine X_getI fl_X7_28 (show decode cX7_relateConflicts 12 = .ok (.getfield 28, 3) by decide +kernel) s4 ?_
    refine X_icmp_ge (tgt := 70) (show decode cX7_relateConflicts 15 = .ok (.if_icmp .ge 55, 3) by decide +kernel) (by decide) ⟨fun c5 => ?_, fun c5 => ?_⟩
    · have w := w.1 c5
      exact X_vret ⟨(show decode cX7_relateConflicts 70 = .ok (.return_, 1) by decide +kernel), rfl⟩ ⟨rfl, w⟩
    · have w := w.2 c5
      refine X_iconst (v := (nI 0)) (show decode cX7_relateConflicts 18 = .ok (.iconst 0, 1) by decide +kernel) (by decide) ?_
      refine X_istore_n (ls' := [(0, .ref _), (1, .ref _), (2, .int _), (3, .int _)]) (show decode cX7_relateConflicts 19 = .ok (.istore_n 3, 1) by decide +kernel) rfl (by decide) rfl ?_
      obtain ⟨n22, w⟩ := w
      refine kX7_relateConflicts_L20 ?_ n22 _ _ _ _ _ w
      · intro x0_18 x1_19 x2_20 h21 w
        refine X_iinc (j := 2) (v := _ + (nI 1)) (ls' := [(0, .ref _), (1, .ref _), (2, .int _)]) (show decode cX7_relateConflicts 64 = .ok (.iinc 2 1, 3) by decide +kernel) rfl rfl (Nat.le_of_ble_eq_true rfl) rfl ?_
        refine X_goto (tgt := 10) (show decode cX7_relateConflicts 67 = .ok (.goto (-57), 3) by decide +kernel) (by decide) ?_
        exact ih _ _ _ _ w
set_option maxRecDepth 100000 in
set_option maxHeartbeats 4000000 in
theorem kX7_relateConflicts {a0 : Nat} {a1 : Nat} {h : AH} {K : AH → Prop} (w : wX7_relateConflicts a0 a1 h K) : Cn mX7_relateConflicts (cwd mX7_relateConflicts) 5 0 0 [.ref a0, .ref a1] h (KV K) T0 := by
  refine Cn_of (by decide +kernel) rfl (Nat.le_of_ble_eq_true rfl) ?_
  show X mX7_relateConflicts 5 (KV K) T0 0 0 0 [(0, .ref a0), (1, .ref a1)] [] h
  unfold wX7_relateConflicts at w
  refine X_aload_n (j := 1) (show decode cX7_relateConflicts 0 = .ok (.aload_n 1, 1) by decide +kernel) rfl rfl ?_
  refine X_aload_n (j := 0) (show decode cX7_relateConflicts 1 = .ok (.aload_n 0, 1) by decide +kernel) rfl rfl ?_
  obtain ⟨s1, w⟩ := w
  refine X_getI fl_X7_28 (show decode cX7_relateConflicts 2 = .ok (.getfield 28, 3) by decide +kernel) s1 ?_
  obtain ⟨s24, w⟩ := w
  refine X_vV (rc' := 0) (rs' := 0) (as := [.int _]) mv_X7_185 (show decode cX7_relateConflicts 5 = .ok (.invokevirtual 185, 3) by decide +kernel) (by decide) (Nat.le_of_ble_eq_true rfl) (Nat.le_of_ble_eq_true rfl) rfl rfl (Nat.le_of_ble_eq_true rfl) (rcvD s24 (by decide) rfl) (kX6_begin w) (fun E h hk => hk.elim) (fun h2 w => ?_)
  refine X_iconst (v := (nI 0)) (show decode cX7_relateConflicts 8 = .ok (.iconst 0, 1) by decide +kernel) (by decide) ?_
  refine X_istore_n (ls' := [(0, .ref _), (1, .ref _), (2, .int _)]) (show decode cX7_relateConflicts 9 = .ok (.istore_n 2, 1) by decide +kernel) rfl (by decide) rfl ?_
  obtain ⟨n23, w⟩ := w
  exact kX7_relateConflicts_L10  n23 _ _ _ _ w
set_option maxRecDepth 100000 in
set_option maxHeartbeats 4000000 in
theorem kX6_takeOrLeave_b {d : Nat} {rec : Nat → Int32 → Int32 → AH → (Int32 → AH → Prop) → Prop} (hrec : ∀ b0 b1 b2 h K, rec b0 b1 b2 h K → Cn mX6_takeOrLeave (cwd mX6_takeOrLeave) (d + 1) 0 0 [.ref b0, .int b1, .int b2] h (KI K) T0) {a0 : Nat} {a1 : Int32} {a2 : Int32} {h : AH} {K : Int32 → AH → Prop} (w : wX6_takeOrLeave_b rec a0 a1 a2 h K) : Cn mX6_takeOrLeave (cwd mX6_takeOrLeave) (d + 2) 0 0 [.ref a0, .int a1, .int a2] h (KI K) T0 := by
  refine Cn_of (by decide +kernel) rfl (Nat.le_of_ble_eq_true rfl) ?_
  show X mX6_takeOrLeave (d + 2) (KI K) T0 0 0 0 [(0, .ref a0), (1, .int a1), (2, .int a2)] [] h
  unfold wX6_takeOrLeave_b at w
  refine X_iload_n (j := 1) (show decode cX6_takeOrLeave 0 = .ok (.iload_n 1, 1) by decide +kernel) rfl rfl ?_
  refine X_aload_n (j := 0) (show decode cX6_takeOrLeave 1 = .ok (.aload_n 0, 1) by decide +kernel) rfl rfl ?_
  obtain ⟨s1, w⟩ := w
  refine X_getI fl_X6_9 (show decode cX6_takeOrLeave 2 = .ok (.getfield 9, 3) by decide +kernel) s1 ?_
  refine X_icmp_lt (tgt := 10) (show decode cX6_takeOrLeave 5 = .ok (.if_icmp .lt 5, 3) by decide +kernel) (by decide) ⟨fun c2 => ?_, fun c2 => ?_⟩
  · have w := w.1 c2
    refine X_aload_n (j := 0) (show decode cX6_takeOrLeave 10 = .ok (.aload_n 0, 1) by decide +kernel) rfl rfl ?_
    refine X_iload_n (j := 1) (show decode cX6_takeOrLeave 11 = .ok (.iload_n 1, 1) by decide +kernel) rfl rfl ?_
    refine X_iconst (v := (nI 1)) (show decode cX6_takeOrLeave 12 = .ok (.iconst 1, 1) by decide +kernel) (by decide) ?_
    refine X_iadd (show decode cX6_takeOrLeave 13 = .ok (.iadd, 1) by decide +kernel) ?_
    refine X_iload_n (j := 2) (show decode cX6_takeOrLeave 14 = .ok (.iload_n 2, 1) by decide +kernel) rfl rfl ?_
    refine X_sI (rc' := 0) (rs' := 0) (as := [.ref _, .int _, .int _]) ms_X6_64 (show decode cX6_takeOrLeave 15 = .ok (.invokestatic 64, 3) by decide +kernel) (Nat.le_refl _) (Nat.le_of_ble_eq_true rfl) (Nat.le_of_ble_eq_true rfl) rfl rfl (Nat.le_of_ble_eq_true rfl) (hrec _ _ _ _ _ w) (fun E h hk => hk.elim) (fun r4 h3 w => ?_)
    refine X_istore_n (ls' := [(0, .ref _), (1, .int _), (2, .int _), (3, .int _)]) (show decode cX6_takeOrLeave 18 = .ok (.istore_n 3, 1) by decide +kernel) rfl (by decide) rfl ?_
    refine X_aload_n (j := 0) (show decode cX6_takeOrLeave 19 = .ok (.aload_n 0, 1) by decide +kernel) rfl rfl ?_
    obtain ⟨s5, w⟩ := w
    refine X_getR fl_X6_15 (show decode cX6_takeOrLeave 20 = .ok (.getfield 15, 3) by decide +kernel) s5 ?_
    refine X_iload_n (j := 1) (show decode cX6_takeOrLeave 23 = .ok (.iload_n 1, 1) by decide +kernel) rfl rfl ?_
    obtain ⟨s6, w⟩ := w
    obtain ⟨s7, w⟩ := w
    refine X_iald (show decode cX6_takeOrLeave 24 = .ok (.iaload, 1) by decide +kernel) (isA_eq s6) s7 ?_
    refine X_iload_n (j := 2) (show decode cX6_takeOrLeave 25 = .ok (.iload_n 2, 1) by decide +kernel) rfl rfl ?_
    refine X_iand (show decode cX6_takeOrLeave 26 = .ok (.iand, 1) by decide +kernel) ?_
    refine X_if_ne (tgt := 49) (show decode cX6_takeOrLeave 27 = .ok (.ifCond .ne 22, 3) by decide +kernel) (by decide) ⟨fun c8 => ?_, fun c8 => ?_⟩
    · have w := w.1 c8
      refine X_iload_n (j := 3) (show decode cX6_takeOrLeave 49 = .ok (.iload_n 3, 1) by decide +kernel) rfl rfl ?_
      exact X_iret ⟨(show decode cX6_takeOrLeave 50 = .ok (.ireturn, 1) by decide +kernel), .int, rfl, rfl⟩ ⟨_, rfl, w⟩
    · have w := w.2 c8
      refine X_iload_n (j := 3) (show decode cX6_takeOrLeave 30 = .ok (.iload_n 3, 1) by decide +kernel) rfl rfl ?_
      refine X_iconst (v := (nI 1)) (show decode cX6_takeOrLeave 31 = .ok (.iconst 1, 1) by decide +kernel) (by decide) ?_
      refine X_aload_n (j := 0) (show decode cX6_takeOrLeave 32 = .ok (.aload_n 0, 1) by decide +kernel) rfl rfl ?_
      refine X_iload_n (j := 1) (show decode cX6_takeOrLeave 33 = .ok (.iload_n 1, 1) by decide +kernel) rfl rfl ?_
      refine X_iconst (v := (nI 1)) (show decode cX6_takeOrLeave 34 = .ok (.iconst 1, 1) by decide +kernel) (by decide) ?_
      refine X_iadd (show decode cX6_takeOrLeave 35 = .ok (.iadd, 1) by decide +kernel) ?_
      refine X_iload_n (j := 2) (show decode cX6_takeOrLeave 36 = .ok (.iload_n 2, 1) by decide +kernel) rfl rfl ?_
      refine X_iconst (v := (nI 1)) (show decode cX6_takeOrLeave 37 = .ok (.iconst 1, 1) by decide +kernel) (by decide) ?_
      refine X_iload_n (j := 1) (show decode cX6_takeOrLeave 38 = .ok (.iload_n 1, 1) by decide +kernel) rfl rfl ?_
      refine X_ishl (show decode cX6_takeOrLeave 39 = .ok (.ishl, 1) by decide +kernel) ?_
      refine X_ior (show decode cX6_takeOrLeave 40 = .ok (.ior, 1) by decide +kernel) ?_
      refine X_sI (rc' := 0) (rs' := 0) (as := [.ref _, .int _, .int _]) ms_X6_64 (show decode cX6_takeOrLeave 41 = .ok (.invokestatic 64, 3) by decide +kernel) (Nat.le_refl _) (Nat.le_of_ble_eq_true rfl) (Nat.le_of_ble_eq_true rfl) rfl rfl (Nat.le_of_ble_eq_true rfl) (hrec _ _ _ _ _ w) (fun E h hk => hk.elim) (fun r10 h9 w => ?_)
      refine X_iadd (show decode cX6_takeOrLeave 44 = .ok (.iadd, 1) by decide +kernel) ?_
      refine X_mmax (show decode cX6_takeOrLeave 45 = .ok (.invokestatic 40, 3) by decide +kernel) gl_X6_40 gst_max gin_Math gco_max (by omega) (Nat.le_of_ble_eq_true rfl) ?_
      refine X_topi (fun v11 e12 => ?_)
      have w := w v11 e12
      refine X_istore_n (ls' := [(0, .ref _), (1, .int _), (2, .int _), (3, .int _)]) (show decode cX6_takeOrLeave 48 = .ok (.istore_n 3, 1) by decide +kernel) rfl (by decide) rfl ?_
      refine X_iload_n (j := 3) (show decode cX6_takeOrLeave 49 = .ok (.iload_n 3, 1) by decide +kernel) rfl rfl ?_
      exact X_iret ⟨(show decode cX6_takeOrLeave 50 = .ok (.ireturn, 1) by decide +kernel), .int, rfl, rfl⟩ ⟨_, rfl, w⟩
  · have w := w.2 c2
    refine X_iconst (v := (nI 0)) (show decode cX6_takeOrLeave 8 = .ok (.iconst 0, 1) by decide +kernel) (by decide) ?_
    exact X_iret ⟨(show decode cX6_takeOrLeave 9 = .ok (.ireturn, 1) by decide +kernel), .int, rfl, rfl⟩ ⟨_, rfl, w⟩
theorem kX6_takeOrLeave : ∀ (d : Nat) (a0 : Nat) (a1 : Int32) (a2 : Int32) (h : AH) (K : Int32 → AH → Prop), wX6_takeOrLeave d a0 a1 a2 h K → Cn mX6_takeOrLeave (cwd mX6_takeOrLeave) (d + 1) 0 0 [.ref a0, .int a1, .int a2] h (KI K) T0
  | 0, _, _, _, _, _, w => w.elim
  | d + 1, a0, a1, a2, h, K, w => by
    have := kX6_takeOrLeave_b (d := d) (kX6_takeOrLeave d) w
    rw [show d + 1 + 1 = d + 2 by omega]
    exact this
set_option maxRecDepth 100000 in
set_option maxHeartbeats 4000000 in
theorem kX6_mostUnrelated {a0 : Nat} {h : AH} {K : Int32 → AH → Prop} (w : wX6_mostUnrelated a0 h K) : Cn mX6_mostUnrelated (cwd mX6_mostUnrelated) 12 0 0 [.ref a0] h (KI K) T0 := by
  refine Cn_of (by decide +kernel) rfl (Nat.le_of_ble_eq_true rfl) ?_
  show X mX6_mostUnrelated 12 (KI K) T0 0 0 0 [(0, .ref a0)] [] h
  unfold wX6_mostUnrelated at w
  refine X_aload_n (j := 0) (show decode cX6_mostUnrelated 0 = .ok (.aload_n 0, 1) by decide +kernel) rfl rfl ?_
  refine X_iconst (v := (nI 0)) (show decode cX6_mostUnrelated 1 = .ok (.iconst 0, 1) by decide +kernel) (by decide) ?_
  refine X_iconst (v := (nI 0)) (show decode cX6_mostUnrelated 2 = .ok (.iconst 0, 1) by decide +kernel) (by decide) ?_
  refine X_sI (rc' := 0) (rs' := 0) (as := [.ref _, .int _, .int _]) ms_X6_64 (show decode cX6_mostUnrelated 3 = .ok (.invokestatic 64, 3) by decide +kernel) (by decide) (Nat.le_of_ble_eq_true rfl) (Nat.le_of_ble_eq_true rfl) rfl rfl (Nat.le_of_ble_eq_true rfl) (kX6_takeOrLeave 10 _ _ _ _ _ w) (fun E h hk => hk.elim) (fun r2 h1 w => ?_)
  exact X_iret ⟨(show decode cX6_mostUnrelated 6 = .ok (.ireturn, 1) by decide +kernel), .int, rfl, rfl⟩ ⟨_, rfl, w⟩
set_option maxRecDepth 100000 in
set_option maxHeartbeats 4000000 in
theorem kX9_mostWithoutConflict {a0 : Nat} {h : AH} {K : Int32 → AH → Prop} (w : wX9_mostWithoutConflict a0 h K) : Cn mX9_mostWithoutConflict (cwd mX9_mostWithoutConflict) 13 0 0 [.ref a0] h (KI K) T0 := by
  refine Cn_of (by decide +kernel) rfl (Nat.le_of_ble_eq_true rfl) ?_
  show X mX9_mostWithoutConflict 13 (KI K) T0 0 0 0 [(0, .ref a0)] [] h
  unfold wX9_mostWithoutConflict at w
  refine X_aload_n (j := 0) (show decode cX9_mostWithoutConflict 0 = .ok (.aload_n 0, 1) by decide +kernel) rfl rfl ?_
  obtain ⟨s1, w⟩ := w
  refine X_getR fl_X9_12 (show decode cX9_mostWithoutConflict 1 = .ok (.getfield 12, 3) by decide +kernel) s1 ?_
  refine X_aload_n (j := 0) (show decode cX9_mostWithoutConflict 4 = .ok (.aload_n 0, 1) by decide +kernel) rfl rfl ?_
  refine X_getR fl_X9_32 (show decode cX9_mostWithoutConflict 5 = .ok (.getfield 32, 3) by decide +kernel) s1 ?_
  obtain ⟨s8, w⟩ := w
  refine X_vV (rc' := 0) (rs' := 0) (as := [.ref _]) mv_X9_252 (show decode cX9_mostWithoutConflict 8 = .ok (.invokevirtual 252, 3) by decide +kernel) (by decide) (Nat.le_of_ble_eq_true rfl) (Nat.le_of_ble_eq_true rfl) rfl rfl (Nat.le_of_ble_eq_true rfl) (rcvD s8 (by decide) rfl) (kX7_relateConflicts w) (fun E h hk => hk.elim) (fun h2 w => ?_)
  refine X_aload_n (j := 0) (show decode cX9_mostWithoutConflict 11 = .ok (.aload_n 0, 1) by decide +kernel) rfl rfl ?_
  obtain ⟨s4, w⟩ := w
  refine X_getR fl_X9_32 (show decode cX9_mostWithoutConflict 12 = .ok (.getfield 32, 3) by decide +kernel) s4 ?_
  obtain ⟨s7, w⟩ := w
  refine X_vI (rc' := 0) (rs' := 0) (as := []) mv_X9_255 (show decode cX9_mostWithoutConflict 15 = .ok (.invokevirtual 255, 3) by decide +kernel) (by decide) (Nat.le_of_ble_eq_true rfl) (Nat.le_of_ble_eq_true rfl) rfl rfl (Nat.le_of_ble_eq_true rfl) (rcvD s7 (by decide) rfl) (kX6_mostUnrelated w) (fun E h hk => hk.elim) (fun r6 h5 w => ?_)
  exact X_iret ⟨(show decode cX9_mostWithoutConflict 18 = .ok (.ireturn, 1) by decide +kernel), .int, rfl, rfl⟩ ⟨_, rfl, w⟩
set_option maxRecDepth 100000 in
set_option maxHeartbeats 4000000 in
theorem kX6_isUnrelated_L2 {K : Int32 → AH → Prop}    : ∀ (n : Nat) (x0 : Nat) (x1 : Int32) (x2 : Int32) (h : AH), wX6_isUnrelated_L2 K   n x0 x1 x2 h → X mX6_isUnrelated 2 (KI K) T0 0 0 2 [(0, .ref x0), (1, .int x1), (2, .int x2)] [] h := by
  intro n
  induction n with
  | zero => intro _ _ _ _ w; exact w.elim
  | succ n ih =>
    intro x0 x1 x2 h w
    rw [wX6_isUnrelated_L2] at w
    refine X_iload_n (j := 2) (show decode cX6_isUnrelated 2 = .ok (.iload_n 2, 1) by decide +kernel) rfl rfl ?_
    refine X_aload_n (j := 0) (show decode cX6_isUnrelated 3 = .ok (.aload_n 0, 1) by decide +kernel) rfl rfl ?_
    obtain ⟨s1, w⟩ := w
    refine X_getI fl_X6_9 (show decode cX6_isUnrelated 4 = .ok (.getfield 9, 3) by decide +kernel) s1 ?_
    refine X_icmp_ge (tgt := 37) (show decode cX6_isUnrelated 7 = .ok (.if_icmp .ge 30, 3) by decide +kernel) (by decide) ⟨fun c2 => ?_, fun c2 => ?_⟩
    · have w := w.1 c2
      refine X_iconst (v := (nI 1)) (show decode cX6_isUnrelated 37 = .ok (.iconst 1, 1) by decide +kernel) (by decide) ?_
      exact X_iret ⟨(show decode cX6_isUnrelated 38 = .ok (.ireturn, 1) by decide +kernel), .boolean, rfl, (by decide)⟩ ⟨_, rfl, w⟩
    · have w := w.2 c2
      refine X_iload_n (j := 1) (show decode cX6_isUnrelated 10 = .ok (.iload_n 1, 1) by decide +kernel) rfl rfl ?_
      refine X_iload_n (j := 2) (show decode cX6_isUnrelated 11 = .ok (.iload_n 2, 1) by decide +kernel) rfl rfl ?_
      refine X_nI (rc' := 0) (rs' := 0) (as := [.int _, .int _]) msn_X6_57 (show decode cX6_isUnrelated 12 = .ok (.invokestatic 57, 3) by decide +kernel) (by decide) (Nat.le_of_ble_eq_true rfl) (Nat.le_of_ble_eq_true rfl) rfl rfl (Nat.le_of_ble_eq_true rfl) (kX9_contains w) (fun r4 h3 w => ?_)
      refine X_if_eq (tgt := 31) (show decode cX6_isUnrelated 15 = .ok (.ifCond .eq 16, 3) by decide +kernel) (by decide) ⟨fun c5 => ?_, fun c5 => ?_⟩
      · have w := w.1 c5
        refine X_iinc (j := 2) (v := _ + (nI 1)) (ls' := [(0, .ref _), (1, .int _), (2, .int _)]) (show decode cX6_isUnrelated 31 = .ok (.iinc 2 1, 3) by decide +kernel) rfl rfl (Nat.le_of_ble_eq_true rfl) rfl ?_
        refine X_goto (tgt := 2) (show decode cX6_isUnrelated 34 = .ok (.goto (-32), 3) by decide +kernel) (by decide) ?_
        exact ih _ _ _ _ w
      · have w := w.2 c5
        refine X_aload_n (j := 0) (show decode cX6_isUnrelated 18 = .ok (.aload_n 0, 1) by decide +kernel) rfl rfl ?_
        obtain ⟨s6, w⟩ := w
        refine X_getR fl_X6_15 (show decode cX6_isUnrelated 19 = .ok (.getfield 15, 3) by decide +kernel) s6 ?_
        refine X_iload_n (j := 2) (show decode cX6_isUnrelated 22 = .ok (.iload_n 2, 1) by decide +kernel) rfl rfl ?_
        obtain ⟨s7, w⟩ := w
        obtain ⟨s8, w⟩ := w
        refine X_iald (show decode cX6_isUnrelated 23 = .ok (.iaload, 1) by decide +kernel) (isA_eq s7) s8 ?_
        refine X_iload_n (j := 1) (show decode cX6_isUnrelated 24 = .ok (.iload_n 1, 1) by decide +kernel) rfl rfl ?_
        refine X_iand (show decode cX6_isUnrelated 25 = .ok (.iand, 1) by decide +kernel) ?_
        refine X_if_eq (tgt := 31) (show decode cX6_isUnrelated 26 = .ok (.ifCond .eq 5, 3) by decide +kernel) (by decide) ⟨fun c9 => ?_, fun c9 => ?_⟩
        · have w := w.1 c9
          refine X_iinc (j := 2) (v := _ + (nI 1)) (ls' := [(0, .ref _), (1, .int _), (2, .int _)]) (show decode cX6_isUnrelated 31 = .ok (.iinc 2 1, 3) by decide +kernel) rfl rfl (Nat.le_of_ble_eq_true rfl) rfl ?_
          refine X_goto (tgt := 2) (show decode cX6_isUnrelated 34 = .ok (.goto (-32), 3) by decide +kernel) (by decide) ?_
          exact ih _ _ _ _ w
        · have w := w.2 c9
          refine X_iconst (v := (nI 0)) (show decode cX6_isUnrelated 29 = .ok (.iconst 0, 1) by decide +kernel) (by decide) ?_
          exact X_iret ⟨(show decode cX6_isUnrelated 30 = .ok (.ireturn, 1) by decide +kernel), .boolean, rfl, (by decide)⟩ ⟨_, rfl, w⟩
set_option maxRecDepth 100000 in
set_option maxHeartbeats 4000000 in
theorem kX6_isUnrelated {a0 : Nat} {a1 : Int32} {h : AH} {K : Int32 → AH → Prop} (w : wX6_isUnrelated a0 a1 h K) : Cn mX6_isUnrelated (cwd mX6_isUnrelated) 2 0 0 [.ref a0, .int a1] h (KI K) T0 := by
  refine Cn_of (by decide +kernel) rfl (Nat.le_of_ble_eq_true rfl) ?_
  show X mX6_isUnrelated 2 (KI K) T0 0 0 0 [(0, .ref a0), (1, .int a1)] [] h
  unfold wX6_isUnrelated at w
  refine X_iconst (v := (nI 0)) (show decode cX6_isUnrelated 0 = .ok (.iconst 0, 1) by decide +kernel) (by decide) ?_
  refine X_istore_n (ls' := [(0, .ref _), (1, .int _), (2, .int _)]) (show decode cX6_isUnrelated 1 = .ok (.istore_n 2, 1) by decide +kernel) rfl (by decide) rfl ?_
  obtain ⟨n10, w⟩ := w
  exact kX6_isUnrelated_L2  n10 _ _ _ _ w
set_option maxRecDepth 100000 in
set_option maxHeartbeats 4000000 in
theorem kX6_mostUnrelatedBySets_L4 {K : Int32 → AH → Prop}    : ∀ (n : Nat) (x0 : Nat) (x1 : Int32) (x2 : Int32) (h : AH), wX6_mostUnrelatedBySets_L4 K   n x0 x1 x2 h → X mX6_mostUnrelatedBySets 3 (KI K) T0 0 0 4 [(0, .ref x0), (1, .int x1), (2, .int x2)] [] h := by
  intro n
  induction n with
  | zero => intro _ _ _ _ w; exact w.elim
  | succ n ih =>
    intro x0 x1 x2 h w
    rw [wX6_mostUnrelatedBySets_L4] at w
    refine X_iload_n (j := 2) (show decode cX6_mostUnrelatedBySets 4 = .ok (.iload_n 2, 1) by decide +kernel) rfl rfl ?_
    refine X_iconst (v := (nI 1)) (show decode cX6_mostUnrelatedBySets 5 = .ok (.iconst 1, 1) by decide +kernel) (by decide) ?_
    refine X_aload_n (j := 0) (show decode cX6_mostUnrelatedBySets 6 = .ok (.aload_n 0, 1) by decide +kernel) rfl rfl ?_
    obtain ⟨s1, w⟩ := w
    refine X_getI fl_X6_9 (show decode cX6_mostUnrelatedBySets 7 = .ok (.getfield 9, 3) by decide +kernel) s1 ?_
    refine X_ishl (show decode cX6_mostUnrelatedBySets 10 = .ok (.ishl, 1) by decide +kernel) ?_
    refine X_icmp_ge (tgt := 37) (show decode cX6_mostUnrelatedBySets 11 = .ok (.if_icmp .ge 26, 3) by decide +kernel) (by decide) ⟨fun c2 => ?_, fun c2 => ?_⟩
    · have w := w.1 c2
      refine X_iload_n (j := 1) (show decode cX6_mostUnrelatedBySets 37 = .ok (.iload_n 1, 1) by decide +kernel) rfl rfl ?_
      exact X_iret ⟨(show decode cX6_mostUnrelatedBySets 38 = .ok (.ireturn, 1) by decide +kernel), .int, rfl, rfl⟩ ⟨_, rfl, w⟩
    · have w := w.2 c2
      refine X_aload_n (j := 0) (show decode cX6_mostUnrelatedBySets 14 = .ok (.aload_n 0, 1) by decide +kernel) rfl rfl ?_
      refine X_iload_n (j := 2) (show decode cX6_mostUnrelatedBySets 15 = .ok (.iload_n 2, 1) by decide +kernel) rfl rfl ?_
      refine X_vI (rc' := 0) (rs' := 0) (as := [.int _]) mv_X6_68 (show decode cX6_mostUnrelatedBySets 16 = .ok (.invokevirtual 68, 3) by decide +kernel) (by decide) (Nat.le_of_ble_eq_true rfl) (Nat.le_of_ble_eq_true rfl) rfl rfl (Nat.le_of_ble_eq_true rfl) (rcvD s1 (by decide) rfl) (kX6_isUnrelated w) (fun E h hk => hk.elim) (fun r4 h3 w => ?_)
      refine X_if_eq (tgt := 31) (show decode cX6_mostUnrelatedBySets 19 = .ok (.ifCond .eq 12, 3) by decide +kernel) (by decide) ⟨fun c5 => ?_, fun c5 => ?_⟩
      · have w := w.1 c5
        refine X_iinc (j := 2) (v := _ + (nI 1)) (ls' := [(0, .ref _), (1, .int _), (2, .int _)]) (show decode cX6_mostUnrelatedBySets 31 = .ok (.iinc 2 1, 3) by decide +kernel) rfl rfl (Nat.le_of_ble_eq_true rfl) rfl ?_
        refine X_goto (tgt := 4) (show decode cX6_mostUnrelatedBySets 34 = .ok (.goto (-30), 3) by decide +kernel) (by decide) ?_
        exact ih _ _ _ _ w
      · have w := w.2 c5
        refine X_iload_n (j := 1) (show decode cX6_mostUnrelatedBySets 22 = .ok (.iload_n 1, 1) by decide +kernel) rfl rfl ?_
        refine X_iload_n (j := 2) (show decode cX6_mostUnrelatedBySets 23 = .ok (.iload_n 2, 1) by decide +kernel) rfl rfl ?_
        refine X_sI (rc' := 0) (rs' := 0) (as := [.int _]) ms_X6_72 (show decode cX6_mostUnrelatedBySets 24 = .ok (.invokestatic 72, 3) by decide +kernel) (by decide) (Nat.le_of_ble_eq_true rfl) (Nat.le_of_ble_eq_true rfl) rfl rfl (Nat.le_of_ble_eq_true rfl) (kJ6_bitCount_0f7a4 w) (fun E h hk => hk.elim) (fun r7 h6 w => ?_)
        refine X_mmax (show decode cX6_mostUnrelatedBySets 27 = .ok (.invokestatic 40, 3) by decide +kernel) gl_X6_40 gst_max gin_Math gco_max (by decide) (Nat.le_of_ble_eq_true rfl) ?_
        refine X_istore_n (ls' := [(0, .ref _), (1, .int _), (2, .int _)]) (show decode cX6_mostUnrelatedBySets 30 = .ok (.istore_n 1, 1) by decide +kernel) rfl (by decide) rfl ?_
        refine X_iinc (j := 2) (v := _ + (nI 1)) (ls' := [(0, .ref _), (1, .int _), (2, .int _)]) (show decode cX6_mostUnrelatedBySets 31 = .ok (.iinc 2 1, 3) by decide +kernel) rfl rfl (Nat.le_of_ble_eq_true rfl) rfl ?_
        refine X_goto (tgt := 4) (show decode cX6_mostUnrelatedBySets 34 = .ok (.goto (-30), 3) by decide +kernel) (by decide) ?_
        exact ih _ _ _ _ w
set_option maxRecDepth 100000 in
set_option maxHeartbeats 4000000 in
theorem kX6_mostUnrelatedBySets {a0 : Nat} {h : AH} {K : Int32 → AH → Prop} (w : wX6_mostUnrelatedBySets a0 h K) : Cn mX6_mostUnrelatedBySets (cwd mX6_mostUnrelatedBySets) 3 0 0 [.ref a0] h (KI K) T0 := by
  refine Cn_of (by decide +kernel) rfl (Nat.le_of_ble_eq_true rfl) ?_
  show X mX6_mostUnrelatedBySets 3 (KI K) T0 0 0 0 [(0, .ref a0)] [] h
  unfold wX6_mostUnrelatedBySets at w
  refine X_iconst (v := (nI 0)) (show decode cX6_mostUnrelatedBySets 0 = .ok (.iconst 0, 1) by decide +kernel) (by decide) ?_
  refine X_istore_n (ls' := [(0, .ref _), (1, .int _)]) (show decode cX6_mostUnrelatedBySets 1 = .ok (.istore_n 1, 1) by decide +kernel) rfl (by decide) rfl ?_
  refine X_iconst (v := (nI 0)) (show decode cX6_mostUnrelatedBySets 2 = .ok (.iconst 0, 1) by decide +kernel) (by decide) ?_
  refine X_istore_n (ls' := [(0, .ref _), (1, .int _), (2, .int _)]) (show decode cX6_mostUnrelatedBySets 3 = .ok (.istore_n 2, 1) by decide +kernel) rfl (by decide) rfl ?_
  obtain ⟨n8, w⟩ := w
  exact kX6_mostUnrelatedBySets_L4  n8 _ _ _ _ w
set_option maxRecDepth 100000 in
set_option maxHeartbeats 4000000 in
theorem kX9_mostWithoutConflictBySets {a0 : Nat} {h : AH} {K : Int32 → AH → Prop} (w : wX9_mostWithoutConflictBySets a0 h K) : Cn mX9_mostWithoutConflictBySets (cwd mX9_mostWithoutConflictBySets) 6 0 0 [.ref a0] h (KI K) T0 := by
  refine Cn_of (by decide +kernel) rfl (Nat.le_of_ble_eq_true rfl) ?_
  show X mX9_mostWithoutConflictBySets 6 (KI K) T0 0 0 0 [(0, .ref a0)] [] h
  unfold wX9_mostWithoutConflictBySets at w
  refine X_aload_n (j := 0) (show decode cX9_mostWithoutConflictBySets 0 = .ok (.aload_n 0, 1) by decide +kernel) rfl rfl ?_
  obtain ⟨s1, w⟩ := w
  refine X_getR fl_X9_12 (show decode cX9_mostWithoutConflictBySets 1 = .ok (.getfield 12, 3) by decide +kernel) s1 ?_
  refine X_aload_n (j := 0) (show decode cX9_mostWithoutConflictBySets 4 = .ok (.aload_n 0, 1) by decide +kernel) rfl rfl ?_
  refine X_getR fl_X9_32 (show decode cX9_mostWithoutConflictBySets 5 = .ok (.getfield 32, 3) by decide +kernel) s1 ?_
  obtain ⟨s8, w⟩ := w
  refine X_vV (rc' := 0) (rs' := 0) (as := [.ref _]) mv_X9_252 (show decode cX9_mostWithoutConflictBySets 8 = .ok (.invokevirtual 252, 3) by decide +kernel) (by decide) (Nat.le_of_ble_eq_true rfl) (Nat.le_of_ble_eq_true rfl) rfl rfl (Nat.le_of_ble_eq_true rfl) (rcvD s8 (by decide) rfl) (kX7_relateConflicts w) (fun E h hk => hk.elim) (fun h2 w => ?_)
  refine X_aload_n (j := 0) (show decode cX9_mostWithoutConflictBySets 11 = .ok (.aload_n 0, 1) by decide +kernel) rfl rfl ?_
  obtain ⟨s4, w⟩ := w
  refine X_getR fl_X9_32 (show decode cX9_mostWithoutConflictBySets 12 = .ok (.getfield 32, 3) by decide +kernel) s4 ?_
  obtain ⟨s7, w⟩ := w
  refine X_vI (rc' := 0) (rs' := 0) (as := []) mv_X9_258 (show decode cX9_mostWithoutConflictBySets 15 = .ok (.invokevirtual 258, 3) by decide +kernel) (by decide) (Nat.le_of_ble_eq_true rfl) (Nat.le_of_ble_eq_true rfl) rfl rfl (Nat.le_of_ble_eq_true rfl) (rcvD s7 (by decide) rfl) (kX6_mostUnrelatedBySets w) (fun E h hk => hk.elim) (fun r6 h5 w => ?_)
  exact X_iret ⟨(show decode cX9_mostWithoutConflictBySets 18 = .ok (.ireturn, 1) by decide +kernel), .int, rfl, rfl⟩ ⟨_, rfl, w⟩
set_option maxRecDepth 100000 in
set_option maxHeartbeats 4000000 in
theorem kX9_refusalReason {a0 : Nat} {h : AH} {K : Int32 → AH → Prop} {T : String → AH → Prop} (w : wX9_refusalReason a0 h K T) : Cn mX9_refusalReason (cwd mX9_refusalReason) 8 1 6 [.ref a0] h (KI K) T := by
  refine Cn_of (by decide +kernel) rfl (Nat.le_of_ble_eq_true rfl) ?_
  show X mX9_refusalReason 8 (KI K) T 1 6 0 [(0, .ref a0)] [] h
  unfold wX9_refusalReason at w
  refine X_aload_n (j := 0) (show decode cX9_refusalReason 0 = .ok (.aload_n 0, 1) by decide +kernel) rfl rfl ?_
  obtain ⟨s1, w⟩ := w
  refine X_getI fl_X9_54 (show decode cX9_refusalReason 1 = .ok (.getfield 54, 3) by decide +kernel) s1 ?_
  refine X_if_ne (tgt := 18) (show decode cX9_refusalReason 4 = .ok (.ifCond .ne 14, 3) by decide +kernel) (by decide) ⟨fun c2 => ?_, fun c2 => ?_⟩
  · have w := w.1 c2
    refine X_aload_n (j := 0) (show decode cX9_refusalReason 18 = .ok (.aload_n 0, 1) by decide +kernel) rfl rfl ?_
    refine X_getI fl_X9_54 (show decode cX9_refusalReason 19 = .ok (.getfield 54, 3) by decide +kernel) s1 ?_
    obtain ⟨s3, w⟩ := w
    exact X_iret ⟨(show decode cX9_refusalReason 22 = .ok (.ireturn, 1) by decide +kernel), .char, rfl, s3⟩ ⟨_, rfl, w⟩
  · have w := w.2 c2
    exact X_throwN (w := 1) tn_X9_131_261 (show decode cX9_refusalReason 7 = .ok (.new 131, 3) by decide +kernel) (show decode cX9_refusalReason 10 = .ok (.dup, 1) by decide +kernel) (Or.inr ⟨rfl, (show decode cX9_refusalReason 11 = .ok (.ldc_w 261, 3) by decide +kernel)⟩) (show decode cX9_refusalReason 14 = .ok (.invokespecial 135, 3) by decide +kernel) (show decode cX9_refusalReason 17 = .ok (.athrow, 1) by decide +kernel) (fun x hx => absurd hx List.not_mem_nil) (by decide) (Nat.le_of_ble_eq_true rfl) (Nat.le_of_ble_eq_true rfl) (Nat.le_of_ble_eq_true rfl) w
set_option maxRecDepth 100000 in
set_option maxHeartbeats 4000000 in
theorem kX9_refusalBlock {a0 : Nat} {h : AH} {K : Int32 → AH → Prop} {T : String → AH → Prop} (w : wX9_refusalBlock a0 h K T) : Cn mX9_refusalBlock (cwd mX9_refusalBlock) 8 1 6 [.ref a0] h (KI K) T := by
  refine Cn_of (by decide +kernel) rfl (Nat.le_of_ble_eq_true rfl) ?_
  show X mX9_refusalBlock 8 (KI K) T 1 6 0 [(0, .ref a0)] [] h
  unfold wX9_refusalBlock at w
  refine X_aload_n (j := 0) (show decode cX9_refusalBlock 0 = .ok (.aload_n 0, 1) by decide +kernel) rfl rfl ?_
  obtain ⟨s1, w⟩ := w
  refine X_getI fl_X9_58 (show decode cX9_refusalBlock 1 = .ok (.getfield 58, 3) by decide +kernel) s1 ?_
  refine X_iconst (v := (-1)) (show decode cX9_refusalBlock 4 = .ok (.iconst (-1), 1) by decide +kernel) (by decide) ?_
  refine X_icmp_ne (tgt := 19) (show decode cX9_refusalBlock 5 = .ok (.if_icmp .ne 14, 3) by decide +kernel) (by decide) ⟨fun c2 => ?_, fun c2 => ?_⟩
  · have w := w.1 c2
    refine X_aload_n (j := 0) (show decode cX9_refusalBlock 19 = .ok (.aload_n 0, 1) by decide +kernel) rfl rfl ?_
    refine X_getI fl_X9_58 (show decode cX9_refusalBlock 20 = .ok (.getfield 58, 3) by decide +kernel) s1 ?_
    exact X_iret ⟨(show decode cX9_refusalBlock 23 = .ok (.ireturn, 1) by decide +kernel), .int, rfl, rfl⟩ ⟨_, rfl, w⟩
  · have w := w.2 c2
    exact X_throwN (w := 1) tn_X9_131_263 (show decode cX9_refusalBlock 8 = .ok (.new 131, 3) by decide +kernel) (show decode cX9_refusalBlock 11 = .ok (.dup, 1) by decide +kernel) (Or.inr ⟨rfl, (show decode cX9_refusalBlock 12 = .ok (.ldc_w 263, 3) by decide +kernel)⟩) (show decode cX9_refusalBlock 15 = .ok (.invokespecial 135, 3) by decide +kernel) (show decode cX9_refusalBlock 18 = .ok (.athrow, 1) by decide +kernel) (fun x hx => absurd hx List.not_mem_nil) (by decide) (Nat.le_of_ble_eq_true rfl) (Nat.le_of_ble_eq_true rfl) (Nat.le_of_ble_eq_true rfl) w
set_option maxRecDepth 100000 in
set_option maxHeartbeats 4000000 in
theorem kX9_time {a0 : Nat} {h : AH} {K : Int32 → AH → Prop} (w : wX9_time a0 h K) : Cn mX9_time (cwd mX9_time) 1 0 0 [.ref a0] h (KI K) T0 := by
  refine Cn_of (by decide +kernel) rfl (Nat.le_of_ble_eq_true rfl) ?_
  show X mX9_time 1 (KI K) T0 0 0 0 [(0, .ref a0)] [] h
  unfold wX9_time at w
  refine X_aload_n (j := 0) (show decode cX9_time 0 = .ok (.aload_n 0, 1) by decide +kernel) rfl rfl ?_
  obtain ⟨s1, w⟩ := w
  refine X_getR fl_X9_12 (show decode cX9_time 1 = .ok (.getfield 12, 3) by decide +kernel) s1 ?_
  obtain ⟨s2, w⟩ := w
  refine X_getI fl_X9_205 (show decode cX9_time 4 = .ok (.getfield 205, 3) by decide +kernel) s2 ?_
  exact X_iret ⟨(show decode cX9_time 7 = .ok (.ireturn, 1) by decide +kernel), .int, rfl, rfl⟩ ⟨_, rfl, w⟩
set_option maxRecDepth 100000 in
set_option maxHeartbeats 4000000 in
theorem kX9_arrived {a0 : Nat} {h : AH} {K : Int32 → AH → Prop} (w : wX9_arrived a0 h K) : Cn mX9_arrived (cwd mX9_arrived) 1 0 0 [.ref a0] h (KI K) T0 := by
  refine Cn_of (by decide +kernel) rfl (Nat.le_of_ble_eq_true rfl) ?_
  show X mX9_arrived 1 (KI K) T0 0 0 0 [(0, .ref a0)] [] h
  unfold wX9_arrived at w
  refine X_aload_n (j := 0) (show decode cX9_arrived 0 = .ok (.aload_n 0, 1) by decide +kernel) rfl rfl ?_
  obtain ⟨s1, w⟩ := w
  refine X_getR fl_X9_12 (show decode cX9_arrived 1 = .ok (.getfield 12, 3) by decide +kernel) s1 ?_
  obtain ⟨s2, w⟩ := w
  refine X_getI fl_X9_265 (show decode cX9_arrived 4 = .ok (.getfield 265, 3) by decide +kernel) s2 ?_
  exact X_iret ⟨(show decode cX9_arrived 7 = .ok (.ireturn, 1) by decide +kernel), .int, rfl, rfl⟩ ⟨_, rfl, w⟩
set_option maxRecDepth 100000 in
set_option maxHeartbeats 4000000 in
theorem kX9_totalDelay {a0 : Nat} {h : AH} {K : Int64 → AH → Prop} (w : wX9_totalDelay a0 h K) : Cn mX9_totalDelay (cwd mX9_totalDelay) 1 0 0 [.ref a0] h (KL K) T0 := by
  refine Cn_of (by decide +kernel) rfl (Nat.le_of_ble_eq_true rfl) ?_
  show X mX9_totalDelay 1 (KL K) T0 0 0 0 [(0, .ref a0)] [] h
  unfold wX9_totalDelay at w
  refine X_aload_n (j := 0) (show decode cX9_totalDelay 0 = .ok (.aload_n 0, 1) by decide +kernel) rfl rfl ?_
  obtain ⟨s1, w⟩ := w
  refine X_getR fl_X9_12 (show decode cX9_totalDelay 1 = .ok (.getfield 12, 3) by decide +kernel) s1 ?_
  obtain ⟨s2, w⟩ := w
  refine X_getL fl_X9_268 (show decode cX9_totalDelay 4 = .ok (.getfield 268, 3) by decide +kernel) s2 ?_
  exact X_lret ⟨(show decode cX9_totalDelay 7 = .ok (.lreturn, 1) by decide +kernel), rfl⟩ ⟨_, rfl, w⟩
set_option maxRecDepth 100000 in
set_option maxHeartbeats 4000000 in
theorem kX9_meanDelay {a0 : Nat} {h : AH} {K : UInt64 → AH → Prop} {T : String → AH → Prop} (w : wX9_meanDelay a0 h K T) : Cn mX9_meanDelay (cwd mX9_meanDelay) 8 1 6 [.ref a0] h (KD K) T := by
  refine Cn_of (by decide +kernel) rfl (Nat.le_of_ble_eq_true rfl) ?_
  show X mX9_meanDelay 8 (KD K) T 1 6 0 [(0, .ref a0)] [] h
  unfold wX9_meanDelay at w
  refine X_aload_n (j := 0) (show decode cX9_meanDelay 0 = .ok (.aload_n 0, 1) by decide +kernel) rfl rfl ?_
  obtain ⟨s1, w⟩ := w
  refine X_getR fl_X9_12 (show decode cX9_meanDelay 1 = .ok (.getfield 12, 3) by decide +kernel) s1 ?_
  obtain ⟨s2, w⟩ := w
  refine X_getI fl_X9_272 (show decode cX9_meanDelay 4 = .ok (.getfield 272, 3) by decide +kernel) s2 ?_
  refine X_if_ne (tgt := 21) (show decode cX9_meanDelay 7 = .ok (.ifCond .ne 14, 3) by decide +kernel) (by decide) ⟨fun c3 => ?_, fun c3 => ?_⟩
  · have w := w.1 c3
    refine X_aload_n (j := 0) (show decode cX9_meanDelay 21 = .ok (.aload_n 0, 1) by decide +kernel) rfl rfl ?_
    refine X_getR fl_X9_12 (show decode cX9_meanDelay 22 = .ok (.getfield 12, 3) by decide +kernel) s1 ?_
    refine X_getL fl_X9_268 (show decode cX9_meanDelay 25 = .ok (.getfield 268, 3) by decide +kernel) s2 ?_
    refine X_l2d (show decode cX9_meanDelay 28 = .ok (.l2d, 1) by decide +kernel) ?_
    refine X_aload_n (j := 0) (show decode cX9_meanDelay 29 = .ok (.aload_n 0, 1) by decide +kernel) rfl rfl ?_
    refine X_getR fl_X9_12 (show decode cX9_meanDelay 30 = .ok (.getfield 12, 3) by decide +kernel) s1 ?_
    refine X_getI fl_X9_272 (show decode cX9_meanDelay 33 = .ok (.getfield 272, 3) by decide +kernel) s2 ?_
    refine X_i2d (show decode cX9_meanDelay 36 = .ok (.i2d, 1) by decide +kernel) ?_
    obtain ⟨s4, w⟩ := w
    refine X_ddiv (show decode cX9_meanDelay 37 = .ok (.ddiv, 1) by decide +kernel) s4 ?_
    exact X_dret ⟨(show decode cX9_meanDelay 38 = .ok (.dreturn, 1) by decide +kernel), rfl⟩ ⟨_, rfl, w⟩
  · have w := w.2 c3
    exact X_throwSW tw_X9_275_277 (show decode cX9_meanDelay 10 = .ok (.new 275, 3) by decide +kernel) (show decode cX9_meanDelay 13 = .ok (.dup, 1) by decide +kernel) (show decode cX9_meanDelay 14 = .ok (.ldc_w 277, 3) by decide +kernel) (show decode cX9_meanDelay 17 = .ok (.invokespecial 279, 3) by decide +kernel) (show decode cX9_meanDelay 20 = .ok (.athrow, 1) by decide +kernel) (fun x hx => absurd hx List.not_mem_nil) (by decide) (Nat.le_of_ble_eq_true rfl) (Nat.le_of_ble_eq_true rfl) (Nat.le_of_ble_eq_true rfl) w
set_option maxRecDepth 100000 in
set_option maxHeartbeats 4000000 in
theorem kX9_usedShare {a0 : Nat} {h : AH} {K : UInt32 → AH → Prop} {T : String → AH → Prop} (w : wX9_usedShare a0 h K T) : Cn mX9_usedShare (cwd mX9_usedShare) 8 1 6 [.ref a0] h (KF K) T := by
  refine Cn_of (by decide +kernel) rfl (Nat.le_of_ble_eq_true rfl) ?_
  show X mX9_usedShare 8 (KF K) T 1 6 0 [(0, .ref a0)] [] h
  unfold wX9_usedShare at w
  refine X_aload_n (j := 0) (show decode cX9_usedShare 0 = .ok (.aload_n 0, 1) by decide +kernel) rfl rfl ?_
  obtain ⟨s1, w⟩ := w
  refine X_getR fl_X9_12 (show decode cX9_usedShare 1 = .ok (.getfield 12, 3) by decide +kernel) s1 ?_
  obtain ⟨s2, w⟩ := w
  refine X_getR fl_X9_72 (show decode cX9_usedShare 4 = .ok (.getfield 72, 3) by decide +kernel) s2 ?_
  obtain ⟨s3, w⟩ := w
  refine X_getI fl_X9_114 (show decode cX9_usedShare 7 = .ok (.getfield 114, 3) by decide +kernel) s3 ?_
  refine X_if_ne (tgt := 24) (show decode cX9_usedShare 10 = .ok (.ifCond .ne 14, 3) by decide +kernel) (by decide) ⟨fun c4 => ?_, fun c4 => ?_⟩
  · have w := w.1 c4
    refine X_aload_n (j := 0) (show decode cX9_usedShare 24 = .ok (.aload_n 0, 1) by decide +kernel) rfl rfl ?_
    refine X_getR fl_X9_12 (show decode cX9_usedShare 25 = .ok (.getfield 12, 3) by decide +kernel) s1 ?_
    refine X_vI (rc' := 1) (rs' := 6) (as := []) mv_X9_282 (show decode cX9_usedShare 28 = .ok (.invokevirtual 282, 3) by decide +kernel) (by decide) (Nat.le_of_ble_eq_true rfl) (Nat.le_of_ble_eq_true rfl) rfl rfl (Nat.le_of_ble_eq_true rfl) (rcvD s2 (by decide) rfl) (kX7_held w) (fun E h hk => hk.elim) (fun r6 h5 w => ?_)
    refine X_sI (rc' := 1) (rs' := 6) (as := [.int _]) ms_X9_285 (show decode cX9_usedShare 31 = .ok (.invokestatic 285, 3) by decide +kernel) (by decide) (Nat.le_of_ble_eq_true rfl) (Nat.le_of_ble_eq_true rfl) rfl rfl (Nat.le_of_ble_eq_true rfl) (kJ6_bitCount_0f7a4 w) (fun E h hk => hk.elim) (fun r8 h7 w => ?_)
    refine X_i2f (show decode cX9_usedShare 34 = .ok (.i2f, 1) by decide +kernel) ?_
    refine X_aload_n (j := 0) (show decode cX9_usedShare 35 = .ok (.aload_n 0, 1) by decide +kernel) rfl rfl ?_
    obtain ⟨s9, w⟩ := w
    refine X_getR fl_X9_12 (show decode cX9_usedShare 36 = .ok (.getfield 12, 3) by decide +kernel) s9 ?_
    obtain ⟨s10, w⟩ := w
    refine X_getR fl_X9_72 (show decode cX9_usedShare 39 = .ok (.getfield 72, 3) by decide +kernel) s10 ?_
    obtain ⟨s11, w⟩ := w
    refine X_getI fl_X9_114 (show decode cX9_usedShare 42 = .ok (.getfield 114, 3) by decide +kernel) s11 ?_
    refine X_i2f (show decode cX9_usedShare 45 = .ok (.i2f, 1) by decide +kernel) ?_
    obtain ⟨s12, w⟩ := w
    refine X_fdiv (show decode cX9_usedShare 46 = .ok (.fdiv, 1) by decide +kernel) s12 ?_
    exact X_fret ⟨(show decode cX9_usedShare 47 = .ok (.freturn, 1) by decide +kernel), rfl⟩ ⟨_, rfl, w⟩
  · have w := w.2 c4
    exact X_throwSW tw_X9_275_280 (show decode cX9_usedShare 13 = .ok (.new 275, 3) by decide +kernel) (show decode cX9_usedShare 16 = .ok (.dup, 1) by decide +kernel) (show decode cX9_usedShare 17 = .ok (.ldc_w 280, 3) by decide +kernel) (show decode cX9_usedShare 20 = .ok (.invokespecial 279, 3) by decide +kernel) (show decode cX9_usedShare 23 = .ok (.athrow, 1) by decide +kernel) (fun x hx => absurd hx List.not_mem_nil) (by decide) (Nat.le_of_ble_eq_true rfl) (Nat.le_of_ble_eq_true rfl) (Nat.le_of_ble_eq_true rfl) w
set_option maxRecDepth 100000 in
set_option maxHeartbeats 4000000 in
theorem kX3_lineIsSound_L4 {K : Int32 → AH → Prop} {c66 : Nat → Int32 → AH → Prop} (hc66 : ∀ x0 x1 h, c66 x0 x1 h → X mX3_lineIsSound 3 (KI K) T0 0 0 66 [(0, .ref x0), (1, .int x1)] [] h)  : ∀ (n : Nat) (x0 : Nat) (x1 : Int32) (x2 : Int32) (h : AH), wX3_lineIsSound_L4 K c66  n x0 x1 x2 h → X mX3_lineIsSound 3 (KI K) T0 0 0 4 [(0, .ref x0), (1, .int x1), (2, .int x2)] [] h := by
  intro n
  induction n with
  | zero => intro _ _ _ _ w; exact w.elim
  | succ n ih =>
    intro x0 x1 x2 h w
    rw [wX3_lineIsSound_L4] at w
    refine X_iload_n (j := 2) (show decode cX3_lineIsSound 4 = .ok (.iload_n 2, 1) by decide +kernel) rfl rfl ?_
    refine X_aload_n (j := 0) (show decode cX3_lineIsSound 5 = .ok (.aload_n 0, 1) by decide +kernel) rfl rfl ?_
    obtain ⟨s1, w⟩ := w
    refine X_getI fl_X3_34 (show decode cX3_lineIsSound 6 = .ok (.getfield 34, 3) by decide +kernel) s1 ?_
    refine X_icmp_ge (tgt := 66) (show decode cX3_lineIsSound 9 = .ok (.if_icmp .ge 57, 3) by decide +kernel) (by decide) ⟨fun c2 => ?_, fun c2 => ?_⟩
    · have w := w.1 c2
      refine X_pick (ls' := [(0, .ref _), (1, .int _)]) [0, 1] rfl ?_
      exact hc66 _ _ _ w
    · have w := w.2 c2
      refine X_aload_n (j := 0) (show decode cX3_lineIsSound 12 = .ok (.aload_n 0, 1) by decide +kernel) rfl rfl ?_
      refine X_iload_n (j := 2) (show decode cX3_lineIsSound 13 = .ok (.iload_n 2, 1) by decide +kernel) rfl rfl ?_
      refine X_iload_n (j := 2) (show decode cX3_lineIsSound 14 = .ok (.iload_n 2, 1) by decide +kernel) rfl rfl ?_
      refine X_vI (rc' := 0) (rs' := 0) (as := [.int _, .int _]) mv_X3_40 (show decode cX3_lineIsSound 15 = .ok (.invokevirtual 40, 3) by decide +kernel) (by decide) (Nat.le_of_ble_eq_true rfl) (Nat.le_of_ble_eq_true rfl) rfl rfl (Nat.le_of_ble_eq_true rfl) (rcvD s1 (by decide) rfl) (kX4_leadsTo w) (fun E h hk => hk.elim) (fun r4 h3 w => ?_)
      refine X_istore_n (ls' := [(0, .ref _), (1, .int _), (2, .int _), (3, .int _)]) (show decode cX3_lineIsSound 18 = .ok (.istore_n 3, 1) by decide +kernel) rfl (by decide) rfl ?_
      refine X_aload_n (j := 0) (show decode cX3_lineIsSound 19 = .ok (.aload_n 0, 1) by decide +kernel) rfl rfl ?_
      refine X_iload_n (j := 2) (show decode cX3_lineIsSound 20 = .ok (.iload_n 2, 1) by decide +kernel) rfl rfl ?_
      obtain ⟨s17, w⟩ := w
      refine X_vI (rc' := 0) (rs' := 0) (as := [.int _]) mv_X3_44 (show decode cX3_lineIsSound 21 = .ok (.invokevirtual 44, 3) by decide +kernel) (by decide) (Nat.le_of_ble_eq_true rfl) (Nat.le_of_ble_eq_true rfl) rfl rfl (Nat.le_of_ble_eq_true rfl) (rcvD s17 (by decide) rfl) (kX4_lengthOf w) (fun E h hk => hk.elim) (fun r6 h5 w => ?_)
      refine X_iconst (v := (nI 1)) (show decode cX3_lineIsSound 24 = .ok (.iconst 1, 1) by decide +kernel) (by decide) ?_
      refine X_icmp_lt (tgt := 42) (show decode cX3_lineIsSound 25 = .ok (.if_icmp .lt 17, 3) by decide +kernel) (by decide) ⟨fun c7 => ?_, fun c7 => ?_⟩
      · have w := w.1 c7
        refine X_iconst (v := (nI 0)) (show decode cX3_lineIsSound 42 = .ok (.iconst 0, 1) by decide +kernel) (by decide) ?_
        exact X_iret ⟨(show decode cX3_lineIsSound 43 = .ok (.ireturn, 1) by decide +kernel), .boolean, rfl, (by decide)⟩ ⟨_, rfl, w⟩
      · have w := w.2 c7
        refine X_aload_n (j := 0) (show decode cX3_lineIsSound 28 = .ok (.aload_n 0, 1) by decide +kernel) rfl rfl ?_
        refine X_iload_n (j := 2) (show decode cX3_lineIsSound 29 = .ok (.iload_n 2, 1) by decide +kernel) rfl rfl ?_
        obtain ⟨s16, w⟩ := w
        refine X_vI (rc' := 0) (rs' := 0) (as := [.int _]) mv_X3_44 (show decode cX3_lineIsSound 30 = .ok (.invokevirtual 44, 3) by decide +kernel) (by decide) (Nat.le_of_ble_eq_true rfl) (Nat.le_of_ble_eq_true rfl) rfl rfl (Nat.le_of_ble_eq_true rfl) (rcvD s16 (by decide) rfl) (kX4_lengthOf w) (fun E h hk => hk.elim) (fun r9 h8 w => ?_)
        refine X_bipush (v := (nI 9)) (show decode cX3_lineIsSound 33 = .ok (.bipush 9, 2) by decide +kernel) (by decide) ?_
        refine X_icmp_gt (tgt := 42) (show decode cX3_lineIsSound 35 = .ok (.if_icmp .gt 7, 3) by decide +kernel) (by decide) ⟨fun c10 => ?_, fun c10 => ?_⟩
        · have w := w.1 c10
          refine X_iconst (v := (nI 0)) (show decode cX3_lineIsSound 42 = .ok (.iconst 0, 1) by decide +kernel) (by decide) ?_
          exact X_iret ⟨(show decode cX3_lineIsSound 43 = .ok (.ireturn, 1) by decide +kernel), .boolean, rfl, (by decide)⟩ ⟨_, rfl, w⟩
        · have w := w.2 c10
          refine X_iload_n (j := 3) (show decode cX3_lineIsSound 38 = .ok (.iload_n 3, 1) by decide +kernel) rfl rfl ?_
          refine X_if_eq (tgt := 44) (show decode cX3_lineIsSound 39 = .ok (.ifCond .eq 5, 3) by decide +kernel) (by decide) ⟨fun c11 => ?_, fun c11 => ?_⟩
          · have w := w.1 c11
            refine X_iload_n (j := 1) (show decode cX3_lineIsSound 44 = .ok (.iload_n 1, 1) by decide +kernel) rfl rfl ?_
            refine X_aload_n (j := 0) (show decode cX3_lineIsSound 45 = .ok (.aload_n 0, 1) by decide +kernel) rfl rfl ?_
            refine X_iload_n (j := 2) (show decode cX3_lineIsSound 46 = .ok (.iload_n 2, 1) by decide +kernel) rfl rfl ?_
            obtain ⟨s15, w⟩ := w
            refine X_vI (rc' := 0) (rs' := 0) (as := [.int _]) mv_X3_48 (show decode cX3_lineIsSound 47 = .ok (.invokevirtual 48, 3) by decide +kernel) (by decide) (Nat.le_of_ble_eq_true rfl) (Nat.le_of_ble_eq_true rfl) rfl rfl (Nat.le_of_ble_eq_true rfl) (rcvD s15 (by decide) rfl) (kX4_hasExit w) (fun E h hk => hk.elim) (fun r13 h12 w => ?_)
            refine X_if_eq (tgt := 57) (show decode cX3_lineIsSound 50 = .ok (.ifCond .eq 7, 3) by decide +kernel) (by decide) ⟨fun c14 => ?_, fun c14 => ?_⟩
            · have w := w.1 c14
              refine X_iconst (v := (nI 0)) (show decode cX3_lineIsSound 57 = .ok (.iconst 0, 1) by decide +kernel) (by decide) ?_
              refine X_iadd (show decode cX3_lineIsSound 58 = .ok (.iadd, 1) by decide +kernel) ?_
              refine X_istore_n (ls' := [(0, .ref _), (1, .int _), (2, .int _), (3, .int _)]) (show decode cX3_lineIsSound 59 = .ok (.istore_n 1, 1) by decide +kernel) rfl (by decide) rfl ?_
              refine X_iinc (j := 2) (v := _ + (nI 1)) (ls' := [(0, .ref _), (1, .int _), (2, .int _), (3, .int _)]) (show decode cX3_lineIsSound 60 = .ok (.iinc 2 1, 3) by decide +kernel) rfl rfl (Nat.le_of_ble_eq_true rfl) rfl ?_
              refine X_goto (tgt := 4) (show decode cX3_lineIsSound 63 = .ok (.goto (-59), 3) by decide +kernel) (by decide) ?_
              refine X_pick (ls' := [(0, .ref _), (1, .int _), (2, .int _)]) [0, 1, 2] rfl ?_
              exact ih _ _ _ _ w
            · have w := w.2 c14
              refine X_iconst (v := (nI 1)) (show decode cX3_lineIsSound 53 = .ok (.iconst 1, 1) by decide +kernel) (by decide) ?_
              refine X_goto (tgt := 58) (show decode cX3_lineIsSound 54 = .ok (.goto 4, 3) by decide +kernel) (by decide) ?_
              refine X_iadd (show decode cX3_lineIsSound 58 = .ok (.iadd, 1) by decide +kernel) ?_
              refine X_istore_n (ls' := [(0, .ref _), (1, .int _), (2, .int _), (3, .int _)]) (show decode cX3_lineIsSound 59 = .ok (.istore_n 1, 1) by decide +kernel) rfl (by decide) rfl ?_
              refine X_iinc (j := 2) (v := _ + (nI 1)) (ls' := [(0, .ref _), (1, .int _), (2, .int _), (3, .int _)]) (show decode cX3_lineIsSound 60 = .ok (.iinc 2 1, 3) by decide +kernel) rfl rfl (Nat.le_of_ble_eq_true rfl) rfl ?_
              refine X_goto (tgt := 4) (show decode cX3_lineIsSound 63 = .ok (.goto (-59), 3) by decide +kernel) (by decide) ?_
              refine X_pick (ls' := [(0, .ref _), (1, .int _), (2, .int _)]) [0, 1, 2] rfl ?_
              exact ih _ _ _ _ w
          · have w := w.2 c11
            refine X_iconst (v := (nI 0)) (show decode cX3_lineIsSound 42 = .ok (.iconst 0, 1) by decide +kernel) (by decide) ?_
            exact X_iret ⟨(show decode cX3_lineIsSound 43 = .ok (.ireturn, 1) by decide +kernel), .boolean, rfl, (by decide)⟩ ⟨_, rfl, w⟩
set_option maxRecDepth 100000 in
set_option maxHeartbeats 4000000 in
theorem kX3_lineIsSound_L70 {K : Int32 → AH → Prop}    : ∀ (n : Nat) (x0 : Nat) (x1 : Int32) (x2 : Int32) (x3 : Int32) (h : AH), wX3_lineIsSound_L70 K   n x0 x1 x2 x3 h → X mX3_lineIsSound 3 (KI K) T0 0 0 70 [(0, .ref x0), (1, .int x1), (2, .int x2), (3, .int x3)] [] h := by
  intro n
  induction n with
  | zero => intro _ _ _ _ _ w; exact w.elim
  | succ n ih =>
    intro x0 x1 x2 x3 h w
    rw [wX3_lineIsSound_L70] at w
    refine X_iload_n (j := 3) (show decode cX3_lineIsSound 70 = .ok (.iload_n 3, 1) by decide +kernel) rfl rfl ?_
    refine X_aload_n (j := 0) (show decode cX3_lineIsSound 71 = .ok (.aload_n 0, 1) by decide +kernel) rfl rfl ?_
    obtain ⟨s21, w⟩ := w
    refine X_getI fl_X3_52 (show decode cX3_lineIsSound 72 = .ok (.getfield 52, 3) by decide +kernel) s21 ?_
    refine X_icmp_ge (tgt := 118) (show decode cX3_lineIsSound 75 = .ok (.if_icmp .ge 43, 3) by decide +kernel) (by decide) ⟨fun c22 => ?_, fun c22 => ?_⟩
    · have w := w.1 c22
      refine X_iconst (v := (nI 1)) (show decode cX3_lineIsSound 118 = .ok (.iconst 1, 1) by decide +kernel) (by decide) ?_
      refine X_aload_n (j := 0) (show decode cX3_lineIsSound 119 = .ok (.aload_n 0, 1) by decide +kernel) rfl rfl ?_
      refine X_getI fl_X3_34 (show decode cX3_lineIsSound 120 = .ok (.getfield 34, 3) by decide +kernel) s21 ?_
      refine X_ishl (show decode cX3_lineIsSound 123 = .ok (.ishl, 1) by decide +kernel) ?_
      refine X_iconst (v := (nI 1)) (show decode cX3_lineIsSound 124 = .ok (.iconst 1, 1) by decide +kernel) (by decide) ?_
      refine X_isub (show decode cX3_lineIsSound 125 = .ok (.isub, 1) by decide +kernel) ?_
      refine X_topi (fun v23 e24 => ?_)
      have w := w v23 e24
      refine X_istore_n (ls' := [(0, .ref _), (1, .int _), (2, .int _), (3, .int _)]) (show decode cX3_lineIsSound 126 = .ok (.istore_n 3, 1) by decide +kernel) rfl (by decide) rfl ?_
      refine X_iload_n (j := 1) (show decode cX3_lineIsSound 127 = .ok (.iload_n 1, 1) by decide +kernel) rfl rfl ?_
      refine X_aload_n (j := 0) (show decode cX3_lineIsSound 128 = .ok (.aload_n 0, 1) by decide +kernel) rfl rfl ?_
      refine X_getI fl_X3_52 (show decode cX3_lineIsSound 129 = .ok (.getfield 52, 3) by decide +kernel) s21 ?_
      refine X_aload_n (j := 0) (show decode cX3_lineIsSound 132 = .ok (.aload_n 0, 1) by decide +kernel) rfl rfl ?_
      refine X_getI fl_X3_64 (show decode cX3_lineIsSound 133 = .ok (.getfield 64, 3) by decide +kernel) s21 ?_
      refine X_iadd (show decode cX3_lineIsSound 136 = .ok (.iadd, 1) by decide +kernel) ?_
      refine X_icmp_ne (tgt := 166) (show decode cX3_lineIsSound 137 = .ok (.if_icmp .ne 29, 3) by decide +kernel) (by decide) ⟨fun c25 => ?_, fun c25 => ?_⟩
      · have w := w.1 c25
        refine X_iconst (v := (nI 0)) (show decode cX3_lineIsSound 166 = .ok (.iconst 0, 1) by decide +kernel) (by decide) ?_
        exact X_iret ⟨(show decode cX3_lineIsSound 167 = .ok (.ireturn, 1) by decide +kernel), .boolean, rfl, (by decide)⟩ ⟨_, rfl, w⟩
      · have w := w.2 c25
        refine X_aload_n (j := 0) (show decode cX3_lineIsSound 140 = .ok (.aload_n 0, 1) by decide +kernel) rfl rfl ?_
        refine X_getI fl_X3_67 (show decode cX3_lineIsSound 141 = .ok (.getfield 67, 3) by decide +kernel) s21 ?_
        refine X_iload_n (j := 2) (show decode cX3_lineIsSound 144 = .ok (.iload_n 2, 1) by decide +kernel) rfl rfl ?_
        refine X_iconst (v := (-1)) (show decode cX3_lineIsSound 145 = .ok (.iconst (-1), 1) by decide +kernel) (by decide) ?_
        refine X_ixor (show decode cX3_lineIsSound 146 = .ok (.ixor, 1) by decide +kernel) ?_
        refine X_iand (show decode cX3_lineIsSound 147 = .ok (.iand, 1) by decide +kernel) ?_
        refine X_if_ne (tgt := 166) (show decode cX3_lineIsSound 148 = .ok (.ifCond .ne 18, 3) by decide +kernel) (by decide) ⟨fun c26 => ?_, fun c26 => ?_⟩
        · have w := w.1 c26
          refine X_iconst (v := (nI 0)) (show decode cX3_lineIsSound 166 = .ok (.iconst 0, 1) by decide +kernel) (by decide) ?_
          exact X_iret ⟨(show decode cX3_lineIsSound 167 = .ok (.ireturn, 1) by decide +kernel), .boolean, rfl, (by decide)⟩ ⟨_, rfl, w⟩
        · have w := w.2 c26
          refine X_aload_n (j := 0) (show decode cX3_lineIsSound 151 = .ok (.aload_n 0, 1) by decide +kernel) rfl rfl ?_
          refine X_getI fl_X3_70 (show decode cX3_lineIsSound 152 = .ok (.getfield 70, 3) by decide +kernel) s21 ?_
          refine X_iload_n (j := 3) (show decode cX3_lineIsSound 155 = .ok (.iload_n 3, 1) by decide +kernel) rfl rfl ?_
          refine X_iconst (v := (-1)) (show decode cX3_lineIsSound 156 = .ok (.iconst (-1), 1) by decide +kernel) (by decide) ?_
          refine X_ixor (show decode cX3_lineIsSound 157 = .ok (.ixor, 1) by decide +kernel) ?_
          refine X_iand (show decode cX3_lineIsSound 158 = .ok (.iand, 1) by decide +kernel) ?_
          refine X_if_ne (tgt := 166) (show decode cX3_lineIsSound 159 = .ok (.ifCond .ne 7, 3) by decide +kernel) (by decide) ⟨fun c27 => ?_, fun c27 => ?_⟩
          · have w := w.1 c27
            refine X_iconst (v := (nI 0)) (show decode cX3_lineIsSound 166 = .ok (.iconst 0, 1) by decide +kernel) (by decide) ?_
            exact X_iret ⟨(show decode cX3_lineIsSound 167 = .ok (.ireturn, 1) by decide +kernel), .boolean, rfl, (by decide)⟩ ⟨_, rfl, w⟩
          · have w := w.2 c27
            refine X_iconst (v := (nI 1)) (show decode cX3_lineIsSound 162 = .ok (.iconst 1, 1) by decide +kernel) (by decide) ?_
            refine X_goto (tgt := 167) (show decode cX3_lineIsSound 163 = .ok (.goto 4, 3) by decide +kernel) (by decide) ?_
            exact X_iret ⟨(show decode cX3_lineIsSound 167 = .ok (.ireturn, 1) by decide +kernel), .boolean, rfl, (by decide)⟩ ⟨_, rfl, w⟩
    · have w := w.2 c22
      refine X_aload_n (j := 0) (show decode cX3_lineIsSound 78 = .ok (.aload_n 0, 1) by decide +kernel) rfl rfl ?_
      refine X_iload_n (j := 3) (show decode cX3_lineIsSound 79 = .ok (.iload_n 3, 1) by decide +kernel) rfl rfl ?_
      refine X_vI (rc' := 0) (rs' := 0) (as := [.int _]) mv_X3_55 (show decode cX3_lineIsSound 80 = .ok (.invokevirtual 55, 3) by decide +kernel) (by decide) (Nat.le_of_ble_eq_true rfl) (Nat.le_of_ble_eq_true rfl) rfl rfl (Nat.le_of_ble_eq_true rfl) (rcvD s21 (by decide) rfl) (kX4_stemOf w) (fun E h hk => hk.elim) (fun r29 h28 w => ?_)
      refine X_istore (ls' := [(0, .ref _), (1, .int _), (2, .int _), (3, .int _), (4, .int _)]) (show decode cX3_lineIsSound 83 = .ok (.istore 4, 2) by decide +kernel) (by decide) rfl ?_
      refine X_aload_n (j := 0) (show decode cX3_lineIsSound 85 = .ok (.aload_n 0, 1) by decide +kernel) rfl rfl ?_
      refine X_iload (j := 4) (show decode cX3_lineIsSound 86 = .ok (.iload 4, 2) by decide +kernel) rfl ?_
      obtain ⟨s38, w⟩ := w
      refine X_vI (rc' := 0) (rs' := 0) (as := [.int _]) mv_X3_58 (show decode cX3_lineIsSound 88 = .ok (.invokevirtual 58, 3) by decide +kernel) (by decide) (Nat.le_of_ble_eq_true rfl) (Nat.le_of_ble_eq_true rfl) rfl rfl (Nat.le_of_ble_eq_true rfl) (rcvD s38 (by decide) rfl) (kX4_isStem w) (fun E h hk => hk.elim) (fun r31 h30 w => ?_)
      refine X_if_eq (tgt := 103) (show decode cX3_lineIsSound 91 = .ok (.ifCond .eq 12, 3) by decide +kernel) (by decide) ⟨fun c32 => ?_, fun c32 => ?_⟩
      · have w := w.1 c32
        refine X_iconst (v := (nI 0)) (show decode cX3_lineIsSound 103 = .ok (.iconst 0, 1) by decide +kernel) (by decide) ?_
        exact X_iret ⟨(show decode cX3_lineIsSound 104 = .ok (.ireturn, 1) by decide +kernel), .boolean, rfl, (by decide)⟩ ⟨_, rfl, w⟩
      · have w := w.2 c32
        refine X_iload_n (j := 2) (show decode cX3_lineIsSound 94 = .ok (.iload_n 2, 1) by decide +kernel) rfl rfl ?_
        refine X_iload (j := 4) (show decode cX3_lineIsSound 95 = .ok (.iload 4, 2) by decide +kernel) rfl ?_
        refine X_nI (rc' := 0) (rs' := 0) (as := [.int _, .int _]) msn_X3_61 (show decode cX3_lineIsSound 97 = .ok (.invokestatic 61, 3) by decide +kernel) (by decide) (Nat.le_of_ble_eq_true rfl) (Nat.le_of_ble_eq_true rfl) rfl rfl (Nat.le_of_ble_eq_true rfl) (kX9_contains w) (fun r34 h33 w => ?_)
        refine X_if_eq (tgt := 105) (show decode cX3_lineIsSound 100 = .ok (.ifCond .eq 5, 3) by decide +kernel) (by decide) ⟨fun c35 => ?_, fun c35 => ?_⟩
        · have w := w.1 c35
          refine X_iload_n (j := 2) (show decode cX3_lineIsSound 105 = .ok (.iload_n 2, 1) by decide +kernel) rfl rfl ?_
          refine X_iconst (v := (nI 1)) (show decode cX3_lineIsSound 106 = .ok (.iconst 1, 1) by decide +kernel) (by decide) ?_
          refine X_iload (j := 4) (show decode cX3_lineIsSound 107 = .ok (.iload 4, 2) by decide +kernel) rfl ?_
          refine X_ishl (show decode cX3_lineIsSound 109 = .ok (.ishl, 1) by decide +kernel) ?_
          refine X_ior (show decode cX3_lineIsSound 110 = .ok (.ior, 1) by decide +kernel) ?_
          refine X_topi (fun v36 e37 => ?_)
          have w := w v36 e37
          refine X_istore_n (ls' := [(0, .ref _), (1, .int _), (2, .int _), (3, .int _), (4, .int _)]) (show decode cX3_lineIsSound 111 = .ok (.istore_n 2, 1) by decide +kernel) rfl (by decide) rfl ?_
          refine X_iinc (j := 3) (v := _ + (nI 1)) (ls' := [(0, .ref _), (1, .int _), (2, .int _), (3, .int _), (4, .int _)]) (show decode cX3_lineIsSound 112 = .ok (.iinc 3 1, 3) by decide +kernel) rfl rfl (Nat.le_of_ble_eq_true rfl) rfl ?_
          refine X_goto (tgt := 70) (show decode cX3_lineIsSound 115 = .ok (.goto (-45), 3) by decide +kernel) (by decide) ?_
          refine X_pick (ls' := [(0, .ref _), (1, .int _), (2, .int _), (3, .int _)]) [0, 1, 2, 3] rfl ?_
          exact ih _ _ _ _ _ w
        · have w := w.2 c35
          refine X_iconst (v := (nI 0)) (show decode cX3_lineIsSound 103 = .ok (.iconst 0, 1) by decide +kernel) (by decide) ?_
          exact X_iret ⟨(show decode cX3_lineIsSound 104 = .ok (.ireturn, 1) by decide +kernel), .boolean, rfl, (by decide)⟩ ⟨_, rfl, w⟩
set_option maxRecDepth 100000 in
set_option maxHeartbeats 4000000 in
theorem kX3_lineIsSound {a0 : Nat} {h : AH} {K : Int32 → AH → Prop} (w : wX3_lineIsSound a0 h K) : Cn mX3_lineIsSound (cwd mX3_lineIsSound) 3 0 0 [.ref a0] h (KI K) T0 := by
  refine Cn_of (by decide +kernel) rfl (Nat.le_of_ble_eq_true rfl) ?_
  show X mX3_lineIsSound 3 (KI K) T0 0 0 0 [(0, .ref a0)] [] h
  unfold wX3_lineIsSound at w
  refine X_iconst (v := (nI 0)) (show decode cX3_lineIsSound 0 = .ok (.iconst 0, 1) by decide +kernel) (by decide) ?_
  refine X_istore_n (ls' := [(0, .ref _), (1, .int _)]) (show decode cX3_lineIsSound 1 = .ok (.istore_n 1, 1) by decide +kernel) rfl (by decide) rfl ?_
  refine X_iconst (v := (nI 0)) (show decode cX3_lineIsSound 2 = .ok (.iconst 0, 1) by decide +kernel) (by decide) ?_
  refine X_istore_n (ls' := [(0, .ref _), (1, .int _), (2, .int _)]) (show decode cX3_lineIsSound 3 = .ok (.istore_n 2, 1) by decide +kernel) rfl (by decide) rfl ?_
  obtain ⟨n40, w⟩ := w
  refine kX3_lineIsSound_L4 ?_ n40 _ _ _ _ w
  · intro x0_18 x1_19 h20 w
    refine X_iconst (v := (nI 0)) (show decode cX3_lineIsSound 66 = .ok (.iconst 0, 1) by decide +kernel) (by decide) ?_
    refine X_istore_n (ls' := [(0, .ref _), (1, .int _), (2, .int _)]) (show decode cX3_lineIsSound 67 = .ok (.istore_n 2, 1) by decide +kernel) rfl (by decide) rfl ?_
    refine X_iconst (v := (nI 0)) (show decode cX3_lineIsSound 68 = .ok (.iconst 0, 1) by decide +kernel) (by decide) ?_
    refine X_istore_n (ls' := [(0, .ref _), (1, .int _), (2, .int _), (3, .int _)]) (show decode cX3_lineIsSound 69 = .ok (.istore_n 3, 1) by decide +kernel) rfl (by decide) rfl ?_
    obtain ⟨n39, w⟩ := w
    exact kX3_lineIsSound_L70  n39 _ _ _ _ _ w
