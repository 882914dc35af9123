set_option maxRecDepth 100000 in
set_option maxHeartbeats 4000000 in
theorem kX8_init {a0 : Nat} {h : AH} {K : AH → Prop} (w : wX8_init a0 h K) : Cn mX8_init (cwd mX8_init) 2 0 0 [.ref a0] h (KV K) T0 := by
  refine Cn_of (by decide +kernel) rfl (Nat.le_of_ble_eq_true rfl) ?_
  show X mX8_init 2 (KV K) T0 0 0 0 [(0, .ref a0)] [] h
  unfold wX8_init at w
  refine X_aload_n (j := 0) (show decode cX8_init 0 = .ok (.aload_n 0, 1) by decide +kernel) rfl rfl ?_
  obtain ⟨s1, w⟩ := w
  refine X_objInit (show decode cX8_init 1 = .ok (.invokespecial 1, 3) by decide +kernel) gl_X8_1 gi_obj gco_obj s1 (by decide) (by decide) ?_
  refine X_aload_n (j := 0) (show decode cX8_init 4 = .ok (.aload_n 0, 1) by decide +kernel) rfl rfl ?_
  refine X_iconst (v := 0) (show decode cX8_init 5 = .ok (.iconst 0, 1) by decide +kernel) (by decide) ?_
  obtain ⟨s2, w⟩ := w
  refine X_putI fp_X8_7 (show decode cX8_init 6 = .ok (.putfield 7, 3) by decide +kernel) (fun z => nomatch z) s2 rfl rfl ?_
  have w := w _ rfl
  refine X_aload_n (j := 0) (show decode cX8_init 9 = .ok (.aload_n 0, 1) by decide +kernel) rfl rfl ?_
  refine X_iconst (v := 0) (show decode cX8_init 10 = .ok (.iconst 0, 1) by decide +kernel) (by decide) ?_
  refine X_putI fp_X8_13 (show decode cX8_init 11 = .ok (.putfield 13, 3) by decide +kernel) (fun z => nomatch z) s2 rfl rfl ?_
  have w := w _ rfl
  refine X_aload_n (j := 0) (show decode cX8_init 14 = .ok (.aload_n 0, 1) by decide +kernel) rfl rfl ?_
  refine X_iconst (v := 0) (show decode cX8_init 15 = .ok (.iconst 0, 1) by decide +kernel) (by decide) ?_
  refine X_putI fp_X8_16 (show decode cX8_init 16 = .ok (.putfield 16, 3) by decide +kernel) (fun z => nomatch z) s2 rfl rfl ?_
  have w := w _ rfl
  refine X_aload_n (j := 0) (show decode cX8_init 19 = .ok (.aload_n 0, 1) by decide +kernel) rfl rfl ?_
  refine X_iconst (v := 0) (show decode cX8_init 20 = .ok (.iconst 0, 1) by decide +kernel) (by decide) ?_
  refine X_putI fp_X8_19 (show decode cX8_init 21 = .ok (.putfield 19, 3) by decide +kernel) (fun z => nomatch z) s2 rfl rfl ?_
  have w := w _ rfl
  refine X_aload_n (j := 0) (show decode cX8_init 24 = .ok (.aload_n 0, 1) by decide +kernel) rfl rfl ?_
  refine X_iconst (v := 0) (show decode cX8_init 25 = .ok (.iconst 0, 1) by decide +kernel) (by decide) ?_
  refine X_putI fp_X8_22 (show decode cX8_init 26 = .ok (.putfield 22, 3) by decide +kernel) (fun z => nomatch z) s2 rfl rfl ?_
  have w := w _ rfl
  refine X_aload_n (j := 0) (show decode cX8_init 29 = .ok (.aload_n 0, 1) by decide +kernel) rfl rfl ?_
  refine X_iconst (v := 0) (show decode cX8_init 30 = .ok (.iconst 0, 1) by decide +kernel) (by decide) ?_
  refine X_putI fp_X8_25 (show decode cX8_init 31 = .ok (.putfield 25, 3) by decide +kernel) (fun z => nomatch z) s2 rfl rfl ?_
  have w := w _ rfl
  exact X_vret ⟨(show decode cX8_init 34 = .ok (.return_, 1) by decide +kernel), rfl⟩ ⟨rfl, w⟩
set_option maxRecDepth 100000 in
set_option maxHeartbeats 4000000 in
theorem kX6_init {a0 : Nat} {h : AH} {K : AH → Prop} (w : wX6_init a0 h K) : Cn mX6_init (cwd mX6_init) 2 3 24 [.ref a0] h (KV K) T0 := by
  refine Cn_of (by decide +kernel) rfl (Nat.le_of_ble_eq_true rfl) ?_
  show X mX6_init 2 (KV K) T0 3 24 0 [(0, .ref a0)] [] h
  unfold wX6_init at w
  refine X_aload_n (j := 0) (show decode cX6_init 0 = .ok (.aload_n 0, 1) by decide +kernel) rfl rfl ?_
  obtain ⟨s1, w⟩ := w
  refine X_objInit (show decode cX6_init 1 = .ok (.invokespecial 3, 3) by decide +kernel) gl_X6_3 gi_obj gco_obj s1 (by decide) (by decide) ?_
  refine X_aload_n (j := 0) (show decode cX6_init 4 = .ok (.aload_n 0, 1) by decide +kernel) rfl rfl ?_
  refine X_iconst (v := 0) (show decode cX6_init 5 = .ok (.iconst 0, 1) by decide +kernel) (by decide) ?_
  obtain ⟨s2, w⟩ := w
  refine X_putI fp_X6_9 (show decode cX6_init 6 = .ok (.putfield 9, 3) by decide +kernel) (fun z => nomatch z) s2 rfl rfl ?_
  have w := w _ rfl
  refine X_aload_n (j := 0) (show decode cX6_init 9 = .ok (.aload_n 0, 1) by decide +kernel) rfl rfl ?_
  refine X_bipush (v := 8) (show decode cX6_init 10 = .ok (.bipush 8, 2) by decide +kernel) (by decide) ?_
  refine X_newa (rc' := 2) (rs' := 16) na_0 (by decide) (show decode cX6_init 12 = .ok (.newarray .int, 2) by decide +kernel) (by decide) (by decide) (Nat.le_of_ble_eq_true rfl) (Nat.le_of_ble_eq_true rfl) (Nat.le_of_ble_eq_true rfl) ?_
  have w := w _ rfl
  obtain ⟨s5, w⟩ := w
  refine X_putR fp_X6_15 (show decode cX6_init 14 = .ok (.putfield 15, 3) by decide +kernel) (fun _ => rfl) (by first | exact Or.inl ⟨_, rfl⟩ | exact Or.inr ⟨_, rfl⟩) s5 ?_
  have w := w _ rfl
  refine X_aload_n (j := 0) (show decode cX6_init 17 = .ok (.aload_n 0, 1) by decide +kernel) rfl rfl ?_
  refine X_bipush (v := 8) (show decode cX6_init 18 = .ok (.bipush 8, 2) by decide +kernel) (by decide) ?_
  refine X_newa (rc' := 1) (rs' := 8) na_0 (by decide) (show decode cX6_init 20 = .ok (.newarray .int, 2) by decide +kernel) (by decide) (by decide) (Nat.le_of_ble_eq_true rfl) (Nat.le_of_ble_eq_true rfl) (Nat.le_of_ble_eq_true rfl) ?_
  have w := w _ rfl
  obtain ⟨s8, w⟩ := w
  refine X_putR fp_X6_19 (show decode cX6_init 22 = .ok (.putfield 19, 3) by decide +kernel) (fun _ => rfl) (by first | exact Or.inl ⟨_, rfl⟩ | exact Or.inr ⟨_, rfl⟩) s8 ?_
  have w := w _ rfl
  refine X_aload_n (j := 0) (show decode cX6_init 25 = .ok (.aload_n 0, 1) by decide +kernel) rfl rfl ?_
  refine X_bipush (v := 8) (show decode cX6_init 26 = .ok (.bipush 8, 2) by decide +kernel) (by decide) ?_
  refine X_newa (rc' := 0) (rs' := 0) na_0 (by decide) (show decode cX6_init 28 = .ok (.newarray .int, 2) by decide +kernel) (by decide) (by decide) (Nat.le_of_ble_eq_true rfl) (Nat.le_of_ble_eq_true rfl) (Nat.le_of_ble_eq_true rfl) ?_
  have w := w _ rfl
  obtain ⟨s11, w⟩ := w
  refine X_putR fp_X6_22 (show decode cX6_init 30 = .ok (.putfield 22, 3) by decide +kernel) (fun _ => rfl) (by first | exact Or.inl ⟨_, rfl⟩ | exact Or.inr ⟨_, rfl⟩) s11 ?_
  have w := w _ rfl
  refine X_aload_n (j := 0) (show decode cX6_init 33 = .ok (.aload_n 0, 1) by decide +kernel) rfl rfl ?_
  refine X_iconst (v := 0) (show decode cX6_init 34 = .ok (.iconst 0, 1) by decide +kernel) (by decide) ?_
  refine X_putI fp_X6_25 (show decode cX6_init 35 = .ok (.putfield 25, 3) by decide +kernel) (fun z => nomatch z) s11 rfl rfl ?_
  have w := w _ rfl
  refine X_aload_n (j := 0) (show decode cX6_init 38 = .ok (.aload_n 0, 1) by decide +kernel) rfl rfl ?_
  refine X_iconst (v := 0) (show decode cX6_init 39 = .ok (.iconst 0, 1) by decide +kernel) (by decide) ?_
  refine X_putI fp_X6_28 (show decode cX6_init 40 = .ok (.putfield 28, 3) by decide +kernel) (fun z => nomatch z) s11 rfl rfl ?_
  have w := w _ rfl
  refine X_aload_n (j := 0) (show decode cX6_init 43 = .ok (.aload_n 0, 1) by decide +kernel) rfl rfl ?_
  refine X_iconst (v := 0) (show decode cX6_init 44 = .ok (.iconst 0, 1) by decide +kernel) (by decide) ?_
  refine X_putI fp_X6_31 (show decode cX6_init 45 = .ok (.putfield 31, 3) by decide +kernel) (fun z => nomatch z) s11 rfl rfl ?_
  have w := w _ rfl
  exact X_vret ⟨(show decode cX6_init 48 = .ok (.return_, 1) by decide +kernel), rfl⟩ ⟨rfl, w⟩
set_option maxRecDepth 100000 in
set_option maxHeartbeats 4000000 in
theorem kJ6_stringSize_0f7a4_L16 {K : Int32 → AH → Prop}   {x0 : Int32} {x1 : Int32} : ∀ (n : Nat) (x2 : Int32) (x3 : Int32) (h : AH), wJ6_stringSize_0f7a4_L16 K  x0 x1 n x2 x3 h → X mJ6_stringSize_0f7a4 1 (KI K) T0 0 0 16 [(0, .int x0), (1, .int x1), (2, .int x2), (3, .int x3)] [] h := by
  intro n
  induction n with
  | zero => intro _ _ _ w; exact w.elim
  | succ n ih =>
    intro x2 x3 h w
    rw [wJ6_stringSize_0f7a4_L16] at w
    refine X_iload_n (j := 3) (show decode cJ6_stringSize_0f7a4 16 = .ok (.iload_n 3, 1) by decide +kernel) rfl rfl ?_
    refine X_bipush (v := 10) (show decode cJ6_stringSize_0f7a4 17 = .ok (.bipush 10, 2) by decide +kernel) (by decide) ?_
    refine X_icmp_ge (tgt := 42) (show decode cJ6_stringSize_0f7a4 19 = .ok (.if_icmp .ge 23, 3) by decide +kernel) (by decide) ⟨fun c2 => ?_, fun c2 => ?_⟩
    · have w := w.1 c2
      refine X_bipush (v := 10) (show decode cJ6_stringSize_0f7a4 42 = .ok (.bipush 10, 2) by decide +kernel) (by decide) ?_
      refine X_iload_n (j := 1) (show decode cJ6_stringSize_0f7a4 44 = .ok (.iload_n 1, 1) by decide +kernel) rfl rfl ?_
      refine X_iadd (show decode cJ6_stringSize_0f7a4 45 = .ok (.iadd, 1) by decide +kernel) ?_
      exact X_iret ⟨(show decode cJ6_stringSize_0f7a4 46 = .ok (.ireturn, 1) by decide +kernel), .int, rfl, rfl⟩ ⟨_, rfl, w⟩
    · have w := w.2 c2
      refine X_iload_n (j := 0) (show decode cJ6_stringSize_0f7a4 22 = .ok (.iload_n 0, 1) by decide +kernel) rfl rfl ?_
      refine X_iload_n (j := 2) (show decode cJ6_stringSize_0f7a4 23 = .ok (.iload_n 2, 1) by decide +kernel) rfl rfl ?_
      refine X_icmp_le (tgt := 31) (show decode cJ6_stringSize_0f7a4 24 = .ok (.if_icmp .le 7, 3) by decide +kernel) (by decide) ⟨fun c3 => ?_, fun c3 => ?_⟩
      · have w := w.1 c3
        refine X_bipush (v := 10) (show decode cJ6_stringSize_0f7a4 31 = .ok (.bipush 10, 2) by decide +kernel) (by decide) ?_
        refine X_iload_n (j := 2) (show decode cJ6_stringSize_0f7a4 33 = .ok (.iload_n 2, 1) by decide +kernel) rfl rfl ?_
        refine X_imul (show decode cJ6_stringSize_0f7a4 34 = .ok (.imul, 1) by decide +kernel) ?_
        refine X_istore_n (ls' := [(0, .int _), (1, .int _), (2, .int _), (3, .int _)]) (show decode cJ6_stringSize_0f7a4 35 = .ok (.istore_n 2, 1) by decide +kernel) rfl (by decide) rfl ?_
        refine X_iinc (j := 3) (v := _ + 1) (ls' := [(0, .int _), (1, .int _), (2, .int _), (3, .int _)]) (show decode cJ6_stringSize_0f7a4 36 = .ok (.iinc 3 1, 3) by decide +kernel) rfl rfl (Nat.le_of_ble_eq_true rfl) rfl ?_
        refine X_goto (tgt := 16) (show decode cJ6_stringSize_0f7a4 39 = .ok (.goto (-23), 3) by decide +kernel) (by decide) ?_
        exact ih _ _ _ _ _ w
      · have w := w.2 c3
        refine X_iload_n (j := 3) (show decode cJ6_stringSize_0f7a4 27 = .ok (.iload_n 3, 1) by decide +kernel) rfl rfl ?_
        refine X_iload_n (j := 1) (show decode cJ6_stringSize_0f7a4 28 = .ok (.iload_n 1, 1) by decide +kernel) rfl rfl ?_
        refine X_iadd (show decode cJ6_stringSize_0f7a4 29 = .ok (.iadd, 1) by decide +kernel) ?_
        exact X_iret ⟨(show decode cJ6_stringSize_0f7a4 30 = .ok (.ireturn, 1) by decide +kernel), .int, rfl, rfl⟩ ⟨_, rfl, w⟩
set_option maxRecDepth 100000 in
set_option maxHeartbeats 4000000 in
theorem kJ6_stringSize_0f7a4 {a0 : Int32} {h : AH} {K : Int32 → AH → Prop} (w : wJ6_stringSize_0f7a4 a0 h K) : Cn mJ6_stringSize_0f7a4 (cwd mJ6_stringSize_0f7a4) 1 0 0 [.int a0] h (KI K) T0 := by
  refine Cn_of (by decide +kernel) rfl (Nat.le_of_ble_eq_true rfl) ?_
  show X mJ6_stringSize_0f7a4 1 (KI K) T0 0 0 0 [(0, .int a0), (1, .int 1)] [] h
  unfold wJ6_stringSize_0f7a4 at w
  refine X_iconst (v := 1) (show decode cJ6_stringSize_0f7a4 0 = .ok (.iconst 1, 1) by decide +kernel) (by decide) ?_
  refine X_istore_n (ls' := [(0, .int _), (1, .int _)]) (show decode cJ6_stringSize_0f7a4 1 = .ok (.istore_n 1, 1) by decide +kernel) rfl (by decide) rfl ?_
  refine X_iload_n (j := 0) (show decode cJ6_stringSize_0f7a4 2 = .ok (.iload_n 0, 1) by decide +kernel) rfl rfl ?_
  refine X_if_lt (tgt := 11) (show decode cJ6_stringSize_0f7a4 3 = .ok (.ifCond .lt 8, 3) by decide +kernel) (by decide) ⟨fun c1 => ?_, fun c1 => ?_⟩
  · have w := w.1 c1
    refine X_bipush (v := (-10)) (show decode cJ6_stringSize_0f7a4 11 = .ok (.bipush (-10), 2) by decide +kernel) (by decide) ?_
    refine X_istore_n (ls' := [(0, .int _), (1, .int _), (2, .int _)]) (show decode cJ6_stringSize_0f7a4 13 = .ok (.istore_n 2, 1) by decide +kernel) rfl (by decide) rfl ?_
    refine X_iconst (v := 1) (show decode cJ6_stringSize_0f7a4 14 = .ok (.iconst 1, 1) by decide +kernel) (by decide) ?_
    refine X_istore_n (ls' := [(0, .int _), (1, .int _), (2, .int _), (3, .int _)]) (show decode cJ6_stringSize_0f7a4 15 = .ok (.istore_n 3, 1) by decide +kernel) rfl (by decide) rfl ?_
    obtain ⟨n4, w⟩ := w
    exact kJ6_stringSize_0f7a4_L16  n4 _ _ _ w
  · have w := w.2 c1
    refine X_iconst (v := 0) (show decode cJ6_stringSize_0f7a4 6 = .ok (.iconst 0, 1) by decide +kernel) (by decide) ?_
    refine X_istore_n (ls' := [(0, .int _), (1, .int _)]) (show decode cJ6_stringSize_0f7a4 7 = .ok (.istore_n 1, 1) by decide +kernel) rfl (by decide) rfl ?_
    refine X_iload_n (j := 0) (show decode cJ6_stringSize_0f7a4 8 = .ok (.iload_n 0, 1) by decide +kernel) rfl rfl ?_
    refine X_ineg (show decode cJ6_stringSize_0f7a4 9 = .ok (.ineg, 1) by decide +kernel) ?_
    refine X_istore_n (ls' := [(0, .int _), (1, .int _)]) (show decode cJ6_stringSize_0f7a4 10 = .ok (.istore_n 0, 1) by decide +kernel) rfl (by decide) rfl ?_
    refine X_bipush (v := (-10)) (show decode cJ6_stringSize_0f7a4 11 = .ok (.bipush (-10), 2) by decide +kernel) (by decide) ?_
    refine X_istore_n (ls' := [(0, .int _), (1, .int _), (2, .int _)]) (show decode cJ6_stringSize_0f7a4 13 = .ok (.istore_n 2, 1) by decide +kernel) rfl (by decide) rfl ?_
    refine X_iconst (v := 1) (show decode cJ6_stringSize_0f7a4 14 = .ok (.iconst 1, 1) by decide +kernel) (by decide) ?_
    refine X_istore_n (ls' := [(0, .int _), (1, .int _), (2, .int _), (3, .int _)]) (show decode cJ6_stringSize_0f7a4 15 = .ok (.istore_n 3, 1) by decide +kernel) rfl (by decide) rfl ?_
    obtain ⟨n5, w⟩ := w
    exact kJ6_stringSize_0f7a4_L16  n5 _ _ _ w
set_option maxRecDepth 100000 in
set_option maxHeartbeats 4000000 in
theorem kJ5_isLatin1_aae02 {a0 : Nat} {h : AH} {K : Int32 → AH → Prop} (w : wJ5_isLatin1_aae02 a0 h K) : Cn mJ5_isLatin1_aae02 (cwd mJ5_isLatin1_aae02) 1 0 0 [.ref a0] h (KI K) T0 := by
  refine Cn_of (by decide +kernel) rfl (Nat.le_of_ble_eq_true rfl) ?_
  show X mJ5_isLatin1_aae02 1 (KI K) T0 0 0 0 [(0, .ref a0)] [] h
  unfold wJ5_isLatin1_aae02 at w
  refine X_getstI (j := 3) rfl gz_J5_18 (show decode cJ5_isLatin1_aae02 0 = .ok (.getstatic 18, 3) by decide +kernel) ?_
  refine X_if_eq (tgt := 17) (show decode cJ5_isLatin1_aae02 3 = .ok (.ifCond .eq 14, 3) by decide +kernel) (by decide) ⟨fun c1 => ?_, fun c1 => ?_⟩
  · have w := w.1 c1
    refine X_iconst (v := 0) (show decode cJ5_isLatin1_aae02 17 = .ok (.iconst 0, 1) by decide +kernel) (by decide) ?_
    exact X_iret ⟨(show decode cJ5_isLatin1_aae02 18 = .ok (.ireturn, 1) by decide +kernel), .boolean, rfl, (by decide)⟩ ⟨_, rfl, w⟩
  · have w := w.2 c1
    refine X_aload_n (j := 0) (show decode cJ5_isLatin1_aae02 6 = .ok (.aload_n 0, 1) by decide +kernel) rfl rfl ?_
    obtain ⟨s2, w⟩ := w
    refine X_getI fl_J5_22 (show decode cJ5_isLatin1_aae02 7 = .ok (.getfield 22, 3) by decide +kernel) s2 ?_
    refine X_if_ne (tgt := 17) (show decode cJ5_isLatin1_aae02 10 = .ok (.ifCond .ne 7, 3) by decide +kernel) (by decide) ⟨fun c3 => ?_, fun c3 => ?_⟩
    · have w := w.1 c3
      refine X_iconst (v := 0) (show decode cJ5_isLatin1_aae02 17 = .ok (.iconst 0, 1) by decide +kernel) (by decide) ?_
      exact X_iret ⟨(show decode cJ5_isLatin1_aae02 18 = .ok (.ireturn, 1) by decide +kernel), .boolean, rfl, (by decide)⟩ ⟨_, rfl, w⟩
    · have w := w.2 c3
      refine X_iconst (v := 1) (show decode cJ5_isLatin1_aae02 13 = .ok (.iconst 1, 1) by decide +kernel) (by decide) ?_
      refine X_goto (tgt := 18) (show decode cJ5_isLatin1_aae02 14 = .ok (.goto 4, 3) by decide +kernel) (by decide) ?_
      exact X_iret ⟨(show decode cJ5_isLatin1_aae02 18 = .ok (.ireturn, 1) by decide +kernel), .boolean, rfl, (by decide)⟩ ⟨_, rfl, w⟩
set_option maxRecDepth 100000 in
set_option maxHeartbeats 4000000 in
theorem kJ6_getChars_ba4f3_L22 {K : Int32 → AH → Prop} {c72 : Int32 → Nat → Int32 → Int32 → AH → Prop} (hc72 : ∀ x0 x2 x5 x6 h, c72 x0 x2 x5 x6 h → X mJ6_getChars_ba4f3 1 (KI K) T0 0 0 72 [(0, .int x0), (2, .ref x2), (5, .int x5), (6, .int x6)] [] h) {x2 : Nat} {x6 : Int32} : ∀ (n : Nat) (x0 : Int32) (x5 : Int32) (h : AH), wJ6_getChars_ba4f3_L22 K c72 x2 x6 n x0 x5 h → X mJ6_getChars_ba4f3 1 (KI K) T0 0 0 22 [(0, .int x0), (2, .ref x2), (5, .int x5), (6, .int x6)] [] h := by
  intro n
  induction n with
  | zero => intro _ _ _ w; exact w.elim
  | succ n ih =>
    intro x0 x5 h w
    rw [wJ6_getChars_ba4f3_L22] at w
    refine X_iload_n (j := 0) (show decode cJ6_getChars_ba4f3 22 = .ok (.iload_n 0, 1) by decide +kernel) rfl rfl ?_
    refine X_bipush (v := (-100)) (show decode cJ6_getChars_ba4f3 23 = .ok (.bipush (-100), 2) by decide +kernel) (by decide) ?_
    refine X_icmp_gt (tgt := 72) (show decode cJ6_getChars_ba4f3 25 = .ok (.if_icmp .gt 47, 3) by decide +kernel) (by decide) ⟨fun c3 => ?_, fun c3 => ?_⟩
    · have w := w.1 c3
      exact hc72 _ _ _ _ _ w
    · have w := w.2 c3
      refine X_iload_n (j := 0) (show decode cJ6_getChars_ba4f3 28 = .ok (.iload_n 0, 1) by decide +kernel) rfl rfl ?_
      refine X_bipush (v := 100) (show decode cJ6_getChars_ba4f3 29 = .ok (.bipush 100, 2) by decide +kernel) (by decide) ?_
      refine X_idiv (show decode cJ6_getChars_ba4f3 31 = .ok (.idiv, 1) by decide +kernel) (by decide) ?_
      refine X_istore_n (ls' := [(0, .int _), (2, .ref _), (3, .int _), (5, .int _), (6, .int _)]) (show decode cJ6_getChars_ba4f3 32 = .ok (.istore_n 3, 1) by decide +kernel) rfl (by decide) rfl ?_
      refine X_iload_n (j := 2) (show decode cJ6_getChars_ba4f3 33 = .ok (.iload_n 3, 1) by decide +kernel) rfl rfl ?_
      refine X_bipush (v := 100) (show decode cJ6_getChars_ba4f3 34 = .ok (.bipush 100, 2) by decide +kernel) (by decide) ?_
      refine X_imul (show decode cJ6_getChars_ba4f3 36 = .ok (.imul, 1) by decide +kernel) ?_
      refine X_iload_n (j := 0) (show decode cJ6_getChars_ba4f3 37 = .ok (.iload_n 0, 1) by decide +kernel) rfl rfl ?_
      refine X_isub (show decode cJ6_getChars_ba4f3 38 = .ok (.isub, 1) by decide +kernel) ?_
      refine X_istore (ls' := [(0, .int _), (2, .ref _), (3, .int _), (4, .int _), (5, .int _), (6, .int _)]) (show decode cJ6_getChars_ba4f3 39 = .ok (.istore 4, 2) by decide +kernel) (by decide) rfl ?_
      refine X_iload_n (j := 2) (show decode cJ6_getChars_ba4f3 41 = .ok (.iload_n 3, 1) by decide +kernel) rfl rfl ?_
      refine X_istore_n (ls' := [(0, .int _), (2, .ref _), (3, .int _), (4, .int _), (5, .int _), (6, .int _)]) (show decode cJ6_getChars_ba4f3 42 = .ok (.istore_n 0, 1) by decide +kernel) rfl (by decide) rfl ?_
      refine X_aload_n (j := 1) (show decode cJ6_getChars_ba4f3 43 = .ok (.aload_n 2, 1) by decide +kernel) rfl rfl ?_
      refine X_iinc (j := 4) (v := _ + (-1)) (ls' := [(0, .int _), (2, .ref _), (3, .int _), (4, .int _), (5, .int _), (6, .int _)]) (show decode cJ6_getChars_ba4f3 44 = .ok (.iinc 5 (-1), 3) by decide +kernel) rfl rfl (Nat.le_of_ble_eq_true rfl) rfl ?_
      refine X_iload (j := 4) (show decode cJ6_getChars_ba4f3 47 = .ok (.iload 5, 2) by decide +kernel) rfl ?_
      refine X_getstR (j := 5) rfl (by decide) gz_J6_83 (show decode cJ6_getChars_ba4f3 49 = .ok (.getstatic 83, 3) by decide +kernel) ?_
      refine X_iload (j := 3) (show decode cJ6_getChars_ba4f3 52 = .ok (.iload 4, 2) by decide +kernel) rfl ?_
      obtain ⟨s4, w⟩ := w
      obtain ⟨s5, w⟩ := w
      refine X_bald (show decode cJ6_getChars_ba4f3 54 = .ok (.baload, 1) by decide +kernel) (isA_eq s4) s5 ?_
      obtain ⟨s6, w⟩ := w
      obtain ⟨s7, w⟩ := w
      obtain ⟨s8, w⟩ := w
      refine X_bast (show decode cJ6_getChars_ba4f3 55 = .ok (.bastore, 1) by decide +kernel) (isA_eq s6) s7 s8 ?_
      have w := w _ rfl
      refine X_aload_n (j := 1) (show decode cJ6_getChars_ba4f3 56 = .ok (.aload_n 2, 1) by decide +kernel) rfl rfl ?_
      refine X_iinc (j := 4) (v := _ + (-1)) (ls' := [(0, .int _), (2, .ref _), (3, .int _), (4, .int _), (5, .int _), (6, .int _)]) (show decode cJ6_getChars_ba4f3 57 = .ok (.iinc 5 (-1), 3) by decide +kernel) rfl rfl (Nat.le_of_ble_eq_true rfl) rfl ?_
      refine X_iload (j := 4) (show decode cJ6_getChars_ba4f3 60 = .ok (.iload 5, 2) by decide +kernel) rfl ?_
      refine X_getstR (j := 4) rfl (by decide) gz_J6_87 (show decode cJ6_getChars_ba4f3 62 = .ok (.getstatic 87, 3) by decide +kernel) ?_
      refine X_iload (j := 3) (show decode cJ6_getChars_ba4f3 65 = .ok (.iload 4, 2) by decide +kernel) rfl ?_
      obtain ⟨s10, w⟩ := w
      obtain ⟨s11, w⟩ := w
      refine X_bald (show decode cJ6_getChars_ba4f3 67 = .ok (.baload, 1) by decide +kernel) (isA_eq s10) s11 ?_
      obtain ⟨s12, w⟩ := w
      refine X_bast (show decode cJ6_getChars_ba4f3 68 = .ok (.bastore, 1) by decide +kernel) (isA_eq s6) s7 s12 ?_
      have w := w _ rfl
      refine X_goto (tgt := 22) (show decode cJ6_getChars_ba4f3 69 = .ok (.goto (-47), 3) by decide +kernel) (by decide) ?_
      refine X_pick (ls' := [(0, .int _), (2, .ref _), (5, .int _), (6, .int _)]) [0, 1, 4, 5] rfl ?_
      exact ih _ _ _ _ _ w
set_option maxRecDepth 100000 in
set_option maxHeartbeats 4000000 in
theorem kJ6_getChars_ba4f3_J104 {K : Int32 → AH → Prop}   (x2 : Nat) (x5 : Int32) (x6 : Int32) (h : AH) (w : wJ6_getChars_ba4f3_J104 K  x2 x5 x6 h) : X mJ6_getChars_ba4f3 1 (KI K) T0 0 0 104 [(2, .ref x2), (5, .int x5), (6, .int x6)] [] h := by
  unfold wJ6_getChars_ba4f3_J104 at w
  refine X_iload (j := 2) (show decode cJ6_getChars_ba4f3 104 = .ok (.iload 6, 2) by decide +kernel) rfl ?_
  refine X_if_eq (tgt := 118) (show decode cJ6_getChars_ba4f3 106 = .ok (.ifCond .eq 12, 3) by decide +kernel) (by decide) ⟨fun c26 => ?_, fun c26 => ?_⟩
  · have w := w.1 c26
    refine X_iload (j := 1) (show decode cJ6_getChars_ba4f3 118 = .ok (.iload 5, 2) by decide +kernel) rfl ?_
    exact X_iret ⟨(show decode cJ6_getChars_ba4f3 120 = .ok (.ireturn, 1) by decide +kernel), .int, rfl, rfl⟩ ⟨_, rfl, w⟩
  · have w := w.2 c26
    refine X_aload_n (j := 0) (show decode cJ6_getChars_ba4f3 109 = .ok (.aload_n 2, 1) by decide +kernel) rfl rfl ?_
    refine X_iinc (j := 1) (v := _ + (-1)) (ls' := [(2, .ref _), (5, .int _), (6, .int _)]) (show decode cJ6_getChars_ba4f3 110 = .ok (.iinc 5 (-1), 3) by decide +kernel) rfl rfl (Nat.le_of_ble_eq_true rfl) rfl ?_
    refine X_iload (j := 1) (show decode cJ6_getChars_ba4f3 113 = .ok (.iload 5, 2) by decide +kernel) rfl ?_
    refine X_bipush (v := 45) (show decode cJ6_getChars_ba4f3 115 = .ok (.bipush 45, 2) by decide +kernel) (by decide) ?_
    obtain ⟨s27, w⟩ := w
    obtain ⟨s28, w⟩ := w
    obtain ⟨s29, w⟩ := w
    refine X_bast (show decode cJ6_getChars_ba4f3 117 = .ok (.bastore, 1) by decide +kernel) (isA_eq s27) s28 s29 ?_
    have w := w _ rfl
    refine X_iload (j := 1) (show decode cJ6_getChars_ba4f3 118 = .ok (.iload 5, 2) by decide +kernel) rfl ?_
    exact X_iret ⟨(show decode cJ6_getChars_ba4f3 120 = .ok (.ireturn, 1) by decide +kernel), .int, rfl, rfl⟩ ⟨_, rfl, w⟩
set_option maxRecDepth 100000 in
set_option maxHeartbeats 4000000 in
theorem kJ6_getChars_ba4f3_J12 {K : Int32 → AH → Prop}   (x0 : Int32) (x2 : Nat) (x5 : Int32) (y0 : Int32) (h : AH) (w : wJ6_getChars_ba4f3_J12 K  x0 x2 x5 y0 h) : X mJ6_getChars_ba4f3 1 (KI K) T0 0 0 12 [(0, .int x0), (2, .ref x2), (5, .int x5)] [.int y0] h := by
  unfold wJ6_getChars_ba4f3_J12 at w
  refine X_istore (ls' := [(0, .int _), (2, .ref _), (5, .int _), (6, .int _)]) (show decode cJ6_getChars_ba4f3 12 = .ok (.istore 6, 2) by decide +kernel) (by decide) rfl ?_
  refine X_iload (j := 3) (show decode cJ6_getChars_ba4f3 14 = .ok (.iload 6, 2) by decide +kernel) rfl ?_
  refine X_if_ne (tgt := 22) (show decode cJ6_getChars_ba4f3 16 = .ok (.ifCond .ne 6, 3) by decide +kernel) (by decide) ⟨fun c2 => ?_, fun c2 => ?_⟩
  · have w := w.1 c2
    obtain ⟨n35, w⟩ := w
    refine kJ6_getChars_ba4f3_L22 ?_ n35 _ _ _ w
    · intro x0_14 x2_15 x5_16 x6_17 h18 w
      refine X_aload_n (j := 1) (show decode cJ6_getChars_ba4f3 72 = .ok (.aload_n 2, 1) by decide +kernel) rfl rfl ?_
      refine X_iinc (j := 2) (v := _ + (-1)) (ls' := [(0, .int _), (2, .ref _), (5, .int _), (6, .int _)]) (show decode cJ6_getChars_ba4f3 73 = .ok (.iinc 5 (-1), 3) by decide +kernel) rfl rfl (Nat.le_of_ble_eq_true rfl) rfl ?_
      refine X_iload (j := 2) (show decode cJ6_getChars_ba4f3 76 = .ok (.iload 5, 2) by decide +kernel) rfl ?_
      refine X_getstR (j := 5) rfl (by decide) gz_J6_83 (show decode cJ6_getChars_ba4f3 78 = .ok (.getstatic 83, 3) by decide +kernel) ?_
      refine X_iload_n (j := 0) (show decode cJ6_getChars_ba4f3 81 = .ok (.iload_n 0, 1) by decide +kernel) rfl rfl ?_
      refine X_ineg (show decode cJ6_getChars_ba4f3 82 = .ok (.ineg, 1) by decide +kernel) ?_
      obtain ⟨s19, w⟩ := w
      obtain ⟨s20, w⟩ := w
      refine X_bald (show decode cJ6_getChars_ba4f3 83 = .ok (.baload, 1) by decide +kernel) (isA_eq s19) s20 ?_
      obtain ⟨s21, w⟩ := w
      obtain ⟨s22, w⟩ := w
      obtain ⟨s23, w⟩ := w
      refine X_bast (show decode cJ6_getChars_ba4f3 84 = .ok (.bastore, 1) by decide +kernel) (isA_eq s21) s22 s23 ?_
      have w := w _ rfl
      refine X_iload_n (j := 0) (show decode cJ6_getChars_ba4f3 85 = .ok (.iload_n 0, 1) by decide +kernel) rfl rfl ?_
      refine X_bipush (v := (-9)) (show decode cJ6_getChars_ba4f3 86 = .ok (.bipush (-9), 2) by decide +kernel) (by decide) ?_
      refine X_icmp_ge (tgt := 104) (show decode cJ6_getChars_ba4f3 88 = .ok (.if_icmp .ge 16, 3) by decide +kernel) (by decide) ⟨fun c25 => ?_, fun c25 => ?_⟩
      · have w := w.1 c25
        refine X_pick (ls' := [(2, .ref _), (5, .int _), (6, .int _)]) [1, 2, 3] rfl ?_
        exact kJ6_getChars_ba4f3_J104  _ _ _ _ w
      · have w := w.2 c25
        refine X_aload_n (j := 1) (show decode cJ6_getChars_ba4f3 91 = .ok (.aload_n 2, 1) by decide +kernel) rfl rfl ?_
        refine X_iinc (j := 2) (v := _ + (-1)) (ls' := [(0, .int _), (2, .ref _), (5, .int _), (6, .int _)]) (show decode cJ6_getChars_ba4f3 92 = .ok (.iinc 5 (-1), 3) by decide +kernel) rfl rfl (Nat.le_of_ble_eq_true rfl) rfl ?_
        refine X_iload (j := 2) (show decode cJ6_getChars_ba4f3 95 = .ok (.iload 5, 2) by decide +kernel) rfl ?_
        refine X_getstR (j := 4) rfl (by decide) gz_J6_87 (show decode cJ6_getChars_ba4f3 97 = .ok (.getstatic 87, 3) by decide +kernel) ?_
        refine X_iload_n (j := 0) (show decode cJ6_getChars_ba4f3 100 = .ok (.iload_n 0, 1) by decide +kernel) rfl rfl ?_
        refine X_ineg (show decode cJ6_getChars_ba4f3 101 = .ok (.ineg, 1) by decide +kernel) ?_
        obtain ⟨s31, w⟩ := w
        obtain ⟨s32, w⟩ := w
        refine X_bald (show decode cJ6_getChars_ba4f3 102 = .ok (.baload, 1) by decide +kernel) (isA_eq s31) s32 ?_
        obtain ⟨s33, w⟩ := w
        refine X_bast (show decode cJ6_getChars_ba4f3 103 = .ok (.bastore, 1) by decide +kernel) (isA_eq s21) s22 s33 ?_
        have w := w _ rfl
        refine X_pick (ls' := [(2, .ref _), (5, .int _), (6, .int _)]) [1, 2, 3] rfl ?_
        exact kJ6_getChars_ba4f3_J104  _ _ _ _ w
  · have w := w.2 c2
    refine X_iload_n (j := 0) (show decode cJ6_getChars_ba4f3 19 = .ok (.iload_n 0, 1) by decide +kernel) rfl rfl ?_
    refine X_ineg (show decode cJ6_getChars_ba4f3 20 = .ok (.ineg, 1) by decide +kernel) ?_
    refine X_istore_n (ls' := [(0, .int _), (2, .ref _), (5, .int _), (6, .int _)]) (show decode cJ6_getChars_ba4f3 21 = .ok (.istore_n 0, 1) by decide +kernel) rfl (by decide) rfl ?_
    obtain ⟨n52, w⟩ := w
    refine kJ6_getChars_ba4f3_L22 ?_ n52 _ _ _ w
    · intro x0_36 x2_37 x5_38 x6_39 h40 w
      refine X_aload_n (j := 1) (show decode cJ6_getChars_ba4f3 72 = .ok (.aload_n 2, 1) by decide +kernel) rfl rfl ?_
      refine X_iinc (j := 2) (v := _ + (-1)) (ls' := [(0, .int _), (2, .ref _), (5, .int _), (6, .int _)]) (show decode cJ6_getChars_ba4f3 73 = .ok (.iinc 5 (-1), 3) by decide +kernel) rfl rfl (Nat.le_of_ble_eq_true rfl) rfl ?_
      refine X_iload (j := 2) (show decode cJ6_getChars_ba4f3 76 = .ok (.iload 5, 2) by decide +kernel) rfl ?_
      refine X_getstR (j := 5) rfl (by decide) gz_J6_83 (show decode cJ6_getChars_ba4f3 78 = .ok (.getstatic 83, 3) by decide +kernel) ?_
      refine X_iload_n (j := 0) (show decode cJ6_getChars_ba4f3 81 = .ok (.iload_n 0, 1) by decide +kernel) rfl rfl ?_
      refine X_ineg (show decode cJ6_getChars_ba4f3 82 = .ok (.ineg, 1) by decide +kernel) ?_
      obtain ⟨s41, w⟩ := w
      obtain ⟨s42, w⟩ := w
      refine X_bald (show decode cJ6_getChars_ba4f3 83 = .ok (.baload, 1) by decide +kernel) (isA_eq s41) s42 ?_
      obtain ⟨s43, w⟩ := w
      obtain ⟨s44, w⟩ := w
      obtain ⟨s45, w⟩ := w
      refine X_bast (show decode cJ6_getChars_ba4f3 84 = .ok (.bastore, 1) by decide +kernel) (isA_eq s43) s44 s45 ?_
      have w := w _ rfl
      refine X_iload_n (j := 0) (show decode cJ6_getChars_ba4f3 85 = .ok (.iload_n 0, 1) by decide +kernel) rfl rfl ?_
      refine X_bipush (v := (-9)) (show decode cJ6_getChars_ba4f3 86 = .ok (.bipush (-9), 2) by decide +kernel) (by decide) ?_
      refine X_icmp_ge (tgt := 104) (show decode cJ6_getChars_ba4f3 88 = .ok (.if_icmp .ge 16, 3) by decide +kernel) (by decide) ⟨fun c47 => ?_, fun c47 => ?_⟩
      · have w := w.1 c47
        refine X_pick (ls' := [(2, .ref _), (5, .int _), (6, .int _)]) [1, 2, 3] rfl ?_
        exact kJ6_getChars_ba4f3_J104  _ _ _ _ w
      · have w := w.2 c47
        refine X_aload_n (j := 1) (show decode cJ6_getChars_ba4f3 91 = .ok (.aload_n 2, 1) by decide +kernel) rfl rfl ?_
        refine X_iinc (j := 2) (v := _ + (-1)) (ls' := [(0, .int _), (2, .ref _), (5, .int _), (6, .int _)]) (show decode cJ6_getChars_ba4f3 92 = .ok (.iinc 5 (-1), 3) by decide +kernel) rfl rfl (Nat.le_of_ble_eq_true rfl) rfl ?_
        refine X_iload (j := 2) (show decode cJ6_getChars_ba4f3 95 = .ok (.iload 5, 2) by decide +kernel) rfl ?_
        refine X_getstR (j := 4) rfl (by decide) gz_J6_87 (show decode cJ6_getChars_ba4f3 97 = .ok (.getstatic 87, 3) by decide +kernel) ?_
        refine X_iload_n (j := 0) (show decode cJ6_getChars_ba4f3 100 = .ok (.iload_n 0, 1) by decide +kernel) rfl rfl ?_
        refine X_ineg (show decode cJ6_getChars_ba4f3 101 = .ok (.ineg, 1) by decide +kernel) ?_
        obtain ⟨s48, w⟩ := w
        obtain ⟨s49, w⟩ := w
        refine X_bald (show decode cJ6_getChars_ba4f3 102 = .ok (.baload, 1) by decide +kernel) (isA_eq s48) s49 ?_
        obtain ⟨s50, w⟩ := w
        refine X_bast (show decode cJ6_getChars_ba4f3 103 = .ok (.bastore, 1) by decide +kernel) (isA_eq s43) s44 s50 ?_
        have w := w _ rfl
        refine X_pick (ls' := [(2, .ref _), (5, .int _), (6, .int _)]) [1, 2, 3] rfl ?_
        exact kJ6_getChars_ba4f3_J104  _ _ _ _ w
set_option maxRecDepth 100000 in
set_option maxHeartbeats 4000000 in
theorem kJ6_getChars_ba4f3 {a0 : Int32} {a1 : Int32} {a2 : Nat} {h : AH} {K : Int32 → AH → Prop} (w : wJ6_getChars_ba4f3 a0 a1 a2 h K) : Cn mJ6_getChars_ba4f3 (cwd mJ6_getChars_ba4f3) 1 0 0 [.int a0, .int a1, .ref a2] h (KI K) T0 := by
  refine Cn_of (by decide +kernel) rfl (Nat.le_of_ble_eq_true rfl) ?_
  show X mJ6_getChars_ba4f3 1 (KI K) T0 0 0 0 [(0, .int a0), (1, .int a1), (2, .ref a2), (5, .int a1)] [] h
  unfold wJ6_getChars_ba4f3 at w
  refine X_iload_n (j := 1) (show decode cJ6_getChars_ba4f3 0 = .ok (.iload_n 1, 1) by decide +kernel) rfl rfl ?_
  refine X_istore (ls' := [(0, .int _), (1, .int _), (2, .ref _), (5, .int _)]) (show decode cJ6_getChars_ba4f3 1 = .ok (.istore 5, 2) by decide +kernel) (by decide) rfl ?_
  refine X_iload_n (j := 0) (show decode cJ6_getChars_ba4f3 3 = .ok (.iload_n 0, 1) by decide +kernel) rfl rfl ?_
  refine X_if_ge (tgt := 11) (show decode cJ6_getChars_ba4f3 4 = .ok (.ifCond .ge 7, 3) by decide +kernel) (by decide) ⟨fun c1 => ?_, fun c1 => ?_⟩
  · have w := w.1 c1
    refine X_iconst (v := 0) (show decode cJ6_getChars_ba4f3 11 = .ok (.iconst 0, 1) by decide +kernel) (by decide) ?_
    refine X_pick (ls' := [(0, .int _), (2, .ref _), (5, .int _)]) [0, 2, 3] rfl ?_
    exact kJ6_getChars_ba4f3_J12  _ _ _ _ _ w
  · have w := w.2 c1
    refine X_iconst (v := 1) (show decode cJ6_getChars_ba4f3 7 = .ok (.iconst 1, 1) by decide +kernel) (by decide) ?_
    refine X_goto (tgt := 12) (show decode cJ6_getChars_ba4f3 8 = .ok (.goto 4, 3) by decide +kernel) (by decide) ?_
    refine X_pick (ls' := [(0, .int _), (2, .ref _), (5, .int _)]) [0, 2, 3] rfl ?_
    exact kJ6_getChars_ba4f3_J12  _ _ _ _ _ w
set_option maxRecDepth 100000 in
set_option maxHeartbeats 4000000 in
theorem kJ2_length_9d52b {a0 : Nat} {h : AH} {K : Int32 → AH → Prop} (w : wJ2_length_9d52b a0 h K) : Cn mJ2_length_9d52b (cwd mJ2_length_9d52b) 1 0 0 [.ref a0] h (KI K) T0 := by
  refine Cn_of (by decide +kernel) rfl (Nat.le_of_ble_eq_true rfl) ?_
  show X mJ2_length_9d52b 1 (KI K) T0 0 0 0 [(0, .ref a0)] [] h
  unfold wJ2_length_9d52b at w
  refine X_aload_n (j := 0) (show decode cJ2_length_9d52b 0 = .ok (.aload_n 0, 1) by decide +kernel) rfl rfl ?_
  obtain ⟨s1, w⟩ := w
  refine X_alen (v := nI (ln _ _)) (show decode cJ2_length_9d52b 1 = .ok (.arraylength, 1) by decide +kernel) (by decide) (isA_eq s1) rfl ?_
  refine X_iconst (v := 1) (show decode cJ2_length_9d52b 2 = .ok (.iconst 1, 1) by decide +kernel) (by decide) ?_
  refine X_ishr (show decode cJ2_length_9d52b 3 = .ok (.ishr, 1) by decide +kernel) ?_
  exact X_iret ⟨(show decode cJ2_length_9d52b 4 = .ok (.ireturn, 1) by decide +kernel), .int, rfl, rfl⟩ ⟨_, rfl, w⟩
set_option maxRecDepth 100000 in
set_option maxHeartbeats 4000000 in
theorem kJ3_checkFromToIndex_8c36e_J14 {K : Int32 → AH → Prop}   (x0 : Int32) (x1 : Int32) (x2 : Int32) (x3 : Nat) (h : AH) (w : wJ3_checkFromToIndex_8c36e_J14 K  x0 x1 x2 x3 h) : X mJ3_checkFromToIndex_8c36e 2 (KI K) T0 0 0 14 [(0, .int x0), (1, .int x1), (2, .int x2), (3, .ref x3)] [] h := by
  unfold wJ3_checkFromToIndex_8c36e_J14 at w
  exact w.elim
set_option maxRecDepth 100000 in
set_option maxHeartbeats 4000000 in
theorem kJ3_checkFromToIndex_8c36e {a0 : Int32} {a1 : Int32} {a2 : Int32} {a3 : Nat} {h : AH} {K : Int32 → AH → Prop} (w : wJ3_checkFromToIndex_8c36e a0 a1 a2 a3 h K) : Cn mJ3_checkFromToIndex_8c36e (cwd mJ3_checkFromToIndex_8c36e) 2 0 0 [.int a0, .int a1, .int a2, .ref a3] h (KI K) T0 := by
  refine Cn_of (by decide +kernel) rfl (Nat.le_of_ble_eq_true rfl) ?_
  show X mJ3_checkFromToIndex_8c36e 2 (KI K) T0 0 0 0 [(0, .int a0), (1, .int a1), (2, .int a2), (3, .ref a3)] [] h
  unfold wJ3_checkFromToIndex_8c36e at w
  refine X_iload_n (j := 0) (show decode cJ3_checkFromToIndex_8c36e 0 = .ok (.iload_n 0, 1) by decide +kernel) rfl rfl ?_
  refine X_if_lt (tgt := 14) (show decode cJ3_checkFromToIndex_8c36e 1 = .ok (.ifCond .lt 13, 3) by decide +kernel) (by decide) ⟨fun c1 => ?_, fun c1 => ?_⟩
  · have w := w.1 c1
    exact kJ3_checkFromToIndex_8c36e_J14  _ _ _ _ _ w
  · have w := w.2 c1
    refine X_iload_n (j := 0) (show decode cJ3_checkFromToIndex_8c36e 4 = .ok (.iload_n 0, 1) by decide +kernel) rfl rfl ?_
    refine X_iload_n (j := 1) (show decode cJ3_checkFromToIndex_8c36e 5 = .ok (.iload_n 1, 1) by decide +kernel) rfl rfl ?_
    refine X_icmp_gt (tgt := 14) (show decode cJ3_checkFromToIndex_8c36e 6 = .ok (.if_icmp .gt 8, 3) by decide +kernel) (by decide) ⟨fun c2 => ?_, fun c2 => ?_⟩
    · have w := w.1 c2
      exact kJ3_checkFromToIndex_8c36e_J14  _ _ _ _ _ w
    · have w := w.2 c2
      refine X_iload_n (j := 1) (show decode cJ3_checkFromToIndex_8c36e 9 = .ok (.iload_n 1, 1) by decide +kernel) rfl rfl ?_
      refine X_iload_n (j := 2) (show decode cJ3_checkFromToIndex_8c36e 10 = .ok (.iload_n 2, 1) by decide +kernel) rfl rfl ?_
      refine X_icmp_le (tgt := 22) (show decode cJ3_checkFromToIndex_8c36e 11 = .ok (.if_icmp .le 11, 3) by decide +kernel) (by decide) ⟨fun c3 => ?_, fun c3 => ?_⟩
      · have w := w.1 c3
        refine X_iload_n (j := 0) (show decode cJ3_checkFromToIndex_8c36e 22 = .ok (.iload_n 0, 1) by decide +kernel) rfl rfl ?_
        exact X_iret ⟨(show decode cJ3_checkFromToIndex_8c36e 23 = .ok (.ireturn, 1) by decide +kernel), .int, rfl, rfl⟩ ⟨_, rfl, w⟩
      · have w := w.2 c3
        exact kJ3_checkFromToIndex_8c36e_J14  _ _ _ _ _ w
set_option maxRecDepth 100000 in
set_option maxHeartbeats 4000000 in
theorem kJ0_checkBoundsBeginEnd_23922 {a0 : Int32} {a1 : Int32} {a2 : Int32} {h : AH} {K : AH → Prop} (w : wJ0_checkBoundsBeginEnd_23922 a0 a1 a2 h K) : Cn mJ0_checkBoundsBeginEnd_23922 (cwd mJ0_checkBoundsBeginEnd_23922) 3 0 0 [.int a0, .int a1, .int a2] h (KV K) T0 := by
  refine Cn_of (by decide +kernel) rfl (Nat.le_of_ble_eq_true rfl) ?_
  show X mJ0_checkBoundsBeginEnd_23922 3 (KV K) T0 0 0 0 [(0, .int a0), (1, .int a1), (2, .int a2)] [] h
  unfold wJ0_checkBoundsBeginEnd_23922 at w
  exact w.elim
set_option maxRecDepth 100000 in
set_option maxHeartbeats 4000000 in
theorem kJ2_checkBoundsBeginEnd_d044e {a0 : Int32} {a1 : Int32} {a2 : Nat} {h : AH} {K : AH → Prop} (w : wJ2_checkBoundsBeginEnd_d044e a0 a1 a2 h K) : Cn mJ2_checkBoundsBeginEnd_d044e (cwd mJ2_checkBoundsBeginEnd_d044e) 4 0 0 [.int a0, .int a1, .ref a2] h (KV K) T0 := by
  refine Cn_of (by decide +kernel) rfl (Nat.le_of_ble_eq_true rfl) ?_
  show X mJ2_checkBoundsBeginEnd_d044e 4 (KV K) T0 0 0 0 [(0, .int a0), (1, .int a1), (2, .ref a2)] [] h
  unfold wJ2_checkBoundsBeginEnd_d044e at w
  refine X_iload_n (j := 0) (show decode cJ2_checkBoundsBeginEnd_d044e 0 = .ok (.iload_n 0, 1) by decide +kernel) rfl rfl ?_
  refine X_iload_n (j := 1) (show decode cJ2_checkBoundsBeginEnd_d044e 1 = .ok (.iload_n 1, 1) by decide +kernel) rfl rfl ?_
  refine X_aload_n (j := 2) (show decode cJ2_checkBoundsBeginEnd_d044e 2 = .ok (.aload_n 2, 1) by decide +kernel) rfl rfl ?_
  refine X_sI (rc' := 0) (rs' := 0) (as := [.ref _]) ms_J2_48 (show decode cJ2_checkBoundsBeginEnd_d044e 3 = .ok (.invokestatic 48, 3) by decide +kernel) (by decide) (Nat.le_of_ble_eq_true rfl) (Nat.le_of_ble_eq_true rfl) rfl rfl (Nat.le_of_ble_eq_true rfl) (kJ2_length_9d52b w) (fun E h hk => hk.elim) (fun r2 h1 w => ?_)
  refine X_sV (rc' := 0) (rs' := 0) (as := [.int _, .int _, .int _]) ms_J2_241 (show decode cJ2_checkBoundsBeginEnd_d044e 6 = .ok (.invokestatic 241, 3) by decide +kernel) (by decide) (Nat.le_of_ble_eq_true rfl) (Nat.le_of_ble_eq_true rfl) rfl rfl (Nat.le_of_ble_eq_true rfl) (kJ0_checkBoundsBeginEnd_23922 w) (fun E h hk => hk.elim) (fun h3 w => ?_)
  exact X_vret ⟨(show decode cJ2_checkBoundsBeginEnd_d044e 9 = .ok (.return_, 1) by decide +kernel), rfl⟩ ⟨rfl, w⟩
set_option maxRecDepth 100000 in
set_option maxHeartbeats 4000000 in
theorem kJ2_putChar_b72d1 {a0 : Nat} {a1 : Int32} {a2 : Int32} {h : AH} {K : AH → Prop} (w : wJ2_putChar_b72d1 a0 a1 a2 h K) : Cn mJ2_putChar_b72d1 (cwd mJ2_putChar_b72d1) 2 0 0 [.ref a0, .int a1, .int a2] h (KV K) T0 := by
  refine Cn_of (by decide +kernel) rfl (Nat.le_of_ble_eq_true rfl) ?_
  show X mJ2_putChar_b72d1 2 (KV K) T0 0 0 0 [(0, .ref a0), (1, .int a1), (2, .int a2)] [] h
  unfold wJ2_putChar_b72d1 at w
  exact w.elim
set_option maxRecDepth 100000 in
set_option maxHeartbeats 4000000 in
theorem kJ2_getChars_ba4f3_L22 {K : Int32 → AH → Prop} {c76 : Int32 → Nat → Int32 → Int32 → AH → Prop} (hc76 : ∀ x0 x2 x5 x6 h, c76 x0 x2 x5 x6 h → X mJ2_getChars_ba4f3 3 (KI K) T0 0 0 76 [(0, .int x0), (2, .ref x2), (5, .int x5), (6, .int x6)] [] h) {x2 : Nat} {x6 : Int32} : ∀ (n : Nat) (x0 : Int32) (x5 : Int32) (h : AH), wJ2_getChars_ba4f3_L22 K c76 x2 x6 n x0 x5 h → X mJ2_getChars_ba4f3 3 (KI K) T0 0 0 22 [(0, .int x0), (2, .ref x2), (5, .int x5), (6, .int x6)] [] h := by
  intro n
  induction n with
  | zero => intro _ _ _ w; exact w.elim
  | succ n ih =>
    intro x0 x5 h w
    rw [wJ2_getChars_ba4f3_L22] at w
    refine X_iload_n (j := 0) (show decode cJ2_getChars_ba4f3 22 = .ok (.iload_n 0, 1) by decide +kernel) rfl rfl ?_
    refine X_bipush (v := (-100)) (show decode cJ2_getChars_ba4f3 23 = .ok (.bipush (-100), 2) by decide +kernel) (by decide) ?_
    refine X_icmp_gt (tgt := 76) (show decode cJ2_getChars_ba4f3 25 = .ok (.if_icmp .gt 51, 3) by decide +kernel) (by decide) ⟨fun c3 => ?_, fun c3 => ?_⟩
    · have w := w.1 c3
      exact hc76 _ _ _ _ _ w
    · have w := w.2 c3
      refine X_iload_n (j := 0) (show decode cJ2_getChars_ba4f3 28 = .ok (.iload_n 0, 1) by decide +kernel) rfl rfl ?_
      refine X_bipush (v := 100) (show decode cJ2_getChars_ba4f3 29 = .ok (.bipush 100, 2) by decide +kernel) (by decide) ?_
      refine X_idiv (show decode cJ2_getChars_ba4f3 31 = .ok (.idiv, 1) by decide +kernel) (by decide) ?_
      refine X_istore_n (ls' := [(0, .int _), (2, .ref _), (3, .int _), (5, .int _), (6, .int _)]) (show decode cJ2_getChars_ba4f3 32 = .ok (.istore_n 3, 1) by decide +kernel) rfl (by decide) rfl ?_
      refine X_iload_n (j := 2) (show decode cJ2_getChars_ba4f3 33 = .ok (.iload_n 3, 1) by decide +kernel) rfl rfl ?_
      refine X_bipush (v := 100) (show decode cJ2_getChars_ba4f3 34 = .ok (.bipush 100, 2) by decide +kernel) (by decide) ?_
      refine X_imul (show decode cJ2_getChars_ba4f3 36 = .ok (.imul, 1) by decide +kernel) ?_
      refine X_iload_n (j := 0) (show decode cJ2_getChars_ba4f3 37 = .ok (.iload_n 0, 1) by decide +kernel) rfl rfl ?_
      refine X_isub (show decode cJ2_getChars_ba4f3 38 = .ok (.isub, 1) by decide +kernel) ?_
      refine X_istore (ls' := [(0, .int _), (2, .ref _), (3, .int _), (4, .int _), (5, .int _), (6, .int _)]) (show decode cJ2_getChars_ba4f3 39 = .ok (.istore 4, 2) by decide +kernel) (by decide) rfl ?_
      refine X_iload_n (j := 2) (show decode cJ2_getChars_ba4f3 41 = .ok (.iload_n 3, 1) by decide +kernel) rfl rfl ?_
      refine X_istore_n (ls' := [(0, .int _), (2, .ref _), (3, .int _), (4, .int _), (5, .int _), (6, .int _)]) (show decode cJ2_getChars_ba4f3 42 = .ok (.istore_n 0, 1) by decide +kernel) rfl (by decide) rfl ?_
      refine X_aload_n (j := 1) (show decode cJ2_getChars_ba4f3 43 = .ok (.aload_n 2, 1) by decide +kernel) rfl rfl ?_
      refine X_iinc (j := 4) (v := _ + (-1)) (ls' := [(0, .int _), (2, .ref _), (3, .int _), (4, .int _), (5, .int _), (6, .int _)]) (show decode cJ2_getChars_ba4f3 44 = .ok (.iinc 5 (-1), 3) by decide +kernel) rfl rfl (Nat.le_of_ble_eq_true rfl) rfl ?_
      refine X_iload (j := 4) (show decode cJ2_getChars_ba4f3 47 = .ok (.iload 5, 2) by decide +kernel) rfl ?_
      refine X_getstR (j := 5) rfl (by decide) gz_J2_403 (show decode cJ2_getChars_ba4f3 49 = .ok (.getstatic 403, 3) by decide +kernel) ?_
      refine X_iload (j := 3) (show decode cJ2_getChars_ba4f3 52 = .ok (.iload 4, 2) by decide +kernel) rfl ?_
      obtain ⟨s4, w⟩ := w
      obtain ⟨s5, w⟩ := w
      refine X_bald (show decode cJ2_getChars_ba4f3 54 = .ok (.baload, 1) by decide +kernel) (isA_eq s4) s5 ?_
      refine X_sV (rc' := 0) (rs' := 0) (as := [.ref _, .int _, .int _]) ms_J2_111 (show decode cJ2_getChars_ba4f3 55 = .ok (.invokestatic 111, 3) by decide +kernel) (by decide) (Nat.le_of_ble_eq_true rfl) (Nat.le_of_ble_eq_true rfl) rfl rfl (Nat.le_of_ble_eq_true rfl) (kJ2_putChar_b72d1 w) (fun E h hk => hk.elim) (fun h6 w => ?_)
      refine X_aload_n (j := 1) (show decode cJ2_getChars_ba4f3 58 = .ok (.aload_n 2, 1) by decide +kernel) rfl rfl ?_
      refine X_iinc (j := 4) (v := _ + (-1)) (ls' := [(0, .int _), (2, .ref _), (3, .int _), (4, .int _), (5, .int _), (6, .int _)]) (show decode cJ2_getChars_ba4f3 59 = .ok (.iinc 5 (-1), 3) by decide +kernel) rfl rfl (Nat.le_of_ble_eq_true rfl) rfl ?_
      refine X_iload (j := 4) (show decode cJ2_getChars_ba4f3 62 = .ok (.iload 5, 2) by decide +kernel) rfl ?_
      refine X_getstR (j := 4) rfl (by decide) gz_J2_407 (show decode cJ2_getChars_ba4f3 64 = .ok (.getstatic 407, 3) by decide +kernel) ?_
      refine X_iload (j := 3) (show decode cJ2_getChars_ba4f3 67 = .ok (.iload 4, 2) by decide +kernel) rfl ?_
      obtain ⟨s8, w⟩ := w
      obtain ⟨s9, w⟩ := w
      refine X_bald (show decode cJ2_getChars_ba4f3 69 = .ok (.baload, 1) by decide +kernel) (isA_eq s8) s9 ?_
      refine X_sV (rc' := 0) (rs' := 0) (as := [.ref _, .int _, .int _]) ms_J2_111 (show decode cJ2_getChars_ba4f3 70 = .ok (.invokestatic 111, 3) by decide +kernel) (by decide) (Nat.le_of_ble_eq_true rfl) (Nat.le_of_ble_eq_true rfl) rfl rfl (Nat.le_of_ble_eq_true rfl) (kJ2_putChar_b72d1 w) (fun E h hk => hk.elim) (fun h10 w => ?_)
      refine X_goto (tgt := 22) (show decode cJ2_getChars_ba4f3 73 = .ok (.goto (-51), 3) by decide +kernel) (by decide) ?_
      refine X_pick (ls' := [(0, .int _), (2, .ref _), (5, .int _), (6, .int _)]) [0, 1, 4, 5] rfl ?_
      exact ih _ _ _ _ _ w
set_option maxRecDepth 100000 in
set_option maxHeartbeats 4000000 in
theorem kJ2_getChars_ba4f3_J112 {K : Int32 → AH → Prop}   (x2 : Nat) (x5 : Int32) (x6 : Int32) (h : AH) (w : wJ2_getChars_ba4f3_J112 K  x2 x5 x6 h) : X mJ2_getChars_ba4f3 3 (KI K) T0 0 0 112 [(2, .ref x2), (5, .int x5), (6, .int x6)] [] h := by
  unfold wJ2_getChars_ba4f3_J112 at w
  refine X_iload (j := 2) (show decode cJ2_getChars_ba4f3 112 = .ok (.iload 6, 2) by decide +kernel) rfl ?_
  refine X_if_eq (tgt := 128) (show decode cJ2_getChars_ba4f3 114 = .ok (.ifCond .eq 14, 3) by decide +kernel) (by decide) ⟨fun c22 => ?_, fun c22 => ?_⟩
  · have w := w.1 c22
    refine X_iload (j := 1) (show decode cJ2_getChars_ba4f3 128 = .ok (.iload 5, 2) by decide +kernel) rfl ?_
    exact X_iret ⟨(show decode cJ2_getChars_ba4f3 130 = .ok (.ireturn, 1) by decide +kernel), .int, rfl, rfl⟩ ⟨_, rfl, w⟩
  · have w := w.2 c22
    refine X_aload_n (j := 0) (show decode cJ2_getChars_ba4f3 117 = .ok (.aload_n 2, 1) by decide +kernel) rfl rfl ?_
    refine X_iinc (j := 1) (v := _ + (-1)) (ls' := [(2, .ref _), (5, .int _), (6, .int _)]) (show decode cJ2_getChars_ba4f3 118 = .ok (.iinc 5 (-1), 3) by decide +kernel) rfl rfl (Nat.le_of_ble_eq_true rfl) rfl ?_
    refine X_iload (j := 1) (show decode cJ2_getChars_ba4f3 121 = .ok (.iload 5, 2) by decide +kernel) rfl ?_
    refine X_bipush (v := 45) (show decode cJ2_getChars_ba4f3 123 = .ok (.bipush 45, 2) by decide +kernel) (by decide) ?_
    refine X_sV (rc' := 0) (rs' := 0) (as := [.ref _, .int _, .int _]) ms_J2_111 (show decode cJ2_getChars_ba4f3 125 = .ok (.invokestatic 111, 3) by decide +kernel) (by decide) (Nat.le_of_ble_eq_true rfl) (Nat.le_of_ble_eq_true rfl) rfl rfl (Nat.le_of_ble_eq_true rfl) (kJ2_putChar_b72d1 w) (fun E h hk => hk.elim) (fun h23 w => ?_)
    refine X_iload (j := 1) (show decode cJ2_getChars_ba4f3 128 = .ok (.iload 5, 2) by decide +kernel) rfl ?_
    exact X_iret ⟨(show decode cJ2_getChars_ba4f3 130 = .ok (.ireturn, 1) by decide +kernel), .int, rfl, rfl⟩ ⟨_, rfl, w⟩
set_option maxRecDepth 100000 in
set_option maxHeartbeats 4000000 in
theorem kJ2_getChars_ba4f3_J12 {K : Int32 → AH → Prop}   (x0 : Int32) (x2 : Nat) (x5 : Int32) (y0 : Int32) (h : AH) (w : wJ2_getChars_ba4f3_J12 K  x0 x2 x5 y0 h) : X mJ2_getChars_ba4f3 3 (KI K) T0 0 0 12 [(0, .int x0), (2, .ref x2), (5, .int x5)] [.int y0] h := by
  unfold wJ2_getChars_ba4f3_J12 at w
  refine X_istore (ls' := [(0, .int _), (2, .ref _), (5, .int _), (6, .int _)]) (show decode cJ2_getChars_ba4f3 12 = .ok (.istore 6, 2) by decide +kernel) (by decide) rfl ?_
  refine X_iload (j := 3) (show decode cJ2_getChars_ba4f3 14 = .ok (.iload 6, 2) by decide +kernel) rfl ?_
  refine X_if_ne (tgt := 22) (show decode cJ2_getChars_ba4f3 16 = .ok (.ifCond .ne 6, 3) by decide +kernel) (by decide) ⟨fun c2 => ?_, fun c2 => ?_⟩
  · have w := w.1 c2
    obtain ⟨n29, w⟩ := w
    refine kJ2_getChars_ba4f3_L22 ?_ n29 _ _ _ w
    · intro x0_12 x2_13 x5_14 x6_15 h16 w
      refine X_aload_n (j := 1) (show decode cJ2_getChars_ba4f3 76 = .ok (.aload_n 2, 1) by decide +kernel) rfl rfl ?_
      refine X_iinc (j := 2) (v := _ + (-1)) (ls' := [(0, .int _), (2, .ref _), (5, .int _), (6, .int _)]) (show decode cJ2_getChars_ba4f3 77 = .ok (.iinc 5 (-1), 3) by decide +kernel) rfl rfl (Nat.le_of_ble_eq_true rfl) rfl ?_
      refine X_iload (j := 2) (show decode cJ2_getChars_ba4f3 80 = .ok (.iload 5, 2) by decide +kernel) rfl ?_
      refine X_getstR (j := 5) rfl (by decide) gz_J2_403 (show decode cJ2_getChars_ba4f3 82 = .ok (.getstatic 403, 3) by decide +kernel) ?_
      refine X_iload_n (j := 0) (show decode cJ2_getChars_ba4f3 85 = .ok (.iload_n 0, 1) by decide +kernel) rfl rfl ?_
      refine X_ineg (show decode cJ2_getChars_ba4f3 86 = .ok (.ineg, 1) by decide +kernel) ?_
      obtain ⟨s17, w⟩ := w
      obtain ⟨s18, w⟩ := w
      refine X_bald (show decode cJ2_getChars_ba4f3 87 = .ok (.baload, 1) by decide +kernel) (isA_eq s17) s18 ?_
      refine X_sV (rc' := 0) (rs' := 0) (as := [.ref _, .int _, .int _]) ms_J2_111 (show decode cJ2_getChars_ba4f3 88 = .ok (.invokestatic 111, 3) by decide +kernel) (by decide) (Nat.le_of_ble_eq_true rfl) (Nat.le_of_ble_eq_true rfl) rfl rfl (Nat.le_of_ble_eq_true rfl) (kJ2_putChar_b72d1 w) (fun E h hk => hk.elim) (fun h19 w => ?_)
      refine X_iload_n (j := 0) (show decode cJ2_getChars_ba4f3 91 = .ok (.iload_n 0, 1) by decide +kernel) rfl rfl ?_
      refine X_bipush (v := (-9)) (show decode cJ2_getChars_ba4f3 92 = .ok (.bipush (-9), 2) by decide +kernel) (by decide) ?_
      refine X_icmp_ge (tgt := 112) (show decode cJ2_getChars_ba4f3 94 = .ok (.if_icmp .ge 18, 3) by decide +kernel) (by decide) ⟨fun c21 => ?_, fun c21 => ?_⟩
      · have w := w.1 c21
        refine X_pick (ls' := [(2, .ref _), (5, .int _), (6, .int _)]) [1, 2, 3] rfl ?_
        exact kJ2_getChars_ba4f3_J112  _ _ _ _ w
      · have w := w.2 c21
        refine X_aload_n (j := 1) (show decode cJ2_getChars_ba4f3 97 = .ok (.aload_n 2, 1) by decide +kernel) rfl rfl ?_
        refine X_iinc (j := 2) (v := _ + (-1)) (ls' := [(0, .int _), (2, .ref _), (5, .int _), (6, .int _)]) (show decode cJ2_getChars_ba4f3 98 = .ok (.iinc 5 (-1), 3) by decide +kernel) rfl rfl (Nat.le_of_ble_eq_true rfl) rfl ?_
        refine X_iload (j := 2) (show decode cJ2_getChars_ba4f3 101 = .ok (.iload 5, 2) by decide +kernel) rfl ?_
        refine X_getstR (j := 4) rfl (by decide) gz_J2_407 (show decode cJ2_getChars_ba4f3 103 = .ok (.getstatic 407, 3) by decide +kernel) ?_
        refine X_iload_n (j := 0) (show decode cJ2_getChars_ba4f3 106 = .ok (.iload_n 0, 1) by decide +kernel) rfl rfl ?_
        refine X_ineg (show decode cJ2_getChars_ba4f3 107 = .ok (.ineg, 1) by decide +kernel) ?_
        obtain ⟨s25, w⟩ := w
        obtain ⟨s26, w⟩ := w
        refine X_bald (show decode cJ2_getChars_ba4f3 108 = .ok (.baload, 1) by decide +kernel) (isA_eq s25) s26 ?_
        refine X_sV (rc' := 0) (rs' := 0) (as := [.ref _, .int _, .int _]) ms_J2_111 (show decode cJ2_getChars_ba4f3 109 = .ok (.invokestatic 111, 3) by decide +kernel) (by decide) (Nat.le_of_ble_eq_true rfl) (Nat.le_of_ble_eq_true rfl) rfl rfl (Nat.le_of_ble_eq_true rfl) (kJ2_putChar_b72d1 w) (fun E h hk => hk.elim) (fun h27 w => ?_)
        refine X_pick (ls' := [(2, .ref _), (5, .int _), (6, .int _)]) [1, 2, 3] rfl ?_
        exact kJ2_getChars_ba4f3_J112  _ _ _ _ w
  · have w := w.2 c2
    refine X_iload_n (j := 0) (show decode cJ2_getChars_ba4f3 19 = .ok (.iload_n 0, 1) by decide +kernel) rfl rfl ?_
    refine X_ineg (show decode cJ2_getChars_ba4f3 20 = .ok (.ineg, 1) by decide +kernel) ?_
    refine X_istore_n (ls' := [(0, .int _), (2, .ref _), (5, .int _), (6, .int _)]) (show decode cJ2_getChars_ba4f3 21 = .ok (.istore_n 0, 1) by decide +kernel) rfl (by decide) rfl ?_
    obtain ⟨n44, w⟩ := w
    refine kJ2_getChars_ba4f3_L22 ?_ n44 _ _ _ w
    · intro x0_30 x2_31 x5_32 x6_33 h34 w
      refine X_aload_n (j := 1) (show decode cJ2_getChars_ba4f3 76 = .ok (.aload_n 2, 1) by decide +kernel) rfl rfl ?_
      refine X_iinc (j := 2) (v := _ + (-1)) (ls' := [(0, .int _), (2, .ref _), (5, .int _), (6, .int _)]) (show decode cJ2_getChars_ba4f3 77 = .ok (.iinc 5 (-1), 3) by decide +kernel) rfl rfl (Nat.le_of_ble_eq_true rfl) rfl ?_
      refine X_iload (j := 2) (show decode cJ2_getChars_ba4f3 80 = .ok (.iload 5, 2) by decide +kernel) rfl ?_
      refine X_getstR (j := 5) rfl (by decide) gz_J2_403 (show decode cJ2_getChars_ba4f3 82 = .ok (.getstatic 403, 3) by decide +kernel) ?_
      refine X_iload_n (j := 0) (show decode cJ2_getChars_ba4f3 85 = .ok (.iload_n 0, 1) by decide +kernel) rfl rfl ?_
      refine X_ineg (show decode cJ2_getChars_ba4f3 86 = .ok (.ineg, 1) by decide +kernel) ?_
      obtain ⟨s35, w⟩ := w
      obtain ⟨s36, w⟩ := w
      refine X_bald (show decode cJ2_getChars_ba4f3 87 = .ok (.baload, 1) by decide +kernel) (isA_eq s35) s36 ?_
      refine X_sV (rc' := 0) (rs' := 0) (as := [.ref _, .int _, .int _]) ms_J2_111 (show decode cJ2_getChars_ba4f3 88 = .ok (.invokestatic 111, 3) by decide +kernel) (by decide) (Nat.le_of_ble_eq_true rfl) (Nat.le_of_ble_eq_true rfl) rfl rfl (Nat.le_of_ble_eq_true rfl) (kJ2_putChar_b72d1 w) (fun E h hk => hk.elim) (fun h37 w => ?_)
      refine X_iload_n (j := 0) (show decode cJ2_getChars_ba4f3 91 = .ok (.iload_n 0, 1) by decide +kernel) rfl rfl ?_
      refine X_bipush (v := (-9)) (show decode cJ2_getChars_ba4f3 92 = .ok (.bipush (-9), 2) by decide +kernel) (by decide) ?_
      refine X_icmp_ge (tgt := 112) (show decode cJ2_getChars_ba4f3 94 = .ok (.if_icmp .ge 18, 3) by decide +kernel) (by decide) ⟨fun c39 => ?_, fun c39 => ?_⟩
      · have w := w.1 c39
        refine X_pick (ls' := [(2, .ref _), (5, .int _), (6, .int _)]) [1, 2, 3] rfl ?_
        exact kJ2_getChars_ba4f3_J112  _ _ _ _ w
      · have w := w.2 c39
        refine X_aload_n (j := 1) (show decode cJ2_getChars_ba4f3 97 = .ok (.aload_n 2, 1) by decide +kernel) rfl rfl ?_
        refine X_iinc (j := 2) (v := _ + (-1)) (ls' := [(0, .int _), (2, .ref _), (5, .int _), (6, .int _)]) (show decode cJ2_getChars_ba4f3 98 = .ok (.iinc 5 (-1), 3) by decide +kernel) rfl rfl (Nat.le_of_ble_eq_true rfl) rfl ?_
        refine X_iload (j := 2) (show decode cJ2_getChars_ba4f3 101 = .ok (.iload 5, 2) by decide +kernel) rfl ?_
        refine X_getstR (j := 4) rfl (by decide) gz_J2_407 (show decode cJ2_getChars_ba4f3 103 = .ok (.getstatic 407, 3) by decide +kernel) ?_
        refine X_iload_n (j := 0) (show decode cJ2_getChars_ba4f3 106 = .ok (.iload_n 0, 1) by decide +kernel) rfl rfl ?_
        refine X_ineg (show decode cJ2_getChars_ba4f3 107 = .ok (.ineg, 1) by decide +kernel) ?_
        obtain ⟨s40, w⟩ := w
        obtain ⟨s41, w⟩ := w
        refine X_bald (show decode cJ2_getChars_ba4f3 108 = .ok (.baload, 1) by decide +kernel) (isA_eq s40) s41 ?_
        refine X_sV (rc' := 0) (rs' := 0) (as := [.ref _, .int _, .int _]) ms_J2_111 (show decode cJ2_getChars_ba4f3 109 = .ok (.invokestatic 111, 3) by decide +kernel) (by decide) (Nat.le_of_ble_eq_true rfl) (Nat.le_of_ble_eq_true rfl) rfl rfl (Nat.le_of_ble_eq_true rfl) (kJ2_putChar_b72d1 w) (fun E h hk => hk.elim) (fun h42 w => ?_)
        refine X_pick (ls' := [(2, .ref _), (5, .int _), (6, .int _)]) [1, 2, 3] rfl ?_
        exact kJ2_getChars_ba4f3_J112  _ _ _ _ w
set_option maxRecDepth 100000 in
set_option maxHeartbeats 4000000 in
theorem kJ2_getChars_ba4f3 {a0 : Int32} {a1 : Int32} {a2 : Nat} {h : AH} {K : Int32 → AH → Prop} (w : wJ2_getChars_ba4f3 a0 a1 a2 h K) : Cn mJ2_getChars_ba4f3 (cwd mJ2_getChars_ba4f3) 3 0 0 [.int a0, .int a1, .ref a2] h (KI K) T0 := by
  refine Cn_of (by decide +kernel) rfl (Nat.le_of_ble_eq_true rfl) ?_
  show X mJ2_getChars_ba4f3 3 (KI K) T0 0 0 0 [(0, .int a0), (1, .int a1), (2, .ref a2), (5, .int a1)] [] h
  unfold wJ2_getChars_ba4f3 at w
  refine X_iload_n (j := 1) (show decode cJ2_getChars_ba4f3 0 = .ok (.iload_n 1, 1) by decide +kernel) rfl rfl ?_
  refine X_istore (ls' := [(0, .int _), (1, .int _), (2, .ref _), (5, .int _)]) (show decode cJ2_getChars_ba4f3 1 = .ok (.istore 5, 2) by decide +kernel) (by decide) rfl ?_
  refine X_iload_n (j := 0) (show decode cJ2_getChars_ba4f3 3 = .ok (.iload_n 0, 1) by decide +kernel) rfl rfl ?_
  refine X_if_ge (tgt := 11) (show decode cJ2_getChars_ba4f3 4 = .ok (.ifCond .ge 7, 3) by decide +kernel) (by decide) ⟨fun c1 => ?_, fun c1 => ?_⟩
  · have w := w.1 c1
    refine X_iconst (v := 0) (show decode cJ2_getChars_ba4f3 11 = .ok (.iconst 0, 1) by decide +kernel) (by decide) ?_
    refine X_pick (ls' := [(0, .int _), (2, .ref _), (5, .int _)]) [0, 2, 3] rfl ?_
    exact kJ2_getChars_ba4f3_J12  _ _ _ _ _ w
  · have w := w.2 c1
    refine X_iconst (v := 1) (show decode cJ2_getChars_ba4f3 7 = .ok (.iconst 1, 1) by decide +kernel) (by decide) ?_
    refine X_goto (tgt := 12) (show decode cJ2_getChars_ba4f3 8 = .ok (.goto 4, 3) by decide +kernel) (by decide) ?_
    refine X_pick (ls' := [(0, .int _), (2, .ref _), (5, .int _)]) [0, 2, 3] rfl ?_
    exact kJ2_getChars_ba4f3_J12  _ _ _ _ _ w
set_option maxRecDepth 100000 in
set_option maxHeartbeats 4000000 in
theorem kJ2_getChars_46870 {a0 : Int32} {a1 : Int32} {a2 : Int32} {a3 : Nat} {h : AH} {K : Int32 → AH → Prop} (w : wJ2_getChars_46870 a0 a1 a2 a3 h K) : Cn mJ2_getChars_46870 (cwd mJ2_getChars_46870) 5 0 0 [.int a0, .int a1, .int a2, .ref a3] h (KI K) T0 := by
  refine Cn_of (by decide +kernel) rfl (Nat.le_of_ble_eq_true rfl) ?_
  show X mJ2_getChars_46870 5 (KI K) T0 0 0 0 [(0, .int a0), (1, .int a1), (2, .int a2), (3, .ref a3)] [] h
  unfold wJ2_getChars_46870 at w
  refine X_iload_n (j := 1) (show decode cJ2_getChars_46870 0 = .ok (.iload_n 1, 1) by decide +kernel) rfl rfl ?_
  refine X_iload_n (j := 2) (show decode cJ2_getChars_46870 1 = .ok (.iload_n 2, 1) by decide +kernel) rfl rfl ?_
  refine X_aload_n (j := 3) (show decode cJ2_getChars_46870 2 = .ok (.aload_n 3, 1) by decide +kernel) rfl rfl ?_
  refine X_sV (rc' := 0) (rs' := 0) (as := [.int _, .int _, .ref _]) ms_J2_96 (show decode cJ2_getChars_46870 3 = .ok (.invokestatic 96, 3) by decide +kernel) (by decide) (Nat.le_of_ble_eq_true rfl) (Nat.le_of_ble_eq_true rfl) rfl rfl (Nat.le_of_ble_eq_true rfl) (kJ2_checkBoundsBeginEnd_d044e w) (fun E h hk => hk.elim) (fun h1 w => ?_)
  refine X_iload_n (j := 0) (show decode cJ2_getChars_46870 6 = .ok (.iload_n 0, 1) by decide +kernel) rfl rfl ?_
  refine X_iload_n (j := 2) (show decode cJ2_getChars_46870 7 = .ok (.iload_n 2, 1) by decide +kernel) rfl rfl ?_
  refine X_aload_n (j := 3) (show decode cJ2_getChars_46870 8 = .ok (.aload_n 3, 1) by decide +kernel) rfl rfl ?_
  refine X_sI (rc' := 0) (rs' := 0) (as := [.int _, .int _, .ref _]) ms_J2_393 (show decode cJ2_getChars_46870 9 = .ok (.invokestatic 393, 3) by decide +kernel) (by decide) (Nat.le_of_ble_eq_true rfl) (Nat.le_of_ble_eq_true rfl) rfl rfl (Nat.le_of_ble_eq_true rfl) (kJ2_getChars_ba4f3 w) (fun E h hk => hk.elim) (fun r4 h3 w => ?_)
  exact w.elim
set_option maxRecDepth 100000 in
set_option maxHeartbeats 4000000 in
theorem kJ5_append_c97b9 {a0 : Nat} {a1 : Int32} {h : AH} {K : Nat → AH → Prop} (w : wJ5_append_c97b9 a0 a1 h K) : Cn mJ5_append_c97b9 (cwd mJ5_append_c97b9) 6 0 0 [.ref a0, .int a1] h (KR K) T0 := by
  refine Cn_of (by decide +kernel) rfl (Nat.le_of_ble_eq_true rfl) ?_
  show X mJ5_append_c97b9 6 (KR K) T0 0 0 0 [(0, .ref a0), (1, .int a1), (2, .int (mI h a0 3))] [] h
  unfold wJ5_append_c97b9 at w
  refine X_aload_n (j := 0) (show decode cJ5_append_c97b9 0 = .ok (.aload_n 0, 1) by decide +kernel) rfl rfl ?_
  obtain ⟨s1, w⟩ := w
  refine X_getI fl_J5_79 (show decode cJ5_append_c97b9 1 = .ok (.getfield 79, 3) by decide +kernel) s1 ?_
  refine X_istore_n (ls' := [(0, .ref _), (1, .int _), (2, .int _)]) (show decode cJ5_append_c97b9 4 = .ok (.istore_n 2, 1) by decide +kernel) rfl (by decide) rfl ?_
  refine X_iload_n (j := 2) (show decode cJ5_append_c97b9 5 = .ok (.iload_n 2, 1) by decide +kernel) rfl rfl ?_
  refine X_iload_n (j := 1) (show decode cJ5_append_c97b9 6 = .ok (.iload_n 1, 1) by decide +kernel) rfl rfl ?_
  refine X_sI (rc' := 0) (rs' := 0) (as := [.int _]) ms_J5_245 (show decode cJ5_append_c97b9 7 = .ok (.invokestatic 245, 3) by decide +kernel) (by decide) (Nat.le_of_ble_eq_true rfl) (Nat.le_of_ble_eq_true rfl) rfl rfl (Nat.le_of_ble_eq_true rfl) (kJ6_stringSize_0f7a4 w) (fun E h hk => hk.elim) (fun r3 h2 w => ?_)
  exact w.elim
set_option maxRecDepth 100000 in
set_option maxHeartbeats 4000000 in
theorem kJ4_append_bf812 {a0 : Nat} {a1 : Int32} {h : AH} {K : Nat → AH → Prop} (w : wJ4_append_bf812 a0 a1 h K) : Cn mJ4_append_bf812 (cwd mJ4_append_bf812) 7 0 0 [.ref a0, .int a1] h (KR K) T0 := by
  refine Cn_of (by decide +kernel) rfl (Nat.le_of_ble_eq_true rfl) ?_
  show X mJ4_append_bf812 7 (KR K) T0 0 0 0 [(0, .ref a0), (1, .int a1)] [] h
  unfold wJ4_append_bf812 at w
  refine X_aload_n (j := 0) (show decode cJ4_append_bf812 0 = .ok (.aload_n 0, 1) by decide +kernel) rfl rfl ?_
  refine X_iload_n (j := 1) (show decode cJ4_append_bf812 1 = .ok (.iload_n 1, 1) by decide +kernel) rfl rfl ?_
  obtain ⟨s3, w⟩ := w
  refine X_callP (rc' := 0) (rs' := 0) (as := [.int _]) mp_J4_53 (show decode cJ4_append_bf812 2 = .ok (.invokespecial 53, 3) by decide +kernel) (by decide) (Nat.le_of_ble_eq_true rfl) (Nat.le_of_ble_eq_true rfl) rfl rfl (Nat.le_of_ble_eq_true rfl) s3 (kJ5_append_c97b9 w) (fun v9 h1 w => ?_)
  obtain ⟨r2, rfl, w⟩ := w
  refine X_pop (show decode cJ4_append_bf812 5 = .ok (.pop, 1) by decide +kernel) rfl ?_
  refine X_aload_n (j := 0) (show decode cJ4_append_bf812 6 = .ok (.aload_n 0, 1) by decide +kernel) rfl rfl ?_
  exact X_aret ⟨(show decode cJ4_append_bf812 7 = .ok (.areturn, 1) by decide +kernel), _, rfl⟩ ⟨_, rfl, w⟩
set_option maxRecDepth 100000 in
set_option maxHeartbeats 4000000 in
theorem kJ5_getValue_6d5f1 {a0 : Nat} {h : AH} {K : Nat → AH → Prop} (w : wJ5_getValue_6d5f1 a0 h K) : Cn mJ5_getValue_6d5f1 (cwd mJ5_getValue_6d5f1) 1 0 0 [.ref a0] h (KR K) T0 := by
  refine Cn_of (by decide +kernel) rfl (Nat.le_of_ble_eq_true rfl) ?_
  show X mJ5_getValue_6d5f1 1 (KR K) T0 0 0 0 [(0, .ref a0)] [] h
  unfold wJ5_getValue_6d5f1 at w
  refine X_aload_n (j := 0) (show decode cJ5_getValue_6d5f1 0 = .ok (.aload_n 0, 1) by decide +kernel) rfl rfl ?_
  obtain ⟨s1, w⟩ := w
  refine X_getR fl_J5_15 (show decode cJ5_getValue_6d5f1 1 = .ok (.getfield 15, 3) by decide +kernel) s1 ?_
  exact X_aret ⟨(show decode cJ5_getValue_6d5f1 4 = .ok (.areturn, 1) by decide +kernel), _, rfl⟩ ⟨_, rfl, w⟩
set_option maxRecDepth 100000 in
set_option maxHeartbeats 4000000 in
theorem kJ5_length_8abf5 {a0 : Nat} {h : AH} {K : Int32 → AH → Prop} (w : wJ5_length_8abf5 a0 h K) : Cn mJ5_length_8abf5 (cwd mJ5_length_8abf5) 1 0 0 [.ref a0] h (KI K) T0 := by
  refine Cn_of (by decide +kernel) rfl (Nat.le_of_ble_eq_true rfl) ?_
  show X mJ5_length_8abf5 1 (KI K) T0 0 0 0 [(0, .ref a0)] [] h
  unfold wJ5_length_8abf5 at w
  refine X_aload_n (j := 0) (show decode cJ5_length_8abf5 0 = .ok (.aload_n 0, 1) by decide +kernel) rfl rfl ?_
  obtain ⟨s1, w⟩ := w
  refine X_getI fl_J5_79 (show decode cJ5_length_8abf5 1 = .ok (.getfield 79, 3) by decide +kernel) s1 ?_
  exact X_iret ⟨(show decode cJ5_length_8abf5 4 = .ok (.ireturn, 1) by decide +kernel), .int, rfl, rfl⟩ ⟨_, rfl, w⟩
set_option maxRecDepth 100000 in
set_option maxHeartbeats 4000000 in
theorem kJ7_checkLength_df160 {a0 : Int32} {a1 : Int32} {h : AH} {K : AH → Prop} {T : String → AH → Prop} (w : wJ7_checkLength_df160 a0 a1 h K T) : Cn mJ7_checkLength_df160 (cwd mJ7_checkLength_df160) 8 1 6 [.int a0, .int a1] h (KV K) T := by
  refine Cn_of (by decide +kernel) rfl (Nat.le_of_ble_eq_true rfl) ?_
  show X mJ7_checkLength_df160 8 (KV K) T 1 6 0 [(0, .int a0), (1, .int a1)] [] h
  unfold wJ7_checkLength_df160 at w
  refine X_iload_n (j := 1) (show decode cJ7_checkLength_df160 0 = .ok (.iload_n 1, 1) by decide +kernel) rfl rfl ?_
  refine X_iload_n (j := 0) (show decode cJ7_checkLength_df160 1 = .ok (.iload_n 0, 1) by decide +kernel) rfl rfl ?_
  refine X_icmp_ge (tgt := 37) (show decode cJ7_checkLength_df160 2 = .ok (.if_icmp .ge 35, 3) by decide +kernel) (by decide) ⟨fun c1 => ?_, fun c1 => ?_⟩
  · have w := w.1 c1
    exact X_vret ⟨(show decode cJ7_checkLength_df160 37 = .ok (.return_, 1) by decide +kernel), rfl⟩ ⟨rfl, w⟩
  · have w := w.2 c1
    exact w.elim
set_option maxRecDepth 100000 in
set_option maxHeartbeats 4000000 in
theorem kJ7_copyOfRangeByte_39247 {a0 : Nat} {a1 : Int32} {a2 : Int32} {h : AH} {K : Nat → AH → Prop} {T : String → AH → Prop} (w : wJ7_copyOfRangeByte_39247 a0 a1 a2 h K T) : Cn mJ7_copyOfRangeByte_39247 (cwd mJ7_copyOfRangeByte_39247) 9 2 262 [.ref a0, .int a1, .int a2] h (KR K) T := by
  refine Cn_of (by decide +kernel) rfl (Nat.le_of_ble_eq_true rfl) ?_
  show X mJ7_copyOfRangeByte_39247 9 (KR K) T 2 262 0 [(0, .ref a0), (1, .int a1), (2, .int a2)] [] h
  unfold wJ7_copyOfRangeByte_39247 at w
  refine X_iload_n (j := 1) (show decode cJ7_copyOfRangeByte_39247 0 = .ok (.iload_n 1, 1) by decide +kernel) rfl rfl ?_
  refine X_iload_n (j := 2) (show decode cJ7_copyOfRangeByte_39247 1 = .ok (.iload_n 2, 1) by decide +kernel) rfl rfl ?_
  refine X_sV (rc' := 1) (rs' := 256) (as := [.int _, .int _]) ms_J7_343 (show decode cJ7_copyOfRangeByte_39247 2 = .ok (.invokestatic 343, 3) by decide +kernel) (by decide) (Nat.le_of_ble_eq_true rfl) (Nat.le_of_ble_eq_true rfl) rfl rfl (Nat.le_of_ble_eq_true rfl) (kJ7_checkLength_df160 w) (fun E h hk => XT_out hk (fun x hx => absurd hx List.not_mem_nil)) (fun h1 w => ?_)
  refine X_iload_n (j := 2) (show decode cJ7_copyOfRangeByte_39247 5 = .ok (.iload_n 2, 1) by decide +kernel) rfl rfl ?_
  refine X_iload_n (j := 1) (show decode cJ7_copyOfRangeByte_39247 6 = .ok (.iload_n 1, 1) by decide +kernel) rfl rfl ?_
  refine X_isub (show decode cJ7_copyOfRangeByte_39247 7 = .ok (.isub, 1) by decide +kernel) ?_
  refine X_istore_n (ls' := [(0, .ref _), (1, .int _), (2, .int _), (3, .int _)]) (show decode cJ7_copyOfRangeByte_39247 8 = .ok (.istore_n 3, 1) by decide +kernel) rfl (by decide) rfl ?_
  refine X_iload_n (j := 3) (show decode cJ7_copyOfRangeByte_39247 9 = .ok (.iload_n 3, 1) by decide +kernel) rfl rfl ?_
  obtain ⟨s3, w⟩ := w
  obtain ⟨s4, w⟩ := w
  refine X_newa (rc' := 0) (rs' := 0) na_3 (by decide) (show decode cJ7_copyOfRangeByte_39247 10 = .ok (.newarray .byte, 2) by decide +kernel) s3 rfl (by have := s4; simp only [ty_, componentBytes]; omega) (Nat.le_of_ble_eq_true rfl) (by omega) ?_
  have w := w _ rfl
  refine X_astore (ls' := [(0, .ref _), (1, .int _), (2, .int _), (3, .int _), (4, .ref _)]) (show decode cJ7_copyOfRangeByte_39247 12 = .ok (.astore 4, 2) by decide +kernel) (by decide) rfl ?_
  refine X_aload_n (j := 0) (show decode cJ7_copyOfRangeByte_39247 14 = .ok (.aload_n 0, 1) by decide +kernel) rfl rfl ?_
  refine X_iload_n (j := 1) (show decode cJ7_copyOfRangeByte_39247 15 = .ok (.iload_n 1, 1) by decide +kernel) rfl rfl ?_
  refine X_aload (j := 4) (show decode cJ7_copyOfRangeByte_39247 16 = .ok (.aload 4, 2) by decide +kernel) rfl ?_
  refine X_iconst (v := 0) (show decode cJ7_copyOfRangeByte_39247 18 = .ok (.iconst 0, 1) by decide +kernel) (by decide) ?_
  refine X_aload_n (j := 0) (show decode cJ7_copyOfRangeByte_39247 19 = .ok (.aload_n 0, 1) by decide +kernel) rfl rfl ?_
  obtain ⟨s6, w⟩ := w
  refine X_alen (v := nI (ln _ _)) (show decode cJ7_copyOfRangeByte_39247 20 = .ok (.arraylength, 1) by decide +kernel) (by decide) (isA_eq s6) rfl ?_
  refine X_iload_n (j := 1) (show decode cJ7_copyOfRangeByte_39247 21 = .ok (.iload_n 1, 1) by decide +kernel) rfl rfl ?_
  refine X_isub (show decode cJ7_copyOfRangeByte_39247 22 = .ok (.isub, 1) by decide +kernel) ?_
  refine X_iload_n (j := 3) (show decode cJ7_copyOfRangeByte_39247 23 = .ok (.iload_n 3, 1) by decide +kernel) rfl rfl ?_
  refine X_mmin (show decode cJ7_copyOfRangeByte_39247 24 = .ok (.invokestatic 304, 3) by decide +kernel) gl_J7_304 gst_min gin_Math gco_min (by decide) (by decide) ?_
  obtain ⟨s7, w⟩ := w
  obtain ⟨s8, w⟩ := w
  obtain ⟨s9, w⟩ := w
  obtain ⟨s10, w⟩ := w
  obtain ⟨s11, w⟩ := w
  obtain ⟨s12, w⟩ := w
  obtain ⟨s13, w⟩ := w
  obtain ⟨s14, w⟩ := w
  refine X_copy (t := 3) (show decode cJ7_copyOfRangeByte_39247 27 = .ok (.invokestatic 150, 3) by decide +kernel) gl_J7_150 gna_copy gst_copy gin_Sys (by decide) (Nat.le_of_ble_eq_true rfl) (by decide) (isA_eq s6) (isA_eq s7) s8 s9 s10 (by decide) s11 s12 s13 s14 ?_
  have w := w _ rfl
  refine X_aload (j := 4) (show decode cJ7_copyOfRangeByte_39247 30 = .ok (.aload 4, 2) by decide +kernel) rfl ?_
  exact X_aret ⟨(show decode cJ7_copyOfRangeByte_39247 32 = .ok (.areturn, 1) by decide +kernel), _, rfl⟩ ⟨_, rfl, w⟩
set_option maxRecDepth 100000 in
set_option maxHeartbeats 4000000 in
theorem kJ7_copyOfRange_39247_J10 {K : Nat → AH → Prop} {T : String → AH → Prop}   (x0 : Nat) (x1 : Int32) (x2 : Int32) (h : AH) (w : wJ7_copyOfRange_39247_J10 K T  x0 x1 x2 h) : X mJ7_copyOfRange_39247 10 (KR K) T 2 262 10 [(0, .ref x0), (1, .int x1), (2, .int x2)] [] h := by
  unfold wJ7_copyOfRange_39247_J10 at w
  refine X_aload_n (j := 0) (show decode cJ7_copyOfRange_39247 10 = .ok (.aload_n 0, 1) by decide +kernel) rfl rfl ?_
  refine X_iload_n (j := 1) (show decode cJ7_copyOfRange_39247 11 = .ok (.iload_n 1, 1) by decide +kernel) rfl rfl ?_
  refine X_iload_n (j := 2) (show decode cJ7_copyOfRange_39247 12 = .ok (.iload_n 2, 1) by decide +kernel) rfl rfl ?_
  refine X_sR (rc' := 0) (rs' := 0) (as := [.ref _, .int _, .int _]) ms_J7_339 (show decode cJ7_copyOfRange_39247 13 = .ok (.invokestatic 339, 3) by decide +kernel) (by decide) (Nat.le_of_ble_eq_true rfl) (Nat.le_of_ble_eq_true rfl) rfl rfl (Nat.le_of_ble_eq_true rfl) (kJ7_copyOfRangeByte_39247 w) (fun E h hk => XT_out hk (fun x hx => absurd hx List.not_mem_nil)) (fun r3 h2 w => ?_)
  exact X_aret ⟨(show decode cJ7_copyOfRange_39247 16 = .ok (.areturn, 1) by decide +kernel), _, rfl⟩ ⟨_, rfl, w⟩
set_option maxRecDepth 100000 in
set_option maxHeartbeats 4000000 in
theorem kJ7_copyOfRange_39247 {a0 : Nat} {a1 : Int32} {a2 : Int32} {h : AH} {K : Nat → AH → Prop} {T : String → AH → Prop} (w : wJ7_copyOfRange_39247 a0 a1 a2 h K T) : Cn mJ7_copyOfRange_39247 (cwd mJ7_copyOfRange_39247) 10 2 262 [.ref a0, .int a1, .int a2] h (KR K) T := by
  refine Cn_of (by decide +kernel) rfl (Nat.le_of_ble_eq_true rfl) ?_
  show X mJ7_copyOfRange_39247 10 (KR K) T 2 262 0 [(0, .ref a0), (1, .int a1), (2, .int a2)] [] h
  unfold wJ7_copyOfRange_39247 at w
  refine X_iload_n (j := 1) (show decode cJ7_copyOfRange_39247 0 = .ok (.iload_n 1, 1) by decide +kernel) rfl rfl ?_
  refine X_if_ne (tgt := 10) (show decode cJ7_copyOfRange_39247 1 = .ok (.ifCond .ne 9, 3) by decide +kernel) (by decide) ⟨fun c1 => ?_, fun c1 => ?_⟩
  · have w := w.1 c1
    exact kJ7_copyOfRange_39247_J10  _ _ _ _ w
  · have w := w.2 c1
    refine X_iload_n (j := 2) (show decode cJ7_copyOfRange_39247 4 = .ok (.iload_n 2, 1) by decide +kernel) rfl rfl ?_
    refine X_aload_n (j := 0) (show decode cJ7_copyOfRange_39247 5 = .ok (.aload_n 0, 1) by decide +kernel) rfl rfl ?_
    obtain ⟨s4, w⟩ := w
    refine X_alen (v := nI (ln _ _)) (show decode cJ7_copyOfRange_39247 6 = .ok (.arraylength, 1) by decide +kernel) (by decide) (isA_eq s4) rfl ?_
    refine X_icmp_eq (tgt := 17) (show decode cJ7_copyOfRange_39247 7 = .ok (.if_icmp .eq 10, 3) by decide +kernel) (by decide) ⟨fun c5 => ?_, fun c5 => ?_⟩
    · have w := w.1 c5
      exact w.elim
    · have w := w.2 c5
      exact kJ7_copyOfRange_39247_J10  _ _ _ _ w
set_option maxRecDepth 100000 in
set_option maxHeartbeats 4000000 in
theorem kJ3_checkFromIndexSize_8c36e_J15 {K : Int32 → AH → Prop}   (x0 : Int32) (x1 : Int32) (x2 : Int32) (x3 : Nat) (h : AH) (w : wJ3_checkFromIndexSize_8c36e_J15 K  x0 x1 x2 x3 h) : X mJ3_checkFromIndexSize_8c36e 2 (KI K) T0 0 0 15 [(0, .int x0), (1, .int x1), (2, .int x2), (3, .ref x3)] [] h := by
  unfold wJ3_checkFromIndexSize_8c36e_J15 at w
  exact w.elim
set_option maxRecDepth 100000 in
set_option maxHeartbeats 4000000 in
theorem kJ3_checkFromIndexSize_8c36e {a0 : Int32} {a1 : Int32} {a2 : Int32} {a3 : Nat} {h : AH} {K : Int32 → AH → Prop} (w : wJ3_checkFromIndexSize_8c36e a0 a1 a2 a3 h K) : Cn mJ3_checkFromIndexSize_8c36e (cwd mJ3_checkFromIndexSize_8c36e) 2 0 0 [.int a0, .int a1, .int a2, .ref a3] h (KI K) T0 := by
  refine Cn_of (by decide +kernel) rfl (Nat.le_of_ble_eq_true rfl) ?_
  show X mJ3_checkFromIndexSize_8c36e 2 (KI K) T0 0 0 0 [(0, .int a0), (1, .int a1), (2, .int a2), (3, .ref a3)] [] h
  unfold wJ3_checkFromIndexSize_8c36e at w
  refine X_iload_n (j := 2) (show decode cJ3_checkFromIndexSize_8c36e 0 = .ok (.iload_n 2, 1) by decide +kernel) rfl rfl ?_
  refine X_iload_n (j := 0) (show decode cJ3_checkFromIndexSize_8c36e 1 = .ok (.iload_n 0, 1) by decide +kernel) rfl rfl ?_
  refine X_ior (show decode cJ3_checkFromIndexSize_8c36e 2 = .ok (.ior, 1) by decide +kernel) ?_
  refine X_iload_n (j := 1) (show decode cJ3_checkFromIndexSize_8c36e 3 = .ok (.iload_n 1, 1) by decide +kernel) rfl rfl ?_
  refine X_ior (show decode cJ3_checkFromIndexSize_8c36e 4 = .ok (.ior, 1) by decide +kernel) ?_
  refine X_if_lt (tgt := 15) (show decode cJ3_checkFromIndexSize_8c36e 5 = .ok (.ifCond .lt 10, 3) by decide +kernel) (by decide) ⟨fun c1 => ?_, fun c1 => ?_⟩
  · have w := w.1 c1
    exact kJ3_checkFromIndexSize_8c36e_J15  _ _ _ _ _ w
  · have w := w.2 c1
    refine X_iload_n (j := 1) (show decode cJ3_checkFromIndexSize_8c36e 8 = .ok (.iload_n 1, 1) by decide +kernel) rfl rfl ?_
    refine X_iload_n (j := 2) (show decode cJ3_checkFromIndexSize_8c36e 9 = .ok (.iload_n 2, 1) by decide +kernel) rfl rfl ?_
    refine X_iload_n (j := 0) (show decode cJ3_checkFromIndexSize_8c36e 10 = .ok (.iload_n 0, 1) by decide +kernel) rfl rfl ?_
    refine X_isub (show decode cJ3_checkFromIndexSize_8c36e 11 = .ok (.isub, 1) by decide +kernel) ?_
    refine X_icmp_le (tgt := 23) (show decode cJ3_checkFromIndexSize_8c36e 12 = .ok (.if_icmp .le 11, 3) by decide +kernel) (by decide) ⟨fun c2 => ?_, fun c2 => ?_⟩
    · have w := w.1 c2
      refine X_iload_n (j := 0) (show decode cJ3_checkFromIndexSize_8c36e 23 = .ok (.iload_n 0, 1) by decide +kernel) rfl rfl ?_
      exact X_iret ⟨(show decode cJ3_checkFromIndexSize_8c36e 24 = .ok (.ireturn, 1) by decide +kernel), .int, rfl, rfl⟩ ⟨_, rfl, w⟩
    · have w := w.2 c2
      exact kJ3_checkFromIndexSize_8c36e_J15  _ _ _ _ _ w
set_option maxRecDepth 100000 in
set_option maxHeartbeats 4000000 in
theorem kJ0_checkBoundsOffCount_cabcc {a0 : Int32} {a1 : Int32} {a2 : Int32} {h : AH} {K : Int32 → AH → Prop} (w : wJ0_checkBoundsOffCount_cabcc a0 a1 a2 h K) : Cn mJ0_checkBoundsOffCount_cabcc (cwd mJ0_checkBoundsOffCount_cabcc) 3 0 0 [.int a0, .int a1, .int a2] h (KI K) T0 := by
  refine Cn_of (by decide +kernel) rfl (Nat.le_of_ble_eq_true rfl) ?_
  show X mJ0_checkBoundsOffCount_cabcc 3 (KI K) T0 0 0 0 [(0, .int a0), (1, .int a1), (2, .int a2)] [] h
  unfold wJ0_checkBoundsOffCount_cabcc at w
  exact w.elim
set_option maxRecDepth 100000 in
set_option maxHeartbeats 4000000 in
theorem kJ2_checkBoundsOffCount_d044e {a0 : Int32} {a1 : Int32} {a2 : Nat} {h : AH} {K : AH → Prop} (w : wJ2_checkBoundsOffCount_d044e a0 a1 a2 h K) : Cn mJ2_checkBoundsOffCount_d044e (cwd mJ2_checkBoundsOffCount_d044e) 4 0 0 [.int a0, .int a1, .ref a2] h (KV K) T0 := by
  refine Cn_of (by decide +kernel) rfl (Nat.le_of_ble_eq_true rfl) ?_
  show X mJ2_checkBoundsOffCount_d044e 4 (KV K) T0 0 0 0 [(0, .int a0), (1, .int a1), (2, .ref a2)] [] h
  unfold wJ2_checkBoundsOffCount_d044e at w
  refine X_iload_n (j := 0) (show decode cJ2_checkBoundsOffCount_d044e 0 = .ok (.iload_n 0, 1) by decide +kernel) rfl rfl ?_
  refine X_iload_n (j := 1) (show decode cJ2_checkBoundsOffCount_d044e 1 = .ok (.iload_n 1, 1) by decide +kernel) rfl rfl ?_
  refine X_aload_n (j := 2) (show decode cJ2_checkBoundsOffCount_d044e 2 = .ok (.aload_n 2, 1) by decide +kernel) rfl rfl ?_
  refine X_sI (rc' := 0) (rs' := 0) (as := [.ref _]) ms_J2_48 (show decode cJ2_checkBoundsOffCount_d044e 3 = .ok (.invokestatic 48, 3) by decide +kernel) (by decide) (Nat.le_of_ble_eq_true rfl) (Nat.le_of_ble_eq_true rfl) rfl rfl (Nat.le_of_ble_eq_true rfl) (kJ2_length_9d52b w) (fun E h hk => hk.elim) (fun r2 h1 w => ?_)
  refine X_sI (rc' := 0) (rs' := 0) (as := [.int _, .int _, .int _]) ms_J2_419 (show decode cJ2_checkBoundsOffCount_d044e 6 = .ok (.invokestatic 419, 3) by decide +kernel) (by decide) (Nat.le_of_ble_eq_true rfl) (Nat.le_of_ble_eq_true rfl) rfl rfl (Nat.le_of_ble_eq_true rfl) (kJ0_checkBoundsOffCount_cabcc w) (fun E h hk => hk.elim) (fun r4 h3 w => ?_)
  refine X_pop (show decode cJ2_checkBoundsOffCount_d044e 9 = .ok (.pop, 1) by decide +kernel) rfl ?_
  exact X_vret ⟨(show decode cJ2_checkBoundsOffCount_d044e 10 = .ok (.return_, 1) by decide +kernel), rfl⟩ ⟨rfl, w⟩
set_option maxRecDepth 100000 in
set_option maxHeartbeats 4000000 in
theorem kJ2_getChar_3b067 {a0 : Nat} {a1 : Int32} {h : AH} {K : Int32 → AH → Prop} (w : wJ2_getChar_3b067 a0 a1 h K) : Cn mJ2_getChar_3b067 (cwd mJ2_getChar_3b067) 2 0 0 [.ref a0, .int a1] h (KI K) T0 := by
  refine Cn_of (by decide +kernel) rfl (Nat.le_of_ble_eq_true rfl) ?_
  show X mJ2_getChar_3b067 2 (KI K) T0 0 0 0 [(0, .ref a0), (1, .int a1)] [] h
  unfold wJ2_getChar_3b067 at w
  exact w.elim
set_option maxRecDepth 100000 in
set_option maxHeartbeats 4000000 in
theorem kJ2_compress_5af95_L10 {K : Int32 → AH → Prop}   {x0 : Nat} {x2 : Nat} {x4 : Int32} : ∀ (n : Nat) (x1 : Int32) (x3 : Int32) (x5 : Int32) (h : AH), wJ2_compress_5af95_L10 K  x0 x2 x4 n x1 x3 x5 h → X mJ2_compress_5af95 5 (KI K) T0 0 0 10 [(0, .ref x0), (1, .int x1), (2, .ref x2), (3, .int x3), (4, .int x4), (5, .int x5)] [] h := by
  intro n
  induction n with
  | zero => intro _ _ _ _ w; exact w.elim
  | succ n ih =>
    intro x1 x3 x5 h w
    rw [wJ2_compress_5af95_L10] at w
    refine X_iload (j := 5) (show decode cJ2_compress_5af95 10 = .ok (.iload 5, 2) by decide +kernel) rfl ?_
    refine X_iload (j := 4) (show decode cJ2_compress_5af95 12 = .ok (.iload 4, 2) by decide +kernel) rfl ?_
    refine X_icmp_ge (tgt := 53) (show decode cJ2_compress_5af95 14 = .ok (.if_icmp .ge 39, 3) by decide +kernel) (by decide) ⟨fun c3 => ?_, fun c3 => ?_⟩
    · have w := w.1 c3
      refine X_iload (j := 4) (show decode cJ2_compress_5af95 53 = .ok (.iload 4, 2) by decide +kernel) rfl ?_
      exact X_iret ⟨(show decode cJ2_compress_5af95 55 = .ok (.ireturn, 1) by decide +kernel), .int, rfl, rfl⟩ ⟨_, rfl, w⟩
    · have w := w.2 c3
      refine X_aload_n (j := 0) (show decode cJ2_compress_5af95 17 = .ok (.aload_n 0, 1) by decide +kernel) rfl rfl ?_
      refine X_iload_n (j := 1) (show decode cJ2_compress_5af95 18 = .ok (.iload_n 1, 1) by decide +kernel) rfl rfl ?_
      refine X_sI (rc' := 0) (rs' := 0) (as := [.ref _, .int _]) ms_J2_71 (show decode cJ2_compress_5af95 19 = .ok (.invokestatic 71, 3) by decide +kernel) (by decide) (Nat.le_of_ble_eq_true rfl) (Nat.le_of_ble_eq_true rfl) rfl rfl (Nat.le_of_ble_eq_true rfl) (kJ2_getChar_3b067 w) (fun E h hk => hk.elim) (fun r5 h4 w => ?_)
      refine X_istore (ls' := [(0, .ref _), (1, .int _), (2, .ref _), (3, .int _), (4, .int _), (5, .int _), (6, .int _)]) (show decode cJ2_compress_5af95 22 = .ok (.istore 6, 2) by decide +kernel) (by decide) rfl ?_
      refine X_iload (j := 6) (show decode cJ2_compress_5af95 24 = .ok (.iload 6, 2) by decide +kernel) rfl ?_
      refine X_sipush (v := 255) (show decode cJ2_compress_5af95 26 = .ok (.sipush 255, 3) by decide +kernel) (by decide) ?_
      refine X_icmp_le (tgt := 35) (show decode cJ2_compress_5af95 29 = .ok (.if_icmp .le 6, 3) by decide +kernel) (by decide) ⟨fun c6 => ?_, fun c6 => ?_⟩
      · have w := w.1 c6
        refine X_aload_n (j := 2) (show decode cJ2_compress_5af95 35 = .ok (.aload_n 2, 1) by decide +kernel) rfl rfl ?_
        refine X_iload_n (j := 3) (show decode cJ2_compress_5af95 36 = .ok (.iload_n 3, 1) by decide +kernel) rfl rfl ?_
        refine X_iload (j := 6) (show decode cJ2_compress_5af95 37 = .ok (.iload 6, 2) by decide +kernel) rfl ?_
        refine X_i2b (show decode cJ2_compress_5af95 39 = .ok (.i2b, 1) by decide +kernel) ?_
        obtain ⟨s7, w⟩ := w
        obtain ⟨s8, w⟩ := w
        obtain ⟨s9, w⟩ := w
        refine X_bast (show decode cJ2_compress_5af95 40 = .ok (.bastore, 1) by decide +kernel) (isA_eq s7) s8 s9 ?_
        have w := w _ rfl
        refine X_iinc (j := 1) (v := _ + 1) (ls' := [(0, .ref _), (1, .int _), (2, .ref _), (3, .int _), (4, .int _), (5, .int _), (6, .int _)]) (show decode cJ2_compress_5af95 41 = .ok (.iinc 1 1, 3) by decide +kernel) rfl rfl (Nat.le_of_ble_eq_true rfl) rfl ?_
        refine X_iinc (j := 3) (v := _ + 1) (ls' := [(0, .ref _), (1, .int _), (2, .ref _), (3, .int _), (4, .int _), (5, .int _), (6, .int _)]) (show decode cJ2_compress_5af95 44 = .ok (.iinc 3 1, 3) by decide +kernel) rfl rfl (Nat.le_of_ble_eq_true rfl) rfl ?_
        refine X_iinc (j := 5) (v := _ + 1) (ls' := [(0, .ref _), (1, .int _), (2, .ref _), (3, .int _), (4, .int _), (5, .int _), (6, .int _)]) (show decode cJ2_compress_5af95 47 = .ok (.iinc 5 1, 3) by decide +kernel) rfl rfl (Nat.le_of_ble_eq_true rfl) rfl ?_
        refine X_goto (tgt := 10) (show decode cJ2_compress_5af95 50 = .ok (.goto (-40), 3) by decide +kernel) (by decide) ?_
        refine X_pick (ls' := [(0, .ref _), (1, .int _), (2, .ref _), (3, .int _), (4, .int _), (5, .int _)]) [0, 1, 2, 3, 4, 5] rfl ?_
        exact ih _ _ _ _ _ _ _ w
      · have w := w.2 c6
        refine X_iload (j := 5) (show decode cJ2_compress_5af95 32 = .ok (.iload 5, 2) by decide +kernel) rfl ?_
        exact X_iret ⟨(show decode cJ2_compress_5af95 34 = .ok (.ireturn, 1) by decide +kernel), .int, rfl, rfl⟩ ⟨_, rfl, w⟩
set_option maxRecDepth 100000 in
set_option maxHeartbeats 4000000 in
theorem kJ2_compress_5af95 {a0 : Nat} {a1 : Int32} {a2 : Nat} {a3 : Int32} {a4 : Int32} {h : AH} {K : Int32 → AH → Prop} (w : wJ2_compress_5af95 a0 a1 a2 a3 a4 h K) : Cn mJ2_compress_5af95 (cwd mJ2_compress_5af95) 5 0 0 [.ref a0, .int a1, .ref a2, .int a3, .int a4] h (KI K) T0 := by
  refine Cn_of (by decide +kernel) rfl (Nat.le_of_ble_eq_true rfl) ?_
  show X mJ2_compress_5af95 5 (KI K) T0 0 0 0 [(0, .ref a0), (1, .int a1), (2, .ref a2), (3, .int a3), (4, .int a4)] [] h
  unfold wJ2_compress_5af95 at w
  refine X_iload_n (j := 1) (show decode cJ2_compress_5af95 0 = .ok (.iload_n 1, 1) by decide +kernel) rfl rfl ?_
  refine X_iload (j := 4) (show decode cJ2_compress_5af95 1 = .ok (.iload 4, 2) by decide +kernel) rfl ?_
  refine X_aload_n (j := 0) (show decode cJ2_compress_5af95 3 = .ok (.aload_n 0, 1) by decide +kernel) rfl rfl ?_
  refine X_sV (rc' := 0) (rs' := 0) (as := [.int _, .int _, .ref _]) ms_J2_173 (show decode cJ2_compress_5af95 4 = .ok (.invokestatic 173, 3) by decide +kernel) (by decide) (Nat.le_of_ble_eq_true rfl) (Nat.le_of_ble_eq_true rfl) rfl rfl (Nat.le_of_ble_eq_true rfl) (kJ2_checkBoundsOffCount_d044e w) (fun E h hk => hk.elim) (fun h1 w => ?_)
  refine X_iconst (v := 0) (show decode cJ2_compress_5af95 7 = .ok (.iconst 0, 1) by decide +kernel) (by decide) ?_
  refine X_istore (ls' := [(0, .ref _), (1, .int _), (2, .ref _), (3, .int _), (4, .int _), (5, .int _)]) (show decode cJ2_compress_5af95 8 = .ok (.istore 5, 2) by decide +kernel) (by decide) rfl ?_
  obtain ⟨n11, w⟩ := w
  exact kJ2_compress_5af95_L10  n11 _ _ _ _ w
set_option maxRecDepth 100000 in
set_option maxHeartbeats 4000000 in
theorem kJ2_compress_39247 {a0 : Nat} {a1 : Int32} {a2 : Int32} {h : AH} {K : Nat → AH → Prop} {T : String → AH → Prop} (w : wJ2_compress_39247 a0 a1 a2 h K T) : Cn mJ2_compress_39247 (cwd mJ2_compress_39247) 11 3 518 [.ref a0, .int a1, .int a2] h (KR K) T := by
  refine Cn_of (by decide +kernel) rfl (Nat.le_of_ble_eq_true rfl) ?_
  show X mJ2_compress_39247 11 (KR K) T 3 518 0 [(0, .ref a0), (1, .int a1), (2, .int a2), (3, .ref (mN h))] [] h
  unfold wJ2_compress_39247 at w
  refine X_iload_n (j := 2) (show decode cJ2_compress_39247 0 = .ok (.iload_n 2, 1) by decide +kernel) rfl rfl ?_
  obtain ⟨s1, w⟩ := w
  obtain ⟨s2, w⟩ := w
  refine X_newa (rc' := 2) (rs' := 262) na_3 (by decide) (show decode cJ2_compress_39247 1 = .ok (.newarray .byte, 2) by decide +kernel) s1 rfl (by have := s2; simp only [ty_, componentBytes]; omega) (Nat.le_of_ble_eq_true rfl) (by omega) ?_
  have w := w _ rfl
  refine X_astore_n (ls' := [(0, .ref _), (1, .int _), (2, .int _), (3, .ref _)]) (show decode cJ2_compress_39247 3 = .ok (.astore_n 3, 1) by decide +kernel) rfl (by decide) rfl ?_
  refine X_aload_n (j := 0) (show decode cJ2_compress_39247 4 = .ok (.aload_n 0, 1) by decide +kernel) rfl rfl ?_
  refine X_iload_n (j := 1) (show decode cJ2_compress_39247 5 = .ok (.iload_n 1, 1) by decide +kernel) rfl rfl ?_
  refine X_aload_n (j := 3) (show decode cJ2_compress_39247 6 = .ok (.aload_n 3, 1) by decide +kernel) rfl rfl ?_
  refine X_iconst (v := 0) (show decode cJ2_compress_39247 7 = .ok (.iconst 0, 1) by decide +kernel) (by decide) ?_
  refine X_iload_n (j := 2) (show decode cJ2_compress_39247 8 = .ok (.iload_n 2, 1) by decide +kernel) rfl rfl ?_
  refine X_sI (rc' := 2) (rs' := 262) (as := [.ref _, .int _, .ref _, .int _, .int _]) ms_J2_123 (show decode cJ2_compress_39247 9 = .ok (.invokestatic 123, 3) by decide +kernel) (by decide) (Nat.le_of_ble_eq_true rfl) (Nat.le_of_ble_eq_true rfl) rfl rfl (Nat.le_of_ble_eq_true rfl) (kJ2_compress_5af95 w) (fun E h hk => hk.elim) (fun r5 h4 w => ?_)
  refine X_istore (ls' := [(0, .ref _), (1, .int _), (2, .int _), (3, .ref _), (4, .int _)]) (show decode cJ2_compress_39247 12 = .ok (.istore 4, 2) by decide +kernel) (by decide) rfl ?_
  refine X_iload (j := 4) (show decode cJ2_compress_39247 14 = .ok (.iload 4, 2) by decide +kernel) rfl ?_
  refine X_iload_n (j := 2) (show decode cJ2_compress_39247 16 = .ok (.iload_n 2, 1) by decide +kernel) rfl rfl ?_
  refine X_icmp_eq (tgt := 64) (show decode cJ2_compress_39247 17 = .ok (.if_icmp .eq 47, 3) by decide +kernel) (by decide) ⟨fun c6 => ?_, fun c6 => ?_⟩
  · have w := w.1 c6
    refine X_aload_n (j := 3) (show decode cJ2_compress_39247 64 = .ok (.aload_n 3, 1) by decide +kernel) rfl rfl ?_
    exact X_aret ⟨(show decode cJ2_compress_39247 65 = .ok (.areturn, 1) by decide +kernel), _, rfl⟩ ⟨_, rfl, w⟩
  · have w := w.2 c6
    exact w.elim
set_option maxRecDepth 100000 in
set_option maxHeartbeats 4000000 in
theorem kJ2_coderFromArrayLen_85cad {a0 : Nat} {a1 : Int32} {h : AH} {K : Int32 → AH → Prop} (w : wJ2_coderFromArrayLen_85cad a0 a1 h K) : Cn mJ2_coderFromArrayLen_85cad (cwd mJ2_coderFromArrayLen_85cad) 1 0 0 [.ref a0, .int a1] h (KI K) T0 := by
  refine Cn_of (by decide +kernel) rfl (Nat.le_of_ble_eq_true rfl) ?_
  show X mJ2_coderFromArrayLen_85cad 1 (KI K) T0 0 0 0 [(0, .ref a0), (1, .int a1)] [] h
  unfold wJ2_coderFromArrayLen_85cad at w
  refine X_iload_n (j := 1) (show decode cJ2_coderFromArrayLen_85cad 0 = .ok (.iload_n 1, 1) by decide +kernel) rfl rfl ?_
  refine X_aload_n (j := 0) (show decode cJ2_coderFromArrayLen_85cad 1 = .ok (.aload_n 0, 1) by decide +kernel) rfl rfl ?_
  obtain ⟨s1, w⟩ := w
  refine X_alen (v := nI (ln _ _)) (show decode cJ2_coderFromArrayLen_85cad 2 = .ok (.arraylength, 1) by decide +kernel) (by decide) (isA_eq s1) rfl ?_
  refine X_isub (show decode cJ2_coderFromArrayLen_85cad 3 = .ok (.isub, 1) by decide +kernel) ?_
  refine X_bipush (v := 31) (show decode cJ2_coderFromArrayLen_85cad 4 = .ok (.bipush 31, 2) by decide +kernel) (by decide) ?_
  refine X_iushr (show decode cJ2_coderFromArrayLen_85cad 6 = .ok (.iushr, 1) by decide +kernel) rfl ?_
  refine X_i2b (show decode cJ2_coderFromArrayLen_85cad 7 = .ok (.i2b, 1) by decide +kernel) ?_
  obtain ⟨s2, w⟩ := w
  exact X_iret ⟨(show decode cJ2_coderFromArrayLen_85cad 8 = .ok (.ireturn, 1) by decide +kernel), .byte, rfl, s2⟩ ⟨_, rfl, w⟩
set_option maxRecDepth 100000 in
set_option maxHeartbeats 4000000 in
theorem kJ0_init_db425_J79 {K : AH → Prop} {T : String → AH → Prop}   (x0 : Nat) (x3 : Nat) (x4 : Int32) (h : AH) (w : wJ0_init_db425_J79 K T  x0 x3 x4 h) : X mJ0_init_db425 12 (KV K) T 2 262 79 [(0, .ref x0), (3, .ref x3), (4, .int x4)] [] h := by
  unfold wJ0_init_db425_J79 at w
  exact w.elim
set_option maxRecDepth 100000 in
set_option maxHeartbeats 4000000 in
theorem kJ0_init_db425 {a0 : Nat} {a1 : Nat} {a2 : Nat} {h : AH} {K : AH → Prop} {T : String → AH → Prop} (w : wJ0_init_db425 a0 a1 a2 h K T) : Cn mJ0_init_db425 (cwd mJ0_init_db425) 12 3 518 [.ref a0, .ref a1, .ref a2] h (KV K) T := by
  refine Cn_of (by decide +kernel) rfl (Nat.le_of_ble_eq_true rfl) ?_
  show X mJ0_init_db425 12 (KV K) T 3 518 0 [(0, .ref a0), (1, .ref a1), (2, .ref a2)] [] h
  unfold wJ0_init_db425 at w
  refine X_aload_n (j := 0) (show decode cJ0_init_db425 0 = .ok (.aload_n 0, 1) by decide +kernel) rfl rfl ?_
  obtain ⟨s1, w⟩ := w
  refine X_objInit (show decode cJ0_init_db425 1 = .ok (.invokespecial 1, 3) by decide +kernel) gl_J0_1 gi_obj gco_obj s1 (by decide) (by decide) ?_
  refine X_aload_n (j := 1) (show decode cJ0_init_db425 4 = .ok (.aload_n 1, 1) by decide +kernel) rfl rfl ?_
  obtain ⟨s15, w⟩ := w
  refine X_vR (rc' := 3) (rs' := 518) (as := []) mv_J0_552_J4 (show decode cJ0_init_db425 5 = .ok (.invokevirtual 552, 3) by decide +kernel) (by decide) (Nat.le_of_ble_eq_true rfl) (Nat.le_of_ble_eq_true rfl) rfl rfl (Nat.le_of_ble_eq_true rfl) (rcvD s15 (by decide) rfl) (kJ5_getValue_6d5f1 w) (fun E h hk => hk.elim) (fun r3 h2 w => ?_)
  exact w.elim
set_option maxRecDepth 100000 in
set_option maxHeartbeats 4000000 in
theorem kJ0_init_81219 {a0 : Nat} {a1 : Nat} {h : AH} {K : AH → Prop} {T : String → AH → Prop} (w : wJ0_init_81219 a0 a1 h K T) : Cn mJ0_init_81219 (cwd mJ0_init_81219) 13 3 518 [.ref a0, .ref a1] h (KV K) T := by
  refine Cn_of (by decide +kernel) rfl (Nat.le_of_ble_eq_true rfl) ?_
  show X mJ0_init_81219 13 (KV K) T 3 518 0 [(0, .ref a0), (1, .ref a1)] [] h
  unfold wJ0_init_81219 at w
  refine X_aload_n (j := 0) (show decode cJ0_init_81219 0 = .ok (.aload_n 0, 1) by decide +kernel) rfl rfl ?_
  refine X_aload_n (j := 1) (show decode cJ0_init_81219 1 = .ok (.aload_n 1, 1) by decide +kernel) rfl rfl ?_
  refine X_aconst_null (show decode cJ0_init_81219 2 = .ok (.aconst_null, 1) by decide +kernel) ?_
  obtain ⟨s3, w⟩ := w
  refine X_iV (rc' := 0) (rs' := 0) (as := [.ref _, .ref _]) mi_J0_489 (show decode cJ0_init_81219 3 = .ok (.invokespecial 489, 3) by decide +kernel) (by decide) (Nat.le_of_ble_eq_true rfl) (Nat.le_of_ble_eq_true rfl) rfl rfl (Nat.le_of_ble_eq_true rfl) s3 (kJ0_init_db425 w) (fun h1 w => ?_)
  exact X_vret ⟨(show decode cJ0_init_81219 6 = .ok (.return_, 1) by decide +kernel), rfl⟩ ⟨rfl, w⟩
set_option maxRecDepth 100000 in
set_option maxHeartbeats 4000000 in
theorem kJ4_toString_0e30d {a0 : Nat} {h : AH} {K : Nat → AH → Prop} {T : String → AH → Prop} (w : wJ4_toString_0e30d a0 h K T) : Cn mJ4_toString_0e30d (cwd mJ4_toString_0e30d) 14 3 518 [.ref a0] h (KR K) T := by
  refine Cn_of (by decide +kernel) rfl (Nat.le_of_ble_eq_true rfl) ?_
  show X mJ4_toString_0e30d 14 (KR K) T 3 518 0 [(0, .ref a0)] [] h
  unfold wJ4_toString_0e30d at w
  exact w.elim
set_option maxRecDepth 100000 in
set_option maxHeartbeats 4000000 in
theorem kJ8_hugeLength_7cf53 {a0 : Int32} {a1 : Int32} {h : AH} {K : Int32 → AH → Prop} {T : String → AH → Prop} (w : wJ8_hugeLength_7cf53 a0 a1 h K T) : Cn mJ8_hugeLength_7cf53 (cwd mJ8_hugeLength_7cf53) 15 4 522 [.int a0, .int a1] h (KI K) T := by
  refine Cn_of (by decide +kernel) rfl (Nat.le_of_ble_eq_true rfl) ?_
  show X mJ8_hugeLength_7cf53 15 (KI K) T 4 522 0 [(0, .int a0), (1, .int a1), (2, .int (a0 + a1))] [] h
  unfold wJ8_hugeLength_7cf53 at w
  refine X_iload_n (j := 0) (show decode cJ8_hugeLength_7cf53 0 = .ok (.iload_n 0, 1) by decide +kernel) rfl rfl ?_
  refine X_iload_n (j := 1) (show decode cJ8_hugeLength_7cf53 1 = .ok (.iload_n 1, 1) by decide +kernel) rfl rfl ?_
  refine X_iadd (show decode cJ8_hugeLength_7cf53 2 = .ok (.iadd, 1) by decide +kernel) ?_
  refine X_istore_n (ls' := [(0, .int _), (1, .int _), (2, .int _)]) (show decode cJ8_hugeLength_7cf53 3 = .ok (.istore_n 2, 1) by decide +kernel) rfl (by decide) rfl ?_
  refine X_iload_n (j := 2) (show decode cJ8_hugeLength_7cf53 4 = .ok (.iload_n 2, 1) by decide +kernel) rfl rfl ?_
  refine X_if_ge (tgt := 49) (show decode cJ8_hugeLength_7cf53 5 = .ok (.ifCond .ge 44, 3) by decide +kernel) (by decide) ⟨fun c1 => ?_, fun c1 => ?_⟩
  · have w := w.1 c1
    refine X_iload_n (j := 2) (show decode cJ8_hugeLength_7cf53 49 = .ok (.iload_n 2, 1) by decide +kernel) rfl rfl ?_
    refine X_ldc (v := 2147483639) (show decode cJ8_hugeLength_7cf53 50 = .ok (.ldc 200, 2) by decide +kernel) gc_J8_200 ?_
    refine X_icmp_gt (tgt := 58) (show decode cJ8_hugeLength_7cf53 52 = .ok (.if_icmp .gt 6, 3) by decide +kernel) (by decide) ⟨fun c2 => ?_, fun c2 => ?_⟩
    · have w := w.1 c2
      refine X_iload_n (j := 2) (show decode cJ8_hugeLength_7cf53 58 = .ok (.iload_n 2, 1) by decide +kernel) rfl rfl ?_
      exact X_iret ⟨(show decode cJ8_hugeLength_7cf53 59 = .ok (.ireturn, 1) by decide +kernel), .int, rfl, rfl⟩ ⟨_, rfl, w⟩
    · have w := w.2 c2
      refine X_ldc (v := 2147483639) (show decode cJ8_hugeLength_7cf53 55 = .ok (.ldc 200, 2) by decide +kernel) gc_J8_200 ?_
      exact X_iret ⟨(show decode cJ8_hugeLength_7cf53 57 = .ok (.ireturn, 1) by decide +kernel), .int, rfl, rfl⟩ ⟨_, rfl, w⟩
  · have w := w.2 c1
    exact w.elim
set_option maxRecDepth 100000 in
set_option maxHeartbeats 4000000 in
theorem kJ8_newLength_cabcc_J21 {K : Int32 → AH → Prop} {T : String → AH → Prop}   (x0 : Int32) (x1 : Int32) (h : AH) (w : wJ8_newLength_cabcc_J21 K T  x0 x1 h) : X mJ8_newLength_cabcc 16 (KI K) T 4 522 21 [(0, .int x0), (1, .int x1)] [] h := by
  unfold wJ8_newLength_cabcc_J21 at w
  refine X_iload_n (j := 0) (show decode cJ8_newLength_cabcc 21 = .ok (.iload_n 0, 1) by decide +kernel) rfl rfl ?_
  refine X_iload_n (j := 1) (show decode cJ8_newLength_cabcc 22 = .ok (.iload_n 1, 1) by decide +kernel) rfl rfl ?_
  refine X_sI (rc' := 0) (rs' := 0) (as := [.int _, .int _]) ms_J8_201 (show decode cJ8_newLength_cabcc 23 = .ok (.invokestatic 201, 3) by decide +kernel) (by decide) (Nat.le_of_ble_eq_true rfl) (Nat.le_of_ble_eq_true rfl) rfl rfl (Nat.le_of_ble_eq_true rfl) (kJ8_hugeLength_7cf53 w) (fun E h hk => XT_out hk (fun x hx => absurd hx List.not_mem_nil)) (fun r3 h2 w => ?_)
  exact X_iret ⟨(show decode cJ8_newLength_cabcc 26 = .ok (.ireturn, 1) by decide +kernel), .int, rfl, rfl⟩ ⟨_, rfl, w⟩
set_option maxRecDepth 100000 in
set_option maxHeartbeats 4000000 in
theorem kJ8_newLength_cabcc {a0 : Int32} {a1 : Int32} {a2 : Int32} {h : AH} {K : Int32 → AH → Prop} {T : String → AH → Prop} (w : wJ8_newLength_cabcc a0 a1 a2 h K T) : Cn mJ8_newLength_cabcc (cwd mJ8_newLength_cabcc) 16 4 522 [.int a0, .int a1, .int a2] h (KI K) T := by
  refine Cn_of (by decide +kernel) rfl (Nat.le_of_ble_eq_true rfl) ?_
  show X mJ8_newLength_cabcc 16 (KI K) T 4 522 0 [(0, .int a0), (1, .int a1), (2, .int a2), (3, .int (a0 + (if a1 < a2 then a2 else a1)))] [] h
  unfold wJ8_newLength_cabcc at w
  refine X_iload_n (j := 0) (show decode cJ8_newLength_cabcc 0 = .ok (.iload_n 0, 1) by decide +kernel) rfl rfl ?_
  refine X_iload_n (j := 1) (show decode cJ8_newLength_cabcc 1 = .ok (.iload_n 1, 1) by decide +kernel) rfl rfl ?_
  refine X_iload_n (j := 2) (show decode cJ8_newLength_cabcc 2 = .ok (.iload_n 2, 1) by decide +kernel) rfl rfl ?_
  refine X_mmax (show decode cJ8_newLength_cabcc 3 = .ok (.invokestatic 194, 3) by decide +kernel) gl_J8_194 gst_max gin_Math gco_max (by decide) (by decide) ?_
  refine X_iadd (show decode cJ8_newLength_cabcc 6 = .ok (.iadd, 1) by decide +kernel) ?_
  refine X_istore_n (ls' := [(0, .int _), (1, .int _), (2, .int _), (3, .int _)]) (show decode cJ8_newLength_cabcc 7 = .ok (.istore_n 3, 1) by decide +kernel) rfl (by decide) rfl ?_
  refine X_iconst (v := 0) (show decode cJ8_newLength_cabcc 8 = .ok (.iconst 0, 1) by decide +kernel) (by decide) ?_
  refine X_iload_n (j := 3) (show decode cJ8_newLength_cabcc 9 = .ok (.iload_n 3, 1) by decide +kernel) rfl rfl ?_
  refine X_icmp_ge (tgt := 21) (show decode cJ8_newLength_cabcc 10 = .ok (.if_icmp .ge 11, 3) by decide +kernel) (by decide) ⟨fun c1 => ?_, fun c1 => ?_⟩
  · have w := w.1 c1
    refine X_pick (ls' := [(0, .int _), (1, .int _)]) [0, 1] rfl ?_
    exact kJ8_newLength_cabcc_J21  _ _ _ w
  · have w := w.2 c1
    refine X_iload_n (j := 3) (show decode cJ8_newLength_cabcc 13 = .ok (.iload_n 3, 1) by decide +kernel) rfl rfl ?_
    refine X_ldc (v := 2147483639) (show decode cJ8_newLength_cabcc 14 = .ok (.ldc 200, 2) by decide +kernel) gc_J8_200 ?_
    refine X_icmp_gt (tgt := 21) (show decode cJ8_newLength_cabcc 16 = .ok (.if_icmp .gt 5, 3) by decide +kernel) (by decide) ⟨fun c4 => ?_, fun c4 => ?_⟩
    · have w := w.1 c4
      refine X_pick (ls' := [(0, .int _), (1, .int _)]) [0, 1] rfl ?_
      exact kJ8_newLength_cabcc_J21  _ _ _ w
    · have w := w.2 c4
      refine X_iload_n (j := 3) (show decode cJ8_newLength_cabcc 19 = .ok (.iload_n 3, 1) by decide +kernel) rfl rfl ?_
      exact X_iret ⟨(show decode cJ8_newLength_cabcc 20 = .ok (.ireturn, 1) by decide +kernel), .int, rfl, rfl⟩ ⟨_, rfl, w⟩
set_option maxRecDepth 100000 in
set_option maxHeartbeats 4000000 in
theorem kJ5_newCapacity_0f7a4 {a0 : Nat} {a1 : Int32} {h : AH} {K : Int32 → AH → Prop} {T : String → AH → Prop} (w : wJ5_newCapacity_0f7a4 a0 a1 h K T) : Cn mJ5_newCapacity_0f7a4 (cwd mJ5_newCapacity_0f7a4) 17 4 522 [.ref a0, .int a1] h (KI K) T := by
  refine Cn_of (by decide +kernel) rfl (Nat.le_of_ble_eq_true rfl) ?_
  show X mJ5_newCapacity_0f7a4 17 (KI K) T 4 522 0 [(0, .ref a0), (1, .int a1), (2, .int (nI (ln h (mR h a0 0)))), (3, .int (a1 <<< (mI h a0 1 &&& 31))), (4, .int v3)] [] h
  unfold wJ5_newCapacity_0f7a4 at w
  refine X_aload_n (j := 0) (show decode cJ5_newCapacity_0f7a4 0 = .ok (.aload_n 0, 1) by decide +kernel) rfl rfl ?_
  obtain ⟨s1, w⟩ := w
  refine X_getR fl_J5_15 (show decode cJ5_newCapacity_0f7a4 1 = .ok (.getfield 15, 3) by decide +kernel) s1 ?_
  obtain ⟨s2, w⟩ := w
  refine X_alen (v := nI (ln _ _)) (show decode cJ5_newCapacity_0f7a4 4 = .ok (.arraylength, 1) by decide +kernel) (by decide) (isA_eq s2) rfl ?_
  refine X_istore_n (ls' := [(0, .ref _), (1, .int _), (2, .int _)]) (show decode cJ5_newCapacity_0f7a4 5 = .ok (.istore_n 2, 1) by decide +kernel) rfl (by decide) rfl ?_
  refine X_iload_n (j := 1) (show decode cJ5_newCapacity_0f7a4 6 = .ok (.iload_n 1, 1) by decide +kernel) rfl rfl ?_
  refine X_aload_n (j := 0) (show decode cJ5_newCapacity_0f7a4 7 = .ok (.aload_n 0, 1) by decide +kernel) rfl rfl ?_
  refine X_getI fl_J5_22 (show decode cJ5_newCapacity_0f7a4 8 = .ok (.getfield 22, 3) by decide +kernel) s1 ?_
  refine X_ishl (show decode cJ5_newCapacity_0f7a4 11 = .ok (.ishl, 1) by decide +kernel) ?_
  refine X_istore_n (ls' := [(0, .ref _), (1, .int _), (2, .int _), (3, .int _)]) (show decode cJ5_newCapacity_0f7a4 12 = .ok (.istore_n 3, 1) by decide +kernel) rfl (by decide) rfl ?_
  refine X_iload_n (j := 3) (show decode cJ5_newCapacity_0f7a4 13 = .ok (.iload_n 3, 1) by decide +kernel) rfl rfl ?_
  refine X_iload_n (j := 2) (show decode cJ5_newCapacity_0f7a4 14 = .ok (.iload_n 2, 1) by decide +kernel) rfl rfl ?_
  refine X_isub (show decode cJ5_newCapacity_0f7a4 15 = .ok (.isub, 1) by decide +kernel) ?_
  refine X_topi (fun v3 e4 => ?_)
  have w := w v3 e4
  refine X_istore (ls' := [(0, .ref _), (1, .int _), (2, .int _), (3, .int _), (4, .int _)]) (show decode cJ5_newCapacity_0f7a4 16 = .ok (.istore 4, 2) by decide +kernel) (by decide) rfl ?_
  refine X_iload_n (j := 2) (show decode cJ5_newCapacity_0f7a4 18 = .ok (.iload_n 2, 1) by decide +kernel) rfl rfl ?_
  refine X_iload (j := 4) (show decode cJ5_newCapacity_0f7a4 19 = .ok (.iload 4, 2) by decide +kernel) rfl ?_
  refine X_iload_n (j := 2) (show decode cJ5_newCapacity_0f7a4 21 = .ok (.iload_n 2, 1) by decide +kernel) rfl rfl ?_
  refine X_iconst (v := 2) (show decode cJ5_newCapacity_0f7a4 22 = .ok (.iconst 2, 1) by decide +kernel) (by decide) ?_
  refine X_aload_n (j := 0) (show decode cJ5_newCapacity_0f7a4 23 = .ok (.aload_n 0, 1) by decide +kernel) rfl rfl ?_
  refine X_getI fl_J5_22 (show decode cJ5_newCapacity_0f7a4 24 = .ok (.getfield 22, 3) by decide +kernel) s1 ?_
  refine X_ishl (show decode cJ5_newCapacity_0f7a4 27 = .ok (.ishl, 1) by decide +kernel) ?_
  refine X_iadd (show decode cJ5_newCapacity_0f7a4 28 = .ok (.iadd, 1) by decide +kernel) ?_
  refine X_sI (rc' := 0) (rs' := 0) (as := [.int _, .int _, .int _]) ms_J5_114 (show decode cJ5_newCapacity_0f7a4 29 = .ok (.invokestatic 114, 3) by decide +kernel) (by decide) (Nat.le_of_ble_eq_true rfl) (Nat.le_of_ble_eq_true rfl) rfl rfl (Nat.le_of_ble_eq_true rfl) (kJ8_newLength_cabcc w) (fun E h hk => XT_out hk (fun x hx => absurd hx List.not_mem_nil)) (fun r6 h5 w => ?_)
  refine X_istore (ls' := [(0, .ref _), (1, .int _), (2, .int _), (3, .int _), (4, .int _), (5, .int _)]) (show decode cJ5_newCapacity_0f7a4 32 = .ok (.istore 5, 2) by decide +kernel) (by decide) rfl ?_
  refine X_iload (j := 5) (show decode cJ5_newCapacity_0f7a4 34 = .ok (.iload 5, 2) by decide +kernel) rfl ?_
  refine X_ldc (v := 2147483647) (show decode cJ5_newCapacity_0f7a4 36 = .ok (.ldc 39, 2) by decide +kernel) gc_J5_39 ?_
  refine X_icmp_ne (tgt := 51) (show decode cJ5_newCapacity_0f7a4 38 = .ok (.if_icmp .ne 13, 3) by decide +kernel) (by decide) ⟨fun c7 => ?_, fun c7 => ?_⟩
  · have w := w.1 c7
    refine X_iload (j := 5) (show decode cJ5_newCapacity_0f7a4 51 = .ok (.iload 5, 2) by decide +kernel) rfl ?_
    refine X_aload_n (j := 0) (show decode cJ5_newCapacity_0f7a4 53 = .ok (.aload_n 0, 1) by decide +kernel) rfl rfl ?_
    obtain ⟨s8, w⟩ := w
    refine X_getI fl_J5_22 (show decode cJ5_newCapacity_0f7a4 54 = .ok (.getfield 22, 3) by decide +kernel) s8 ?_
    refine X_ishr (show decode cJ5_newCapacity_0f7a4 57 = .ok (.ishr, 1) by decide +kernel) ?_
    exact X_iret ⟨(show decode cJ5_newCapacity_0f7a4 58 = .ok (.ireturn, 1) by decide +kernel), .int, rfl, rfl⟩ ⟨_, rfl, w⟩
  · have w := w.2 c7
    exact w.elim
set_option maxRecDepth 100000 in
set_option maxHeartbeats 4000000 in
theorem kJ7_copyOf_9075b {a0 : Nat} {a1 : Int32} {h : AH} {K : Nat → AH → Prop} (w : wJ7_copyOf_9075b a0 a1 h K) : Cn mJ7_copyOf_9075b (cwd mJ7_copyOf_9075b) 2 1 256 [.ref a0, .int a1] h (KR K) T0 := by
  refine Cn_of (by decide +kernel) rfl (Nat.le_of_ble_eq_true rfl) ?_
  show X mJ7_copyOf_9075b 2 (KR K) T0 1 256 0 [(0, .ref a0), (1, .int a1)] [] h
  unfold wJ7_copyOf_9075b at w
  refine X_iload_n (j := 1) (show decode cJ7_copyOf_9075b 0 = .ok (.iload_n 1, 1) by decide +kernel) rfl rfl ?_
  refine X_aload_n (j := 0) (show decode cJ7_copyOf_9075b 1 = .ok (.aload_n 0, 1) by decide +kernel) rfl rfl ?_
  obtain ⟨s1, w⟩ := w
  refine X_alen (v := nI (ln _ _)) (show decode cJ7_copyOf_9075b 2 = .ok (.arraylength, 1) by decide +kernel) (by decide) (isA_eq s1) rfl ?_
  refine X_icmp_ne (tgt := 14) (show decode cJ7_copyOf_9075b 3 = .ok (.if_icmp .ne 11, 3) by decide +kernel) (by decide) ⟨fun c2 => ?_, fun c2 => ?_⟩
  · have w := w.1 c2
    refine X_iload_n (j := 1) (show decode cJ7_copyOf_9075b 14 = .ok (.iload_n 1, 1) by decide +kernel) rfl rfl ?_
    obtain ⟨s3, w⟩ := w
    obtain ⟨s4, w⟩ := w
    refine X_newa (rc' := 0) (rs' := 0) na_3 (by decide) (show decode cJ7_copyOf_9075b 15 = .ok (.newarray .byte, 2) by decide +kernel) s3 rfl (by have := s4; simp only [ty_, componentBytes]; omega) (Nat.le_of_ble_eq_true rfl) (by omega) ?_
    have w := w _ rfl
    refine X_astore_n (ls' := [(0, .ref _), (1, .int _), (2, .ref _)]) (show decode cJ7_copyOf_9075b 17 = .ok (.astore_n 2, 1) by decide +kernel) rfl (by decide) rfl ?_
    refine X_aload_n (j := 0) (show decode cJ7_copyOf_9075b 18 = .ok (.aload_n 0, 1) by decide +kernel) rfl rfl ?_
    refine X_iconst (v := 0) (show decode cJ7_copyOf_9075b 19 = .ok (.iconst 0, 1) by decide +kernel) (by decide) ?_
    refine X_aload_n (j := 2) (show decode cJ7_copyOf_9075b 20 = .ok (.aload_n 2, 1) by decide +kernel) rfl rfl ?_
    refine X_iconst (v := 0) (show decode cJ7_copyOf_9075b 21 = .ok (.iconst 0, 1) by decide +kernel) (by decide) ?_
    refine X_aload_n (j := 0) (show decode cJ7_copyOf_9075b 22 = .ok (.aload_n 0, 1) by decide +kernel) rfl rfl ?_
    obtain ⟨s6, w⟩ := w
    refine X_alen (v := nI (ln _ _)) (show decode cJ7_copyOf_9075b 23 = .ok (.arraylength, 1) by decide +kernel) (by decide) (isA_eq s6) rfl ?_
    refine X_iload_n (j := 1) (show decode cJ7_copyOf_9075b 24 = .ok (.iload_n 1, 1) by decide +kernel) rfl rfl ?_
    refine X_mmin (show decode cJ7_copyOf_9075b 25 = .ok (.invokestatic 304, 3) by decide +kernel) gl_J7_304 gst_min gin_Math gco_min (by decide) (by decide) ?_
    obtain ⟨s7, w⟩ := w
    obtain ⟨s8, w⟩ := w
    obtain ⟨s9, w⟩ := w
    obtain ⟨s10, w⟩ := w
    obtain ⟨s11, w⟩ := w
    obtain ⟨s12, w⟩ := w
    obtain ⟨s13, w⟩ := w
    refine X_copy (t := 3) (show decode cJ7_copyOf_9075b 28 = .ok (.invokestatic 150, 3) by decide +kernel) gl_J7_150 gna_copy gst_copy gin_Sys (by decide) (Nat.le_of_ble_eq_true rfl) (by decide) (isA_eq s6) (isA_eq s7) s8 s9 (by decide) (by decide) s10 s11 s12 s13 ?_
    have w := w _ rfl
    refine X_aload_n (j := 2) (show decode cJ7_copyOf_9075b 31 = .ok (.aload_n 2, 1) by decide +kernel) rfl rfl ?_
    exact X_aret ⟨(show decode cJ7_copyOf_9075b 32 = .ok (.areturn, 1) by decide +kernel), _, rfl⟩ ⟨_, rfl, w⟩
  · have w := w.2 c2
    exact w.elim
set_option maxRecDepth 100000 in
set_option maxHeartbeats 4000000 in
theorem kJ5_ensureCapacityInternal_d00df {a0 : Nat} {a1 : Int32} {h : AH} {K : AH → Prop} {T : String → AH → Prop} (w : wJ5_ensureCapacityInternal_d00df a0 a1 h K T) : Cn mJ5_ensureCapacityInternal_d00df (cwd mJ5_ensureCapacityInternal_d00df) 18 5 778 [.ref a0, .int a1] h (KV K) T := by
  refine Cn_of (by decide +kernel) rfl (Nat.le_of_ble_eq_true rfl) ?_
  show X mJ5_ensureCapacityInternal_d00df 18 (KV K) T 5 778 0 [(0, .ref a0), (1, .int a1), (2, .int v3)] [] h
  unfold wJ5_ensureCapacityInternal_d00df at w
  refine X_aload_n (j := 0) (show decode cJ5_ensureCapacityInternal_d00df 0 = .ok (.aload_n 0, 1) by decide +kernel) rfl rfl ?_
  obtain ⟨s1, w⟩ := w
  refine X_getR fl_J5_15 (show decode cJ5_ensureCapacityInternal_d00df 1 = .ok (.getfield 15, 3) by decide +kernel) s1 ?_
  obtain ⟨s2, w⟩ := w
  refine X_alen (v := nI (ln _ _)) (show decode cJ5_ensureCapacityInternal_d00df 4 = .ok (.arraylength, 1) by decide +kernel) (by decide) (isA_eq s2) rfl ?_
  refine X_aload_n (j := 0) (show decode cJ5_ensureCapacityInternal_d00df 5 = .ok (.aload_n 0, 1) by decide +kernel) rfl rfl ?_
  refine X_getI fl_J5_22 (show decode cJ5_ensureCapacityInternal_d00df 6 = .ok (.getfield 22, 3) by decide +kernel) s1 ?_
  refine X_ishr (show decode cJ5_ensureCapacityInternal_d00df 9 = .ok (.ishr, 1) by decide +kernel) ?_
  refine X_topi (fun v3 e4 => ?_)
  have w := w v3 e4
  refine X_istore_n (ls' := [(0, .ref _), (1, .int _), (2, .int _)]) (show decode cJ5_ensureCapacityInternal_d00df 10 = .ok (.istore_n 2, 1) by decide +kernel) rfl (by decide) rfl ?_
  refine X_iload_n (j := 1) (show decode cJ5_ensureCapacityInternal_d00df 11 = .ok (.iload_n 1, 1) by decide +kernel) rfl rfl ?_
  refine X_iload_n (j := 2) (show decode cJ5_ensureCapacityInternal_d00df 12 = .ok (.iload_n 2, 1) by decide +kernel) rfl rfl ?_
  refine X_isub (show decode cJ5_ensureCapacityInternal_d00df 13 = .ok (.isub, 1) by decide +kernel) ?_
  refine X_if_le (tgt := 38) (show decode cJ5_ensureCapacityInternal_d00df 14 = .ok (.ifCond .le 24, 3) by decide +kernel) (by decide) ⟨fun c5 => ?_, fun c5 => ?_⟩
  · have w := w.1 c5
    exact X_vret ⟨(show decode cJ5_ensureCapacityInternal_d00df 38 = .ok (.return_, 1) by decide +kernel), rfl⟩ ⟨rfl, w⟩
  · have w := w.2 c5
    refine X_aload_n (j := 0) (show decode cJ5_ensureCapacityInternal_d00df 17 = .ok (.aload_n 0, 1) by decide +kernel) rfl rfl ?_
    refine X_aload_n (j := 0) (show decode cJ5_ensureCapacityInternal_d00df 18 = .ok (.aload_n 0, 1) by decide +kernel) rfl rfl ?_
    refine X_getR fl_J5_15 (show decode cJ5_ensureCapacityInternal_d00df 19 = .ok (.getfield 15, 3) by decide +kernel) s1 ?_
    refine X_aload_n (j := 0) (show decode cJ5_ensureCapacityInternal_d00df 22 = .ok (.aload_n 0, 1) by decide +kernel) rfl rfl ?_
    refine X_iload_n (j := 1) (show decode cJ5_ensureCapacityInternal_d00df 23 = .ok (.iload_n 1, 1) by decide +kernel) rfl rfl ?_
    refine X_vI (rc' := 1) (rs' := 256) (as := [.int _]) mv_J5_104_J4 (show decode cJ5_ensureCapacityInternal_d00df 24 = .ok (.invokevirtual 104, 3) by decide +kernel) (by decide) (Nat.le_of_ble_eq_true rfl) (Nat.le_of_ble_eq_true rfl) rfl rfl (Nat.le_of_ble_eq_true rfl) (rcvD s1 (by decide) rfl) (kJ5_newCapacity_0f7a4 w) (fun E h hk => XT_out hk (fun x hx => absurd hx List.not_mem_nil)) (fun r7 h6 w => ?_)
    refine X_aload_n (j := 0) (show decode cJ5_ensureCapacityInternal_d00df 27 = .ok (.aload_n 0, 1) by decide +kernel) rfl rfl ?_
    obtain ⟨s8, w⟩ := w
    refine X_getI fl_J5_22 (show decode cJ5_ensureCapacityInternal_d00df 28 = .ok (.getfield 22, 3) by decide +kernel) s8 ?_
    refine X_ishl (show decode cJ5_ensureCapacityInternal_d00df 31 = .ok (.ishl, 1) by decide +kernel) ?_
    refine X_sR (rc' := 0) (rs' := 0) (as := [.ref _, .int _]) ms_J5_108 (show decode cJ5_ensureCapacityInternal_d00df 32 = .ok (.invokestatic 108, 3) by decide +kernel) (by decide) (Nat.le_of_ble_eq_true rfl) (Nat.le_of_ble_eq_true rfl) rfl rfl (Nat.le_of_ble_eq_true rfl) (kJ7_copyOf_9075b w) (fun E h hk => hk.elim) (fun r10 h9 w => ?_)
    obtain ⟨s11, w⟩ := w
    refine X_putR fp_J5_15 (show decode cJ5_ensureCapacityInternal_d00df 35 = .ok (.putfield 15, 3) by decide +kernel) (fun z => nomatch z) (by first | exact Or.inl ⟨_, rfl⟩ | exact Or.inr ⟨_, rfl⟩) s11 ?_
    have w := w _ rfl
    exact X_vret ⟨(show decode cJ5_ensureCapacityInternal_d00df 38 = .ok (.return_, 1) by decide +kernel), rfl⟩ ⟨rfl, w⟩
set_option maxRecDepth 100000 in
set_option maxHeartbeats 4000000 in
theorem kJ2_putCharsAt_cd4e5 {a0 : Nat} {a1 : Int32} {a2 : Int32} {a3 : Int32} {a4 : Int32} {a5 : Int32} {h : AH} {K : Int32 → AH → Prop} (w : wJ2_putCharsAt_cd4e5 a0 a1 a2 a3 a4 a5 h K) : Cn mJ2_putCharsAt_cd4e5 (cwd mJ2_putCharsAt_cd4e5) 5 0 0 [.ref a0, .int a1, .int a2, .int a3, .int a4, .int a5] h (KI K) T0 := by
  refine Cn_of (by decide +kernel) rfl (Nat.le_of_ble_eq_true rfl) ?_
  show X mJ2_putCharsAt_cd4e5 5 (KI K) T0 0 0 0 [(0, .ref a0), (1, .int a1), (2, .int a2), (3, .int a3), (4, .int a4), (5, .int a5), (6, .int (a1 + 4))] [] h
  unfold wJ2_putCharsAt_cd4e5 at w
  refine X_iload_n (j := 1) (show decode cJ2_putCharsAt_cd4e5 0 = .ok (.iload_n 1, 1) by decide +kernel) rfl rfl ?_
  refine X_iconst (v := 4) (show decode cJ2_putCharsAt_cd4e5 1 = .ok (.iconst 4, 1) by decide +kernel) (by decide) ?_
  refine X_iadd (show decode cJ2_putCharsAt_cd4e5 2 = .ok (.iadd, 1) by decide +kernel) ?_
  refine X_istore (ls' := [(0, .ref _), (1, .int _), (2, .int _), (3, .int _), (4, .int _), (5, .int _), (6, .int _)]) (show decode cJ2_putCharsAt_cd4e5 3 = .ok (.istore 6, 2) by decide +kernel) (by decide) rfl ?_
  refine X_iload_n (j := 1) (show decode cJ2_putCharsAt_cd4e5 5 = .ok (.iload_n 1, 1) by decide +kernel) rfl rfl ?_
  refine X_iload (j := 6) (show decode cJ2_putCharsAt_cd4e5 6 = .ok (.iload 6, 2) by decide +kernel) rfl ?_
  refine X_aload_n (j := 0) (show decode cJ2_putCharsAt_cd4e5 8 = .ok (.aload_n 0, 1) by decide +kernel) rfl rfl ?_
  refine X_sV (rc' := 0) (rs' := 0) (as := [.int _, .int _, .ref _]) ms_J2_96 (show decode cJ2_putCharsAt_cd4e5 9 = .ok (.invokestatic 96, 3) by decide +kernel) (by decide) (Nat.le_of_ble_eq_true rfl) (Nat.le_of_ble_eq_true rfl) rfl rfl (Nat.le_of_ble_eq_true rfl) (kJ2_checkBoundsBeginEnd_d044e w) (fun E h hk => hk.elim) (fun h1 w => ?_)
  refine X_aload_n (j := 0) (show decode cJ2_putCharsAt_cd4e5 12 = .ok (.aload_n 0, 1) by decide +kernel) rfl rfl ?_
  refine X_iload_n (j := 1) (show decode cJ2_putCharsAt_cd4e5 13 = .ok (.iload_n 1, 1) by decide +kernel) rfl rfl ?_
  refine X_iinc (j := 1) (v := _ + 1) (ls' := [(0, .ref _), (1, .int _), (2, .int _), (3, .int _), (4, .int _), (5, .int _), (6, .int _)]) (show decode cJ2_putCharsAt_cd4e5 14 = .ok (.iinc 1 1, 3) by decide +kernel) rfl rfl (Nat.le_of_ble_eq_true rfl) rfl ?_
  refine X_iload_n (j := 2) (show decode cJ2_putCharsAt_cd4e5 17 = .ok (.iload_n 2, 1) by decide +kernel) rfl rfl ?_
  refine X_sV (rc' := 0) (rs' := 0) (as := [.ref _, .int _, .int _]) ms_J2_111 (show decode cJ2_putCharsAt_cd4e5 18 = .ok (.invokestatic 111, 3) by decide +kernel) (by decide) (Nat.le_of_ble_eq_true rfl) (Nat.le_of_ble_eq_true rfl) rfl rfl (Nat.le_of_ble_eq_true rfl) (kJ2_putChar_b72d1 w) (fun E h hk => hk.elim) (fun h3 w => ?_)
  refine X_aload_n (j := 0) (show decode cJ2_putCharsAt_cd4e5 21 = .ok (.aload_n 0, 1) by decide +kernel) rfl rfl ?_
  refine X_iload_n (j := 1) (show decode cJ2_putCharsAt_cd4e5 22 = .ok (.iload_n 1, 1) by decide +kernel) rfl rfl ?_
  refine X_iinc (j := 1) (v := _ + 1) (ls' := [(0, .ref _), (1, .int _), (2, .int _), (3, .int _), (4, .int _), (5, .int _), (6, .int _)]) (show decode cJ2_putCharsAt_cd4e5 23 = .ok (.iinc 1 1, 3) by decide +kernel) rfl rfl (Nat.le_of_ble_eq_true rfl) rfl ?_
  refine X_iload_n (j := 3) (show decode cJ2_putCharsAt_cd4e5 26 = .ok (.iload_n 3, 1) by decide +kernel) rfl rfl ?_
  refine X_sV (rc' := 0) (rs' := 0) (as := [.ref _, .int _, .int _]) ms_J2_111 (show decode cJ2_putCharsAt_cd4e5 27 = .ok (.invokestatic 111, 3) by decide +kernel) (by decide) (Nat.le_of_ble_eq_true rfl) (Nat.le_of_ble_eq_true rfl) rfl rfl (Nat.le_of_ble_eq_true rfl) (kJ2_putChar_b72d1 w) (fun E h hk => hk.elim) (fun h5 w => ?_)
  refine X_aload_n (j := 0) (show decode cJ2_putCharsAt_cd4e5 30 = .ok (.aload_n 0, 1) by decide +kernel) rfl rfl ?_
  refine X_iload_n (j := 1) (show decode cJ2_putCharsAt_cd4e5 31 = .ok (.iload_n 1, 1) by decide +kernel) rfl rfl ?_
  refine X_iinc (j := 1) (v := _ + 1) (ls' := [(0, .ref _), (1, .int _), (2, .int _), (3, .int _), (4, .int _), (5, .int _), (6, .int _)]) (show decode cJ2_putCharsAt_cd4e5 32 = .ok (.iinc 1 1, 3) by decide +kernel) rfl rfl (Nat.le_of_ble_eq_true rfl) rfl ?_
  refine X_iload (j := 4) (show decode cJ2_putCharsAt_cd4e5 35 = .ok (.iload 4, 2) by decide +kernel) rfl ?_
  refine X_sV (rc' := 0) (rs' := 0) (as := [.ref _, .int _, .int _]) ms_J2_111 (show decode cJ2_putCharsAt_cd4e5 37 = .ok (.invokestatic 111, 3) by decide +kernel) (by decide) (Nat.le_of_ble_eq_true rfl) (Nat.le_of_ble_eq_true rfl) rfl rfl (Nat.le_of_ble_eq_true rfl) (kJ2_putChar_b72d1 w) (fun E h hk => hk.elim) (fun h7 w => ?_)
  refine X_aload_n (j := 0) (show decode cJ2_putCharsAt_cd4e5 40 = .ok (.aload_n 0, 1) by decide +kernel) rfl rfl ?_
  refine X_iload_n (j := 1) (show decode cJ2_putCharsAt_cd4e5 41 = .ok (.iload_n 1, 1) by decide +kernel) rfl rfl ?_
  refine X_iinc (j := 1) (v := _ + 1) (ls' := [(0, .ref _), (1, .int _), (2, .int _), (3, .int _), (4, .int _), (5, .int _), (6, .int _)]) (show decode cJ2_putCharsAt_cd4e5 42 = .ok (.iinc 1 1, 3) by decide +kernel) rfl rfl (Nat.le_of_ble_eq_true rfl) rfl ?_
  refine X_iload (j := 5) (show decode cJ2_putCharsAt_cd4e5 45 = .ok (.iload 5, 2) by decide +kernel) rfl ?_
  refine X_sV (rc' := 0) (rs' := 0) (as := [.ref _, .int _, .int _]) ms_J2_111 (show decode cJ2_putCharsAt_cd4e5 47 = .ok (.invokestatic 111, 3) by decide +kernel) (by decide) (Nat.le_of_ble_eq_true rfl) (Nat.le_of_ble_eq_true rfl) rfl rfl (Nat.le_of_ble_eq_true rfl) (kJ2_putChar_b72d1 w) (fun E h hk => hk.elim) (fun h9 w => ?_)
  exact w.elim
set_option maxRecDepth 100000 in
set_option maxHeartbeats 4000000 in
theorem kJ5_appendNull_278bc_J76 {K : Nat → AH → Prop} {T : String → AH → Prop}   (x0 : Nat) (x1 : Int32) (h : AH) (w : wJ5_appendNull_278bc_J76 K T  x0 x1 h) : X mJ5_appendNull_278bc 19 (KR K) T 0 0 76 [(0, .ref x0), (1, .int x1)] [] h := by
  unfold wJ5_appendNull_278bc_J76 at w
  refine X_aload_n (j := 0) (show decode cJ5_appendNull_278bc 76 = .ok (.aload_n 0, 1) by decide +kernel) rfl rfl ?_
  refine X_iload_n (j := 1) (show decode cJ5_appendNull_278bc 77 = .ok (.iload_n 1, 1) by decide +kernel) rfl rfl ?_
  obtain ⟨s10, w⟩ := w
  refine X_putI fp_J5_79 (show decode cJ5_appendNull_278bc 78 = .ok (.putfield 79, 3) by decide +kernel) (fun z => nomatch z) s10 rfl rfl ?_
  have w := w _ rfl
  refine X_aload_n (j := 0) (show decode cJ5_appendNull_278bc 81 = .ok (.aload_n 0, 1) by decide +kernel) rfl rfl ?_
  exact X_aret ⟨(show decode cJ5_appendNull_278bc 82 = .ok (.areturn, 1) by decide +kernel), _, rfl⟩ ⟨_, rfl, w⟩
set_option maxRecDepth 100000 in
set_option maxHeartbeats 4000000 in
theorem kJ5_appendNull_278bc {a0 : Nat} {h : AH} {K : Nat → AH → Prop} {T : String → AH → Prop} (w : wJ5_appendNull_278bc a0 h K T) : Cn mJ5_appendNull_278bc (cwd mJ5_appendNull_278bc) 19 5 778 [.ref a0] h (KR K) T := by
  refine Cn_of (by decide +kernel) rfl (Nat.le_of_ble_eq_true rfl) ?_
  show X mJ5_appendNull_278bc 19 (KR K) T 5 778 0 [(0, .ref a0)] [] h
  unfold wJ5_appendNull_278bc at w
  refine X_aload_n (j := 0) (show decode cJ5_appendNull_278bc 0 = .ok (.aload_n 0, 1) by decide +kernel) rfl rfl ?_
  refine X_aload_n (j := 0) (show decode cJ5_appendNull_278bc 1 = .ok (.aload_n 0, 1) by decide +kernel) rfl rfl ?_
  obtain ⟨s1, w⟩ := w
  refine X_getI fl_J5_79 (show decode cJ5_appendNull_278bc 2 = .ok (.getfield 79, 3) by decide +kernel) s1 ?_
  refine X_iconst (v := 4) (show decode cJ5_appendNull_278bc 5 = .ok (.iconst 4, 1) by decide +kernel) (by decide) ?_
  refine X_iadd (show decode cJ5_appendNull_278bc 6 = .ok (.iadd, 1) by decide +kernel) ?_
  refine X_vV (rc' := 0) (rs' := 0) (as := [.int _]) mv_J5_100_J4 (show decode cJ5_appendNull_278bc 7 = .ok (.invokevirtual 100, 3) by decide +kernel) (by decide) (Nat.le_of_ble_eq_true rfl) (Nat.le_of_ble_eq_true rfl) rfl rfl (Nat.le_of_ble_eq_true rfl) (rcvD s1 (by decide) rfl) (kJ5_ensureCapacityInternal_d00df w) (fun E h hk => XT_out hk (fun x hx => absurd hx List.not_mem_nil)) (fun h2 w => ?_)
  refine X_aload_n (j := 0) (show decode cJ5_appendNull_278bc 10 = .ok (.aload_n 0, 1) by decide +kernel) rfl rfl ?_
  obtain ⟨s4, w⟩ := w
  refine X_getI fl_J5_79 (show decode cJ5_appendNull_278bc 11 = .ok (.getfield 79, 3) by decide +kernel) s4 ?_
  refine X_istore_n (ls' := [(0, .ref _), (1, .int _)]) (show decode cJ5_appendNull_278bc 14 = .ok (.istore_n 1, 1) by decide +kernel) rfl (by decide) rfl ?_
  refine X_aload_n (j := 0) (show decode cJ5_appendNull_278bc 15 = .ok (.aload_n 0, 1) by decide +kernel) rfl rfl ?_
  refine X_getR fl_J5_15 (show decode cJ5_appendNull_278bc 16 = .ok (.getfield 15, 3) by decide +kernel) s4 ?_
  refine X_astore_n (ls' := [(0, .ref _), (1, .int _), (2, .ref _)]) (show decode cJ5_appendNull_278bc 19 = .ok (.astore_n 2, 1) by decide +kernel) rfl (by decide) rfl ?_
  refine X_aload_n (j := 0) (show decode cJ5_appendNull_278bc 20 = .ok (.aload_n 0, 1) by decide +kernel) rfl rfl ?_
  refine X_vI (rc' := 0) (rs' := 0) (as := []) mv_J5_83_J4 (show decode cJ5_appendNull_278bc 21 = .ok (.invokevirtual 83, 3) by decide +kernel) (by decide) (Nat.le_of_ble_eq_true rfl) (Nat.le_of_ble_eq_true rfl) rfl rfl (Nat.le_of_ble_eq_true rfl) (rcvD s4 (by decide) rfl) (kJ5_isLatin1_aae02 w) (fun E h hk => hk.elim) (fun r6 h5 w => ?_)
  refine X_if_eq (tgt := 62) (show decode cJ5_appendNull_278bc 24 = .ok (.ifCond .eq 38, 3) by decide +kernel) (by decide) ⟨fun c7 => ?_, fun c7 => ?_⟩
  · have w := w.1 c7
    refine X_aload_n (j := 2) (show decode cJ5_appendNull_278bc 62 = .ok (.aload_n 2, 1) by decide +kernel) rfl rfl ?_
    refine X_iload_n (j := 1) (show decode cJ5_appendNull_278bc 63 = .ok (.iload_n 1, 1) by decide +kernel) rfl rfl ?_
    refine X_bipush (v := 110) (show decode cJ5_appendNull_278bc 64 = .ok (.bipush 110, 2) by decide +kernel) (by decide) ?_
    refine X_bipush (v := 117) (show decode cJ5_appendNull_278bc 66 = .ok (.bipush 117, 2) by decide +kernel) (by decide) ?_
    refine X_bipush (v := 108) (show decode cJ5_appendNull_278bc 68 = .ok (.bipush 108, 2) by decide +kernel) (by decide) ?_
    refine X_bipush (v := 108) (show decode cJ5_appendNull_278bc 70 = .ok (.bipush 108, 2) by decide +kernel) (by decide) ?_
    refine X_sI (rc' := 0) (rs' := 0) (as := [.ref _, .int _, .int _, .int _, .int _, .int _]) ms_J5_226 (show decode cJ5_appendNull_278bc 72 = .ok (.invokestatic 226, 3) by decide +kernel) (by decide) (Nat.le_of_ble_eq_true rfl) (Nat.le_of_ble_eq_true rfl) rfl rfl (Nat.le_of_ble_eq_true rfl) (kJ2_putCharsAt_cd4e5 w) (fun E h hk => hk.elim) (fun r9 h8 w => ?_)
    refine X_istore_n (ls' := [(0, .ref _), (1, .int _), (2, .ref _)]) (show decode cJ5_appendNull_278bc 75 = .ok (.istore_n 1, 1) by decide +kernel) rfl (by decide) rfl ?_
    refine X_pick (ls' := [(0, .ref _), (1, .int _)]) [0, 1] rfl ?_
    exact kJ5_appendNull_278bc_J76  _ _ _ w
  · have w := w.2 c7
    refine X_aload_n (j := 2) (show decode cJ5_appendNull_278bc 27 = .ok (.aload_n 2, 1) by decide +kernel) rfl rfl ?_
    refine X_iload_n (j := 1) (show decode cJ5_appendNull_278bc 28 = .ok (.iload_n 1, 1) by decide +kernel) rfl rfl ?_
    refine X_iinc (j := 1) (v := _ + 1) (ls' := [(0, .ref _), (1, .int _), (2, .ref _)]) (show decode cJ5_appendNull_278bc 29 = .ok (.iinc 1 1, 3) by decide +kernel) rfl rfl (Nat.le_of_ble_eq_true rfl) rfl ?_
    refine X_bipush (v := 110) (show decode cJ5_appendNull_278bc 32 = .ok (.bipush 110, 2) by decide +kernel) (by decide) ?_
    obtain ⟨s12, w⟩ := w
    obtain ⟨s13, w⟩ := w
    obtain ⟨s14, w⟩ := w
    refine X_bast (show decode cJ5_appendNull_278bc 34 = .ok (.bastore, 1) by decide +kernel) (isA_eq s12) s13 s14 ?_
    have w := w _ rfl
    refine X_aload_n (j := 2) (show decode cJ5_appendNull_278bc 35 = .ok (.aload_n 2, 1) by decide +kernel) rfl rfl ?_
    refine X_iload_n (j := 1) (show decode cJ5_appendNull_278bc 36 = .ok (.iload_n 1, 1) by decide +kernel) rfl rfl ?_
    refine X_iinc (j := 1) (v := _ + 1) (ls' := [(0, .ref _), (1, .int _), (2, .ref _)]) (show decode cJ5_appendNull_278bc 37 = .ok (.iinc 1 1, 3) by decide +kernel) rfl rfl (Nat.le_of_ble_eq_true rfl) rfl ?_
    refine X_bipush (v := 117) (show decode cJ5_appendNull_278bc 40 = .ok (.bipush 117, 2) by decide +kernel) (by decide) ?_
    obtain ⟨s16, w⟩ := w
    refine X_bast (show decode cJ5_appendNull_278bc 42 = .ok (.bastore, 1) by decide +kernel) (isA_eq s12) s13 s16 ?_
    have w := w _ rfl
    refine X_aload_n (j := 2) (show decode cJ5_appendNull_278bc 43 = .ok (.aload_n 2, 1) by decide +kernel) rfl rfl ?_
    refine X_iload_n (j := 1) (show decode cJ5_appendNull_278bc 44 = .ok (.iload_n 1, 1) by decide +kernel) rfl rfl ?_
    refine X_iinc (j := 1) (v := _ + 1) (ls' := [(0, .ref _), (1, .int _), (2, .ref _)]) (show decode cJ5_appendNull_278bc 45 = .ok (.iinc 1 1, 3) by decide +kernel) rfl rfl (Nat.le_of_ble_eq_true rfl) rfl ?_
    refine X_bipush (v := 108) (show decode cJ5_appendNull_278bc 48 = .ok (.bipush 108, 2) by decide +kernel) (by decide) ?_
    obtain ⟨s18, w⟩ := w
    refine X_bast (show decode cJ5_appendNull_278bc 50 = .ok (.bastore, 1) by decide +kernel) (isA_eq s12) s13 s18 ?_
    have w := w _ rfl
    refine X_aload_n (j := 2) (show decode cJ5_appendNull_278bc 51 = .ok (.aload_n 2, 1) by decide +kernel) rfl rfl ?_
    refine X_iload_n (j := 1) (show decode cJ5_appendNull_278bc 52 = .ok (.iload_n 1, 1) by decide +kernel) rfl rfl ?_
    refine X_iinc (j := 1) (v := _ + 1) (ls' := [(0, .ref _), (1, .int _), (2, .ref _)]) (show decode cJ5_appendNull_278bc 53 = .ok (.iinc 1 1, 3) by decide +kernel) rfl rfl (Nat.le_of_ble_eq_true rfl) rfl ?_
    refine X_bipush (v := 108) (show decode cJ5_appendNull_278bc 56 = .ok (.bipush 108, 2) by decide +kernel) (by decide) ?_
    obtain ⟨s20, w⟩ := w
    refine X_bast (show decode cJ5_appendNull_278bc 58 = .ok (.bastore, 1) by decide +kernel) (isA_eq s12) s13 s20 ?_
    have w := w _ rfl
    refine X_goto (tgt := 76) (show decode cJ5_appendNull_278bc 59 = .ok (.goto 17, 3) by decide +kernel) (by decide) ?_
    refine X_pick (ls' := [(0, .ref _), (1, .int _)]) [0, 1] rfl ?_
    exact kJ5_appendNull_278bc_J76  _ _ _ w
