set_option maxRecDepth 100000 in
set_option maxHeartbeats 4000000 in
theorem kX4_init {a0 : Nat} {h : AH} {K : AH → Prop} (w : wX4_init a0 h K) : Cn mX4_init (cwd mX4_init) 2 31 368 [.ref a0] h (KV K) T0 := by
  refine Cn_of (by decide +kernel) rfl (Nat.le_of_ble_eq_true rfl) ?_
  show X mX4_init 2 (KV K) T0 31 368 0 [(0, .ref a0)] [] h
  unfold wX4_init at w
  refine X_aload_n (j := 0) (show decode cX4_init 0 = .ok (.aload_n 0, 1) by decide +kernel) rfl rfl ?_
  obtain ⟨s1, w⟩ := w
  refine X_objInit (show decode cX4_init 1 = .ok (.invokespecial 3, 3) by decide +kernel) gl_X4_3 gi_obj gco_obj s1 (by decide) (by decide) ?_
  refine X_aload_n (j := 0) (show decode cX4_init 4 = .ok (.aload_n 0, 1) by decide +kernel) rfl rfl ?_
  refine X_iconst (v := (nI 0)) (show decode cX4_init 5 = .ok (.iconst 0, 1) by decide +kernel) (by decide) ?_
  obtain ⟨s2, w⟩ := w
  refine X_putI fp_X4_9 (show decode cX4_init 6 = .ok (.putfield 9, 3) by decide +kernel) (fun z => nomatch z) s2 rfl rfl ?_
  have w := w _ rfl
  refine X_aload_n (j := 0) (show decode cX4_init 9 = .ok (.aload_n 0, 1) by decide +kernel) rfl rfl ?_
  refine X_iconst (v := (nI 0)) (show decode cX4_init 10 = .ok (.iconst 0, 1) by decide +kernel) (by decide) ?_
  refine X_putI fp_X4_15 (show decode cX4_init 11 = .ok (.putfield 15, 3) by decide +kernel) (fun z => nomatch z) s2 rfl rfl ?_
  have w := w _ rfl
  refine X_aload_n (j := 0) (show decode cX4_init 14 = .ok (.aload_n 0, 1) by decide +kernel) rfl rfl ?_
  refine X_iconst (v := (nI 0)) (show decode cX4_init 15 = .ok (.iconst 0, 1) by decide +kernel) (by decide) ?_
  refine X_putI fp_X4_18 (show decode cX4_init 16 = .ok (.putfield 18, 3) by decide +kernel) (fun z => nomatch z) s2 rfl rfl ?_
  have w := w _ rfl
  refine X_aload_n (j := 0) (show decode cX4_init 19 = .ok (.aload_n 0, 1) by decide +kernel) rfl rfl ?_
  refine X_iconst (v := (nI 0)) (show decode cX4_init 20 = .ok (.iconst 0, 1) by decide +kernel) (by decide) ?_
  refine X_putI fp_X4_21 (show decode cX4_init 21 = .ok (.putfield 21, 3) by decide +kernel) (fun z => nomatch z) s2 rfl rfl ?_
  have w := w _ rfl
  refine X_aload_n (j := 0) (show decode cX4_init 24 = .ok (.aload_n 0, 1) by decide +kernel) rfl rfl ?_
  refine X_iconst (v := (nI 0)) (show decode cX4_init 25 = .ok (.iconst 0, 1) by decide +kernel) (by decide) ?_
  refine X_putI fp_X4_24 (show decode cX4_init 26 = .ok (.putfield 24, 3) by decide +kernel) (fun z => nomatch z) s2 rfl rfl ?_
  have w := w _ rfl
  refine X_aload_n (j := 0) (show decode cX4_init 29 = .ok (.aload_n 0, 1) by decide +kernel) rfl rfl ?_
  refine X_bipush (v := (nI 12)) (show decode cX4_init 30 = .ok (.bipush 12, 2) by decide +kernel) (by decide) ?_
  refine X_newa (N := 12) (rc' := 30) (rs' := 356) na_0 (by decide) (show decode cX4_init 32 = .ok (.newarray .int, 2) by decide +kernel) (by decide) (by decide) (Nat.le_of_ble_eq_true rfl) (Nat.le_of_ble_eq_true rfl) (Nat.le_of_ble_eq_true rfl) ?_
  have w := w _ rfl
  obtain ⟨s9, w⟩ := w
  refine X_putR fp_X4_27 (show decode cX4_init 34 = .ok (.putfield 27, 3) by decide +kernel) (fun _ => rfl) (by first | exact Or.inl ⟨_, rfl⟩ | exact Or.inr ⟨_, rfl⟩) s9 ?_
  have w := w _ rfl
  refine X_aload_n (j := 0) (show decode cX4_init 37 = .ok (.aload_n 0, 1) by decide +kernel) rfl rfl ?_
  refine X_bipush (v := (nI 12)) (show decode cX4_init 38 = .ok (.bipush 12, 2) by decide +kernel) (by decide) ?_
  refine X_newa (N := 12) (rc' := 29) (rs' := 344) na_0 (by decide) (show decode cX4_init 40 = .ok (.newarray .int, 2) by decide +kernel) (by decide) (by decide) (Nat.le_of_ble_eq_true rfl) (Nat.le_of_ble_eq_true rfl) (Nat.le_of_ble_eq_true rfl) ?_
  have w := w _ rfl
  obtain ⟨s12, w⟩ := w
  refine X_putR fp_X4_31 (show decode cX4_init 42 = .ok (.putfield 31, 3) by decide +kernel) (fun _ => rfl) (by first | exact Or.inl ⟨_, rfl⟩ | exact Or.inr ⟨_, rfl⟩) s12 ?_
  have w := w _ rfl
  refine X_aload_n (j := 0) (show decode cX4_init 45 = .ok (.aload_n 0, 1) by decide +kernel) rfl rfl ?_
  refine X_bipush (v := (nI 12)) (show decode cX4_init 46 = .ok (.bipush 12, 2) by decide +kernel) (by decide) ?_
  refine X_newa (N := 12) (rc' := 28) (rs' := 332) na_0 (by decide) (show decode cX4_init 48 = .ok (.newarray .int, 2) by decide +kernel) (by decide) (by decide) (Nat.le_of_ble_eq_true rfl) (Nat.le_of_ble_eq_true rfl) (Nat.le_of_ble_eq_true rfl) ?_
  have w := w _ rfl
  obtain ⟨s15, w⟩ := w
  refine X_putR fp_X4_34 (show decode cX4_init 50 = .ok (.putfield 34, 3) by decide +kernel) (fun _ => rfl) (by first | exact Or.inl ⟨_, rfl⟩ | exact Or.inr ⟨_, rfl⟩) s15 ?_
  have w := w _ rfl
  refine X_aload_n (j := 0) (show decode cX4_init 53 = .ok (.aload_n 0, 1) by decide +kernel) rfl rfl ?_
  refine X_bipush (v := (nI 8)) (show decode cX4_init 54 = .ok (.bipush 8, 2) by decide +kernel) (by decide) ?_
  refine X_newa (N := 8) (rc' := 27) (rs' := 324) na_0 (by decide) (show decode cX4_init 56 = .ok (.newarray .int, 2) by decide +kernel) (by decide) (by decide) (Nat.le_of_ble_eq_true rfl) (Nat.le_of_ble_eq_true rfl) (Nat.le_of_ble_eq_true rfl) ?_
  have w := w _ rfl
  obtain ⟨s18, w⟩ := w
  refine X_putR fp_X4_37 (show decode cX4_init 58 = .ok (.putfield 37, 3) by decide +kernel) (fun _ => rfl) (by first | exact Or.inl ⟨_, rfl⟩ | exact Or.inr ⟨_, rfl⟩) s18 ?_
  have w := w _ rfl
  refine X_aload_n (j := 0) (show decode cX4_init 61 = .ok (.aload_n 0, 1) by decide +kernel) rfl rfl ?_
  refine X_bipush (v := (nI 12)) (show decode cX4_init 62 = .ok (.bipush 12, 2) by decide +kernel) (by decide) ?_
  refine X_bipush (v := (nI 12)) (show decode cX4_init 64 = .ok (.bipush 12, 2) by decide +kernel) (by decide) ?_
  refine X_multi (N := 12) (N2 := 12) (rc' := 14) (rs' := 168) gk_X4_40 (show decode cX4_init 66 = .ok (.multianewarray 40 2, 4) by decide +kernel) (by decide) (by decide) (by decide) (by decide) (by decide) (by decide) (Nat.le_of_ble_eq_true rfl) (Nat.le_of_ble_eq_true rfl) ?_
  have w := w _ rfl
  obtain ⟨s21, w⟩ := w
  refine X_putR fp_X4_42 (show decode cX4_init 70 = .ok (.putfield 42, 3) by decide +kernel) (fun _ => rfl) (by first | exact Or.inl ⟨_, rfl⟩ | exact Or.inr ⟨_, rfl⟩) s21 ?_
  have w := w _ rfl
  refine X_aload_n (j := 0) (show decode cX4_init 73 = .ok (.aload_n 0, 1) by decide +kernel) rfl rfl ?_
  refine X_bipush (v := (nI 12)) (show decode cX4_init 74 = .ok (.bipush 12, 2) by decide +kernel) (by decide) ?_
  refine X_bipush (v := (nI 12)) (show decode cX4_init 76 = .ok (.bipush 12, 2) by decide +kernel) (by decide) ?_
  refine X_multi (N := 12) (N2 := 12) (rc' := 1) (rs' := 12) gk_X4_40 (show decode cX4_init 78 = .ok (.multianewarray 40 2, 4) by decide +kernel) (by decide) (by decide) (by decide) (by decide) (by decide) (by decide) (Nat.le_of_ble_eq_true rfl) (Nat.le_of_ble_eq_true rfl) ?_
  have w := w _ rfl
  obtain ⟨s24, w⟩ := w
  refine X_putR fp_X4_45 (show decode cX4_init 82 = .ok (.putfield 45, 3) by decide +kernel) (fun _ => rfl) (by first | exact Or.inl ⟨_, rfl⟩ | exact Or.inr ⟨_, rfl⟩) s24 ?_
  have w := w _ rfl
  refine X_aload_n (j := 0) (show decode cX4_init 85 = .ok (.aload_n 0, 1) by decide +kernel) rfl rfl ?_
  refine X_bipush (v := (nI 12)) (show decode cX4_init 86 = .ok (.bipush 12, 2) by decide +kernel) (by decide) ?_
  refine X_newa (N := 12) (rc' := 0) (rs' := 0) na_0 (by decide) (show decode cX4_init 88 = .ok (.newarray .int, 2) by decide +kernel) (by decide) (by decide) (Nat.le_of_ble_eq_true rfl) (Nat.le_of_ble_eq_true rfl) (Nat.le_of_ble_eq_true rfl) ?_
  have w := w _ rfl
  obtain ⟨s27, w⟩ := w
  refine X_putR fp_X4_48 (show decode cX4_init 90 = .ok (.putfield 48, 3) by decide +kernel) (fun _ => rfl) (by first | exact Or.inl ⟨_, rfl⟩ | exact Or.inr ⟨_, rfl⟩) s27 ?_
  have w := w _ rfl
  exact X_vret ⟨(show decode cX4_init 93 = .ok (.return_, 1) by decide +kernel), rfl⟩ ⟨rfl, w⟩
set_option maxRecDepth 100000 in
set_option maxHeartbeats 4000000 in
theorem kX8_init {a0 : Nat} {h : AH} {K : AH → Prop} (w : wX8_init a0 h K) : Cn mX8_init (cwd mX8_init) 2 0 0 [.ref a0] h (KV K) T0 := by
  refine Cn_of (by decide +kernel) rfl (Nat.le_of_ble_eq_true rfl) ?_
  show X mX8_init 2 (KV K) T0 0 0 0 [(0, .ref a0)] [] h
  unfold wX8_init at w
  refine X_aload_n (j := 0) (show decode cX8_init 0 = .ok (.aload_n 0, 1) by decide +kernel) rfl rfl ?_
  obtain ⟨s1, w⟩ := w
  refine X_objInit (show decode cX8_init 1 = .ok (.invokespecial 1, 3) by decide +kernel) gl_X8_1 gi_obj gco_obj s1 (by decide) (by decide) ?_
  refine X_aload_n (j := 0) (show decode cX8_init 4 = .ok (.aload_n 0, 1) by decide +kernel) rfl rfl ?_
  refine X_iconst (v := (nI 0)) (show decode cX8_init 5 = .ok (.iconst 0, 1) by decide +kernel) (by decide) ?_
  obtain ⟨s2, w⟩ := w
  refine X_putI fp_X8_7 (show decode cX8_init 6 = .ok (.putfield 7, 3) by decide +kernel) (fun z => nomatch z) s2 rfl rfl ?_
  have w := w _ rfl
  refine X_aload_n (j := 0) (show decode cX8_init 9 = .ok (.aload_n 0, 1) by decide +kernel) rfl rfl ?_
  refine X_iconst (v := (nI 0)) (show decode cX8_init 10 = .ok (.iconst 0, 1) by decide +kernel) (by decide) ?_
  refine X_putI fp_X8_13 (show decode cX8_init 11 = .ok (.putfield 13, 3) by decide +kernel) (fun z => nomatch z) s2 rfl rfl ?_
  have w := w _ rfl
  refine X_aload_n (j := 0) (show decode cX8_init 14 = .ok (.aload_n 0, 1) by decide +kernel) rfl rfl ?_
  refine X_iconst (v := (nI 0)) (show decode cX8_init 15 = .ok (.iconst 0, 1) by decide +kernel) (by decide) ?_
  refine X_putI fp_X8_16 (show decode cX8_init 16 = .ok (.putfield 16, 3) by decide +kernel) (fun z => nomatch z) s2 rfl rfl ?_
  have w := w _ rfl
  refine X_aload_n (j := 0) (show decode cX8_init 19 = .ok (.aload_n 0, 1) by decide +kernel) rfl rfl ?_
  refine X_iconst (v := (nI 0)) (show decode cX8_init 20 = .ok (.iconst 0, 1) by decide +kernel) (by decide) ?_
  refine X_putI fp_X8_19 (show decode cX8_init 21 = .ok (.putfield 19, 3) by decide +kernel) (fun z => nomatch z) s2 rfl rfl ?_
  have w := w _ rfl
  refine X_aload_n (j := 0) (show decode cX8_init 24 = .ok (.aload_n 0, 1) by decide +kernel) rfl rfl ?_
  refine X_iconst (v := (nI 0)) (show decode cX8_init 25 = .ok (.iconst 0, 1) by decide +kernel) (by decide) ?_
  refine X_putI fp_X8_22 (show decode cX8_init 26 = .ok (.putfield 22, 3) by decide +kernel) (fun z => nomatch z) s2 rfl rfl ?_
  have w := w _ rfl
  refine X_aload_n (j := 0) (show decode cX8_init 29 = .ok (.aload_n 0, 1) by decide +kernel) rfl rfl ?_
  refine X_iconst (v := (nI 0)) (show decode cX8_init 30 = .ok (.iconst 0, 1) by decide +kernel) (by decide) ?_
  refine X_putI fp_X8_25 (show decode cX8_init 31 = .ok (.putfield 25, 3) by decide +kernel) (fun z => nomatch z) s2 rfl rfl ?_
  have w := w _ rfl
  exact X_vret ⟨(show decode cX8_init 34 = .ok (.return_, 1) by decide +kernel), rfl⟩ ⟨rfl, w⟩
set_option maxRecDepth 100000 in
set_option maxHeartbeats 4000000 in
theorem kX7_init_L64 {K : AH → Prop}    : ∀ (n : Nat) (x0 : Nat) (x1 : Int32) (h : AH), wX7_init_L64 K   n x0 x1 h → X mX7_init 3 (KV K) T0 (n * 1 + 1) (n * 6 + 6) 64 [(0, .ref x0), (1, .int x1)] [] h := by
  intro n
  induction n with
  | zero => intro _ _ _ w; exact w.elim
  | succ n ih =>
    intro x0 x1 h w
    rw [wX7_init_L64] at w
    refine X_room (rc' := (n * 1 + 2)) (rs' := (n * 6 + 12)) (by omega) (by omega) ?_
    refine X_iload_n (j := 1) (show decode cX7_init 64 = .ok (.iload_n 1, 1) by decide +kernel) rfl rfl ?_
    refine X_bipush (v := (nI 8)) (show decode cX7_init 65 = .ok (.bipush 8, 2) by decide +kernel) (by decide) ?_
    refine X_icmp_ge (tgt := 89) (show decode cX7_init 67 = .ok (.if_icmp .ge 22, 3) by decide +kernel) (by decide) ⟨fun c19 => ?_, fun c19 => ?_⟩
    · have w := w.1 c19
      exact X_vret ⟨(show decode cX7_init 89 = .ok (.return_, 1) by decide +kernel), rfl⟩ ⟨rfl, w⟩
    · have w := w.2 c19
      refine X_aload_n (j := 0) (show decode cX7_init 70 = .ok (.aload_n 0, 1) by decide +kernel) rfl rfl ?_
      obtain ⟨s20, w⟩ := w
      refine X_getR fl_X7_20 (show decode cX7_init 71 = .ok (.getfield 20, 3) by decide +kernel) s20 ?_
      refine X_iload_n (j := 1) (show decode cX7_init 74 = .ok (.iload_n 1, 1) by decide +kernel) rfl rfl ?_
      refine X_new (rc' := (n * 1 + 1)) (rs' := (n * 6 + 6)) nw_X7_18 (show decode cX7_init 75 = .ok (.new 18, 3) by decide +kernel) (by omega) (by omega) ?_
      have w := w _ rfl
      refine X_dup (show decode cX7_init 78 = .ok (.dup, 1) by decide +kernel) rfl ?_
      obtain ⟨s29, w⟩ := w
      refine X_iV (rc' := (n * 1 + 1)) (rs' := (n * 6 + 6)) (as := []) mi_X7_48 (show decode cX7_init 79 = .ok (.invokespecial 48, 3) by decide +kernel) (by decide) (by omega) (by omega) rfl rfl (Nat.le_of_ble_eq_true rfl) s29 (kX8_init w) (fun h22 w => ?_)
      obtain ⟨s24, w⟩ := w
      obtain ⟨s25, w⟩ := w
      obtain ⟨s26, w⟩ := w
      obtain ⟨s27, w⟩ := w
      refine X_aastT (show decode cX7_init 82 = .ok (.aastore, 1) by decide +kernel) (isA_eq s24) s25 s26 s27 ?_
      have w := w _ rfl
      refine X_iinc (j := 1) (v := _ + (nI 1)) (ls' := [(0, .ref _), (1, .int _)]) (show decode cX7_init 83 = .ok (.iinc 1 1, 3) by decide +kernel) rfl rfl (Nat.le_of_ble_eq_true rfl) rfl ?_
      refine X_goto (tgt := 64) (show decode cX7_init 86 = .ok (.goto (-22), 3) by decide +kernel) (by decide) ?_
      exact ih _ _ _ w
set_option maxRecDepth 100000 in
set_option maxHeartbeats 4000000 in
theorem kX7_init {a0 : Nat} {h : AH} {K : AH → Prop} (w : wX7_init a0 h K) : Cn mX7_init (cwd mX7_init) 3 44 456 [.ref a0] h (KV K) T0 := by
  refine Cn_of (by decide +kernel) rfl (Nat.le_of_ble_eq_true rfl) ?_
  show X mX7_init 3 (KV K) T0 44 456 0 [(0, .ref a0)] [] h
  unfold wX7_init at w
  refine X_aload_n (j := 0) (show decode cX7_init 0 = .ok (.aload_n 0, 1) by decide +kernel) rfl rfl ?_
  obtain ⟨s1, w⟩ := w
  refine X_objInit (show decode cX7_init 1 = .ok (.invokespecial 3, 3) by decide +kernel) gl_X7_3 gi_obj gco_obj s1 (by decide) (by decide) ?_
  refine X_aload_n (j := 0) (show decode cX7_init 4 = .ok (.aload_n 0, 1) by decide +kernel) rfl rfl ?_
  refine X_new (rc' := 43) (rs' := 444) nw_X7_9 (show decode cX7_init 5 = .ok (.new 9, 3) by decide +kernel) (Nat.le_of_ble_eq_true rfl) (Nat.le_of_ble_eq_true rfl) ?_
  have w := w _ rfl
  refine X_dup (show decode cX7_init 8 = .ok (.dup, 1) by decide +kernel) rfl ?_
  obtain ⟨s31, w⟩ := w
  refine X_iV (rc' := 12) (rs' := 76) (as := []) mi_X7_11 (show decode cX7_init 9 = .ok (.invokespecial 11, 3) by decide +kernel) (by decide) (Nat.le_of_ble_eq_true rfl) (Nat.le_of_ble_eq_true rfl) rfl rfl (Nat.le_of_ble_eq_true rfl) s31 (kX4_init w) (fun h3 w => ?_)
  obtain ⟨s5, w⟩ := w
  refine X_putR fp_X7_12 (show decode cX7_init 12 = .ok (.putfield 12, 3) by decide +kernel) (fun _ => rfl) (by first | exact Or.inl ⟨_, rfl⟩ | exact Or.inr ⟨_, rfl⟩) s5 ?_
  have w := w _ rfl
  refine X_aload_n (j := 0) (show decode cX7_init 15 = .ok (.aload_n 0, 1) by decide +kernel) rfl rfl ?_
  refine X_bipush (v := (nI 8)) (show decode cX7_init 16 = .ok (.bipush 8, 2) by decide +kernel) (by decide) ?_
  refine X_newq (t := 6) (N := 8) (rc' := 11) (rs' := 68) gk_X7_18 (by decide) (by decide) (by decide) rfl (show decode cX7_init 18 = .ok (.anewarray 18, 3) by decide +kernel) (by decide) (by decide) (Nat.le_of_ble_eq_true rfl) (Nat.le_of_ble_eq_true rfl) (Nat.le_of_ble_eq_true rfl) ?_
  have w := w _ rfl
  obtain ⟨s8, w⟩ := w
  refine X_putR fp_X7_20 (show decode cX7_init 21 = .ok (.putfield 20, 3) by decide +kernel) (fun _ => rfl) (by first | exact Or.inl ⟨_, rfl⟩ | exact Or.inr ⟨_, rfl⟩) s8 ?_
  have w := w _ rfl
  refine X_aload_n (j := 0) (show decode cX7_init 24 = .ok (.aload_n 0, 1) by decide +kernel) rfl rfl ?_
  refine X_bipush (v := (nI 8)) (show decode cX7_init 25 = .ok (.bipush 8, 2) by decide +kernel) (by decide) ?_
  refine X_newa (N := 8) (rc' := 10) (rs' := 60) na_0 (by decide) (show decode cX7_init 27 = .ok (.newarray .int, 2) by decide +kernel) (by decide) (by decide) (Nat.le_of_ble_eq_true rfl) (Nat.le_of_ble_eq_true rfl) (Nat.le_of_ble_eq_true rfl) ?_
  have w := w _ rfl
  obtain ⟨s11, w⟩ := w
  refine X_putR fp_X7_24 (show decode cX7_init 29 = .ok (.putfield 24, 3) by decide +kernel) (fun _ => rfl) (by first | exact Or.inl ⟨_, rfl⟩ | exact Or.inr ⟨_, rfl⟩) s11 ?_
  have w := w _ rfl
  refine X_aload_n (j := 0) (show decode cX7_init 32 = .ok (.aload_n 0, 1) by decide +kernel) rfl rfl ?_
  refine X_iconst (v := (nI 0)) (show decode cX7_init 33 = .ok (.iconst 0, 1) by decide +kernel) (by decide) ?_
  refine X_putI fp_X7_28 (show decode cX7_init 34 = .ok (.putfield 28, 3) by decide +kernel) (fun z => nomatch z) s11 rfl rfl ?_
  have w := w _ rfl
  refine X_aload_n (j := 0) (show decode cX7_init 37 = .ok (.aload_n 0, 1) by decide +kernel) rfl rfl ?_
  refine X_iconst (v := (nI 0)) (show decode cX7_init 38 = .ok (.iconst 0, 1) by decide +kernel) (by decide) ?_
  refine X_putI fp_X7_32 (show decode cX7_init 39 = .ok (.putfield 32, 3) by decide +kernel) (fun z => nomatch z) s11 rfl rfl ?_
  have w := w _ rfl
  refine X_aload_n (j := 0) (show decode cX7_init 42 = .ok (.aload_n 0, 1) by decide +kernel) rfl rfl ?_
  refine X_iconst (v := (nI 0)) (show decode cX7_init 43 = .ok (.iconst 0, 1) by decide +kernel) (by decide) ?_
  refine X_putI fp_X7_35 (show decode cX7_init 44 = .ok (.putfield 35, 3) by decide +kernel) (fun z => nomatch z) s11 rfl rfl ?_
  have w := w _ rfl
  refine X_aload_n (j := 0) (show decode cX7_init 47 = .ok (.aload_n 0, 1) by decide +kernel) rfl rfl ?_
  refine X_iconst (v := (nI 0)) (show decode cX7_init 48 = .ok (.iconst 0, 1) by decide +kernel) (by decide) ?_
  refine X_putI fp_X7_38 (show decode cX7_init 49 = .ok (.putfield 38, 3) by decide +kernel) (fun z => nomatch z) s11 rfl rfl ?_
  have w := w _ rfl
  refine X_aload_n (j := 0) (show decode cX7_init 52 = .ok (.aload_n 0, 1) by decide +kernel) rfl rfl ?_
  refine X_iconst (v := (nI 0)) (show decode cX7_init 53 = .ok (.iconst 0, 1) by decide +kernel) (by decide) ?_
  refine X_putI fp_X7_41 (show decode cX7_init 54 = .ok (.putfield 41, 3) by decide +kernel) (fun z => nomatch z) s11 rfl rfl ?_
  have w := w _ rfl
  refine X_aload_n (j := 0) (show decode cX7_init 57 = .ok (.aload_n 0, 1) by decide +kernel) rfl rfl ?_
  refine X_lconst (v := 0) (show decode cX7_init 58 = .ok (.lconst 0, 1) by decide +kernel) (by decide) ?_
  refine X_putL fp_X7_44 (show decode cX7_init 59 = .ok (.putfield 44, 3) by decide +kernel) (fun z => nomatch z) s11 ?_
  have w := w _ rfl
  refine X_iconst (v := (nI 0)) (show decode cX7_init 62 = .ok (.iconst 0, 1) by decide +kernel) (by decide) ?_
  refine X_istore_n (ls' := [(0, .ref _), (1, .int _)]) (show decode cX7_init 63 = .ok (.istore_n 1, 1) by decide +kernel) rfl (by decide) rfl ?_
  obtain ⟨n30, hbn30, w⟩ := w
  refine X_room (rc' := n30 * 1 + 1) (rs' := n30 * 6 + 6) (by omega) (by omega) ?_
  exact kX7_init_L64  n30 _ _ _ w
set_option maxRecDepth 100000 in
set_option maxHeartbeats 4000000 in
theorem kX2_init_L25 {K : AH → Prop}    : ∀ (n : Nat) (x0 : Nat) (x1 : Int32) (h : AH), wX2_init_L25 K   n x0 x1 h → X mX2_init 4 (KV K) T0 (n * 45 + 45) (n * 465 + 465) 25 [(0, .ref x0), (1, .int x1)] [] h := by
  intro n
  induction n with
  | zero => intro _ _ _ w; exact w.elim
  | succ n ih =>
    intro x0 x1 h w
    rw [wX2_init_L25] at w
    refine X_room (rc' := (n * 45 + 90)) (rs' := (n * 465 + 930)) (by omega) (by omega) ?_
    refine X_iload_n (j := 1) (show decode cX2_init 25 = .ok (.iload_n 1, 1) by decide +kernel) rfl rfl ?_
    refine X_bipush (v := (nI 9)) (show decode cX2_init 26 = .ok (.bipush 9, 2) by decide +kernel) (by decide) ?_
    refine X_icmp_ge (tgt := 50) (show decode cX2_init 28 = .ok (.if_icmp .ge 22, 3) by decide +kernel) (by decide) ⟨fun c7 => ?_, fun c7 => ?_⟩
    · have w := w.1 c7
      exact X_vret ⟨(show decode cX2_init 50 = .ok (.return_, 1) by decide +kernel), rfl⟩ ⟨rfl, w⟩
    · have w := w.2 c7
      refine X_aload_n (j := 0) (show decode cX2_init 31 = .ok (.aload_n 0, 1) by decide +kernel) rfl rfl ?_
      obtain ⟨s8, w⟩ := w
      refine X_getR fl_X2_13 (show decode cX2_init 32 = .ok (.getfield 13, 3) by decide +kernel) s8 ?_
      refine X_iload_n (j := 1) (show decode cX2_init 35 = .ok (.iload_n 1, 1) by decide +kernel) rfl rfl ?_
      refine X_new (rc' := (n * 45 + 89)) (rs' := (n * 465 + 921)) nw_X2_11 (show decode cX2_init 36 = .ok (.new 11, 3) by decide +kernel) (by omega) (by omega) ?_
      have w := w _ rfl
      refine X_dup (show decode cX2_init 39 = .ok (.dup, 1) by decide +kernel) rfl ?_
      obtain ⟨s17, w⟩ := w
      refine X_iV (rc' := (n * 45 + 45)) (rs' := (n * 465 + 465)) (as := []) mi_X2_24 (show decode cX2_init 40 = .ok (.invokespecial 24, 3) by decide +kernel) (by decide) (by omega) (by omega) rfl rfl (Nat.le_of_ble_eq_true rfl) s17 (kX7_init w) (fun h10 w => ?_)
      obtain ⟨s12, w⟩ := w
      obtain ⟨s13, w⟩ := w
      obtain ⟨s14, w⟩ := w
      obtain ⟨s15, w⟩ := w
      refine X_aastS (show decode cX2_init 43 = .ok (.aastore, 1) by decide +kernel) (isA_eq s12) s13 s14 s15 ?_
      have w := w _ rfl
      refine X_iinc (j := 1) (v := _ + (nI 1)) (ls' := [(0, .ref _), (1, .int _)]) (show decode cX2_init 44 = .ok (.iinc 1 1, 3) by decide +kernel) rfl rfl (Nat.le_of_ble_eq_true rfl) rfl ?_
      refine X_goto (tgt := 25) (show decode cX2_init 47 = .ok (.goto (-22), 3) by decide +kernel) (by decide) ?_
      exact ih _ _ _ w
set_option maxRecDepth 100000 in
set_option maxHeartbeats 4000000 in
theorem kX2_init {a0 : Nat} {h : AH} {K : AH → Prop} (w : wX2_init a0 h K) : Cn mX2_init (cwd mX2_init) 4 496 5124 [.ref a0] h (KV K) T0 := by
  refine Cn_of (by decide +kernel) rfl (Nat.le_of_ble_eq_true rfl) ?_
  show X mX2_init 4 (KV K) T0 496 5124 0 [(0, .ref a0)] [] h
  unfold wX2_init at w
  refine X_aload_n (j := 0) (show decode cX2_init 0 = .ok (.aload_n 0, 1) by decide +kernel) rfl rfl ?_
  obtain ⟨s1, w⟩ := w
  refine X_objInit (show decode cX2_init 1 = .ok (.invokespecial 3, 3) by decide +kernel) gl_X2_3 gi_obj gco_obj s1 (by decide) (by decide) ?_
  refine X_aload_n (j := 0) (show decode cX2_init 4 = .ok (.aload_n 0, 1) by decide +kernel) rfl rfl ?_
  refine X_bipush (v := (nI 9)) (show decode cX2_init 5 = .ok (.bipush 9, 2) by decide +kernel) (by decide) ?_
  refine X_newq (t := 5) (N := 9) (rc' := 495) (rs' := 5115) gk_X2_11 (by decide) (by decide) (by decide) rfl (show decode cX2_init 7 = .ok (.anewarray 11, 3) by decide +kernel) (by decide) (by decide) (Nat.le_of_ble_eq_true rfl) (Nat.le_of_ble_eq_true rfl) (Nat.le_of_ble_eq_true rfl) ?_
  have w := w _ rfl
  obtain ⟨s3, w⟩ := w
  refine X_putR fp_X2_13 (show decode cX2_init 10 = .ok (.putfield 13, 3) by decide +kernel) (fun _ => rfl) (by first | exact Or.inl ⟨_, rfl⟩ | exact Or.inr ⟨_, rfl⟩) s3 ?_
  have w := w _ rfl
  refine X_aload_n (j := 0) (show decode cX2_init 13 = .ok (.aload_n 0, 1) by decide +kernel) rfl rfl ?_
  refine X_iconst (v := (nI 0)) (show decode cX2_init 14 = .ok (.iconst 0, 1) by decide +kernel) (by decide) ?_
  refine X_putI fp_X2_17 (show decode cX2_init 15 = .ok (.putfield 17, 3) by decide +kernel) (fun z => nomatch z) s3 rfl rfl ?_
  have w := w _ rfl
  refine X_aload_n (j := 0) (show decode cX2_init 18 = .ok (.aload_n 0, 1) by decide +kernel) rfl rfl ?_
  refine X_iconst (v := (nI 0)) (show decode cX2_init 19 = .ok (.iconst 0, 1) by decide +kernel) (by decide) ?_
  refine X_putI fp_X2_21 (show decode cX2_init 20 = .ok (.putfield 21, 3) by decide +kernel) (fun z => nomatch z) s3 rfl rfl ?_
  have w := w _ rfl
  refine X_iconst (v := (nI 0)) (show decode cX2_init 23 = .ok (.iconst 0, 1) by decide +kernel) (by decide) ?_
  refine X_istore_n (ls' := [(0, .ref _), (1, .int _)]) (show decode cX2_init 24 = .ok (.istore_n 1, 1) by decide +kernel) rfl (by decide) rfl ?_
  obtain ⟨n18, hbn18, w⟩ := w
  refine X_room (rc' := n18 * 45 + 45) (rs' := n18 * 465 + 465) (by omega) (by omega) ?_
  exact kX2_init_L25  n18 _ _ _ w
set_option maxRecDepth 100000 in
set_option maxHeartbeats 4000000 in
theorem kX6_init {a0 : Nat} {h : AH} {K : AH → Prop} (w : wX6_init a0 h K) : Cn mX6_init (cwd mX6_init) 2 3 24 [.ref a0] h (KV K) T0 := by
  refine Cn_of (by decide +kernel) rfl (Nat.le_of_ble_eq_true rfl) ?_
  show X mX6_init 2 (KV K) T0 3 24 0 [(0, .ref a0)] [] h
  unfold wX6_init at w
  refine X_aload_n (j := 0) (show decode cX6_init 0 = .ok (.aload_n 0, 1) by decide +kernel) rfl rfl ?_
  obtain ⟨s1, w⟩ := w
  refine X_objInit (show decode cX6_init 1 = .ok (.invokespecial 3, 3) by decide +kernel) gl_X6_3 gi_obj gco_obj s1 (by decide) (by decide) ?_
  refine X_aload_n (j := 0) (show decode cX6_init 4 = .ok (.aload_n 0, 1) by decide +kernel) rfl rfl ?_
  refine X_iconst (v := (nI 0)) (show decode cX6_init 5 = .ok (.iconst 0, 1) by decide +kernel) (by decide) ?_
  obtain ⟨s2, w⟩ := w
  refine X_putI fp_X6_9 (show decode cX6_init 6 = .ok (.putfield 9, 3) by decide +kernel) (fun z => nomatch z) s2 rfl rfl ?_
  have w := w _ rfl
  refine X_aload_n (j := 0) (show decode cX6_init 9 = .ok (.aload_n 0, 1) by decide +kernel) rfl rfl ?_
  refine X_bipush (v := (nI 8)) (show decode cX6_init 10 = .ok (.bipush 8, 2) by decide +kernel) (by decide) ?_
  refine X_newa (N := 8) (rc' := 2) (rs' := 16) na_0 (by decide) (show decode cX6_init 12 = .ok (.newarray .int, 2) by decide +kernel) (by decide) (by decide) (Nat.le_of_ble_eq_true rfl) (Nat.le_of_ble_eq_true rfl) (Nat.le_of_ble_eq_true rfl) ?_
  have w := w _ rfl
  obtain ⟨s5, w⟩ := w
  refine X_putR fp_X6_15 (show decode cX6_init 14 = .ok (.putfield 15, 3) by decide +kernel) (fun _ => rfl) (by first | exact Or.inl ⟨_, rfl⟩ | exact Or.inr ⟨_, rfl⟩) s5 ?_
  have w := w _ rfl
  refine X_aload_n (j := 0) (show decode cX6_init 17 = .ok (.aload_n 0, 1) by decide +kernel) rfl rfl ?_
  refine X_bipush (v := (nI 8)) (show decode cX6_init 18 = .ok (.bipush 8, 2) by decide +kernel) (by decide) ?_
  refine X_newa (N := 8) (rc' := 1) (rs' := 8) na_0 (by decide) (show decode cX6_init 20 = .ok (.newarray .int, 2) by decide +kernel) (by decide) (by decide) (Nat.le_of_ble_eq_true rfl) (Nat.le_of_ble_eq_true rfl) (Nat.le_of_ble_eq_true rfl) ?_
  have w := w _ rfl
  obtain ⟨s8, w⟩ := w
  refine X_putR fp_X6_19 (show decode cX6_init 22 = .ok (.putfield 19, 3) by decide +kernel) (fun _ => rfl) (by first | exact Or.inl ⟨_, rfl⟩ | exact Or.inr ⟨_, rfl⟩) s8 ?_
  have w := w _ rfl
  refine X_aload_n (j := 0) (show decode cX6_init 25 = .ok (.aload_n 0, 1) by decide +kernel) rfl rfl ?_
  refine X_bipush (v := (nI 8)) (show decode cX6_init 26 = .ok (.bipush 8, 2) by decide +kernel) (by decide) ?_
  refine X_newa (N := 8) (rc' := 0) (rs' := 0) na_0 (by decide) (show decode cX6_init 28 = .ok (.newarray .int, 2) by decide +kernel) (by decide) (by decide) (Nat.le_of_ble_eq_true rfl) (Nat.le_of_ble_eq_true rfl) (Nat.le_of_ble_eq_true rfl) ?_
  have w := w _ rfl
  obtain ⟨s11, w⟩ := w
  refine X_putR fp_X6_22 (show decode cX6_init 30 = .ok (.putfield 22, 3) by decide +kernel) (fun _ => rfl) (by first | exact Or.inl ⟨_, rfl⟩ | exact Or.inr ⟨_, rfl⟩) s11 ?_
  have w := w _ rfl
  refine X_aload_n (j := 0) (show decode cX6_init 33 = .ok (.aload_n 0, 1) by decide +kernel) rfl rfl ?_
  refine X_iconst (v := (nI 0)) (show decode cX6_init 34 = .ok (.iconst 0, 1) by decide +kernel) (by decide) ?_
  refine X_putI fp_X6_25 (show decode cX6_init 35 = .ok (.putfield 25, 3) by decide +kernel) (fun z => nomatch z) s11 rfl rfl ?_
  have w := w _ rfl
  refine X_aload_n (j := 0) (show decode cX6_init 38 = .ok (.aload_n 0, 1) by decide +kernel) rfl rfl ?_
  refine X_iconst (v := (nI 0)) (show decode cX6_init 39 = .ok (.iconst 0, 1) by decide +kernel) (by decide) ?_
  refine X_putI fp_X6_28 (show decode cX6_init 40 = .ok (.putfield 28, 3) by decide +kernel) (fun z => nomatch z) s11 rfl rfl ?_
  have w := w _ rfl
  refine X_aload_n (j := 0) (show decode cX6_init 43 = .ok (.aload_n 0, 1) by decide +kernel) rfl rfl ?_
  refine X_iconst (v := (nI 0)) (show decode cX6_init 44 = .ok (.iconst 0, 1) by decide +kernel) (by decide) ?_
  refine X_putI fp_X6_31 (show decode cX6_init 45 = .ok (.putfield 31, 3) by decide +kernel) (fun z => nomatch z) s11 rfl rfl ?_
  have w := w _ rfl
  exact X_vret ⟨(show decode cX6_init 48 = .ok (.return_, 1) by decide +kernel), rfl⟩ ⟨rfl, w⟩
set_option maxRecDepth 100000 in
set_option maxHeartbeats 4000000 in
theorem kX5_init_L49 {K : AH → Prop}    : ∀ (n : Nat) (x0 : Nat) (x1 : Int32) (h : AH), wX5_init_L49 K   n x0 x1 h → X mX5_init 2 (KV K) T0 0 0 49 [(0, .ref x0), (1, .int x1)] [] h := by
  intro n
  induction n with
  | zero => intro _ _ _ w; exact w.elim
  | succ n ih =>
    intro x0 x1 h w
    rw [wX5_init_L49] at w
    refine X_iload_n (j := 1) (show decode cX5_init 49 = .ok (.iload_n 1, 1) by decide +kernel) rfl rfl ?_
    refine X_bipush (v := (nI 13)) (show decode cX5_init 50 = .ok (.bipush 13, 2) by decide +kernel) (by decide) ?_
    refine X_icmp_ge (tgt := 70) (show decode cX5_init 52 = .ok (.if_icmp .ge 18, 3) by decide +kernel) (by decide) ⟨fun c14 => ?_, fun c14 => ?_⟩
    · have w := w.1 c14
      exact X_vret ⟨(show decode cX5_init 70 = .ok (.return_, 1) by decide +kernel), rfl⟩ ⟨rfl, w⟩
    · have w := w.2 c14
      refine X_aload_n (j := 0) (show decode cX5_init 55 = .ok (.aload_n 0, 1) by decide +kernel) rfl rfl ?_
      obtain ⟨s15, w⟩ := w
      refine X_getR fl_X5_21 (show decode cX5_init 56 = .ok (.getfield 21, 3) by decide +kernel) s15 ?_
      refine X_iload_n (j := 1) (show decode cX5_init 59 = .ok (.iload_n 1, 1) by decide +kernel) rfl rfl ?_
      refine X_getstR (j := 2) rfl (by decide) gz_X5_36 (show decode cX5_init 60 = .ok (.getstatic 36, 3) by decide +kernel) ?_
      obtain ⟨s16, w⟩ := w
      obtain ⟨s17, w⟩ := w
      obtain ⟨s18, w⟩ := w
      obtain ⟨s19, w⟩ := w
      obtain ⟨s20, w⟩ := w
      refine X_aastC (show decode cX5_init 63 = .ok (.aastore, 1) by decide +kernel) (isA_eq s16) s17 s18 s19 s20 ?_
      have w := w _ rfl
      refine X_iinc (j := 1) (v := _ + (nI 1)) (ls' := [(0, .ref _), (1, .int _)]) (show decode cX5_init 64 = .ok (.iinc 1 1, 3) by decide +kernel) rfl rfl (Nat.le_of_ble_eq_true rfl) rfl ?_
      refine X_goto (tgt := 49) (show decode cX5_init 67 = .ok (.goto (-18), 3) by decide +kernel) (by decide) ?_
      exact ih _ _ _ w
set_option maxRecDepth 100000 in
set_option maxHeartbeats 4000000 in
theorem kX5_init {a0 : Nat} {h : AH} {K : AH → Prop} (w : wX5_init a0 h K) : Cn mX5_init (cwd mX5_init) 2 16 125 [.ref a0] h (KV K) T0 := by
  refine Cn_of (by decide +kernel) rfl (Nat.le_of_ble_eq_true rfl) ?_
  show X mX5_init 2 (KV K) T0 16 125 0 [(0, .ref a0)] [] h
  unfold wX5_init at w
  refine X_aload_n (j := 0) (show decode cX5_init 0 = .ok (.aload_n 0, 1) by decide +kernel) rfl rfl ?_
  obtain ⟨s1, w⟩ := w
  refine X_objInit (show decode cX5_init 1 = .ok (.invokespecial 3, 3) by decide +kernel) gl_X5_3 gi_obj gco_obj s1 (by decide) (by decide) ?_
  refine X_aload_n (j := 0) (show decode cX5_init 4 = .ok (.aload_n 0, 1) by decide +kernel) rfl rfl ?_
  refine X_bipush (v := (nI 60)) (show decode cX5_init 5 = .ok (.bipush 60, 2) by decide +kernel) (by decide) ?_
  refine X_newa (N := 60) (rc' := 15) (rs' := 65) na_4 (by decide) (show decode cX5_init 7 = .ok (.newarray .char, 2) by decide +kernel) (by decide) (by decide) (Nat.le_of_ble_eq_true rfl) (Nat.le_of_ble_eq_true rfl) (Nat.le_of_ble_eq_true rfl) ?_
  have w := w _ rfl
  obtain ⟨s3, w⟩ := w
  refine X_putR fp_X5_9 (show decode cX5_init 9 = .ok (.putfield 9, 3) by decide +kernel) (fun _ => rfl) (by first | exact Or.inl ⟨_, rfl⟩ | exact Or.inr ⟨_, rfl⟩) s3 ?_
  have w := w _ rfl
  refine X_aload_n (j := 0) (show decode cX5_init 12 = .ok (.aload_n 0, 1) by decide +kernel) rfl rfl ?_
  refine X_iconst (v := (nI 0)) (show decode cX5_init 13 = .ok (.iconst 0, 1) by decide +kernel) (by decide) ?_
  refine X_putI fp_X5_15 (show decode cX5_init 14 = .ok (.putfield 15, 3) by decide +kernel) (fun z => nomatch z) s3 rfl rfl ?_
  have w := w _ rfl
  refine X_aload_n (j := 0) (show decode cX5_init 17 = .ok (.aload_n 0, 1) by decide +kernel) rfl rfl ?_
  refine X_bipush (v := (nI 13)) (show decode cX5_init 18 = .ok (.bipush 13, 2) by decide +kernel) (by decide) ?_
  refine X_newq (t := 7) (N := 13) (rc' := 14) (rs' := 52) gk_X5_19 (by decide) (by decide) (by decide) rfl (show decode cX5_init 20 = .ok (.anewarray 19, 3) by decide +kernel) (by decide) (by decide) (Nat.le_of_ble_eq_true rfl) (Nat.le_of_ble_eq_true rfl) (Nat.le_of_ble_eq_true rfl) ?_
  have w := w _ rfl
  obtain ⟨s7, w⟩ := w
  refine X_putR fp_X5_21 (show decode cX5_init 23 = .ok (.putfield 21, 3) by decide +kernel) (fun _ => rfl) (by first | exact Or.inl ⟨_, rfl⟩ | exact Or.inr ⟨_, rfl⟩) s7 ?_
  have w := w _ rfl
  refine X_aload_n (j := 0) (show decode cX5_init 26 = .ok (.aload_n 0, 1) by decide +kernel) rfl rfl ?_
  refine X_bipush (v := (nI 13)) (show decode cX5_init 27 = .ok (.bipush 13, 2) by decide +kernel) (by decide) ?_
  refine X_iconst (v := (nI 3)) (show decode cX5_init 29 = .ok (.iconst 3, 1) by decide +kernel) (by decide) ?_
  refine X_multi (N := 13) (N2 := 3) (rc' := 0) (rs' := 0) gk_X5_25 (show decode cX5_init 30 = .ok (.multianewarray 25 2, 4) by decide +kernel) (by decide) (by decide) (by decide) (by decide) (by decide) (by decide) (Nat.le_of_ble_eq_true rfl) (Nat.le_of_ble_eq_true rfl) ?_
  have w := w _ rfl
  obtain ⟨s10, w⟩ := w
  refine X_putR fp_X5_27 (show decode cX5_init 34 = .ok (.putfield 27, 3) by decide +kernel) (fun _ => rfl) (by first | exact Or.inl ⟨_, rfl⟩ | exact Or.inr ⟨_, rfl⟩) s10 ?_
  have w := w _ rfl
  refine X_aload_n (j := 0) (show decode cX5_init 37 = .ok (.aload_n 0, 1) by decide +kernel) rfl rfl ?_
  refine X_iconst (v := (nI 0)) (show decode cX5_init 38 = .ok (.iconst 0, 1) by decide +kernel) (by decide) ?_
  refine X_putI fp_X5_30 (show decode cX5_init 39 = .ok (.putfield 30, 3) by decide +kernel) (fun z => nomatch z) s10 rfl rfl ?_
  have w := w _ rfl
  refine X_aload_n (j := 0) (show decode cX5_init 42 = .ok (.aload_n 0, 1) by decide +kernel) rfl rfl ?_
  refine X_iconst (v := (nI 0)) (show decode cX5_init 43 = .ok (.iconst 0, 1) by decide +kernel) (by decide) ?_
  refine X_putI fp_X5_33 (show decode cX5_init 44 = .ok (.putfield 33, 3) by decide +kernel) (fun z => nomatch z) s10 rfl rfl ?_
  have w := w _ rfl
  refine X_iconst (v := (nI 0)) (show decode cX5_init 47 = .ok (.iconst 0, 1) by decide +kernel) (by decide) ?_
  refine X_istore_n (ls' := [(0, .ref _), (1, .int _)]) (show decode cX5_init 48 = .ok (.istore_n 1, 1) by decide +kernel) rfl (by decide) rfl ?_
  obtain ⟨n22, w⟩ := w
  exact kX5_init_L49  n22 _ _ _ w
set_option maxRecDepth 100000 in
set_option maxHeartbeats 4000000 in
theorem kJ5_init_d00df {a0 : Nat} {a1 : Int32} {h : AH} {K : AH → Prop} (w : wJ5_init_d00df a0 a1 h K) : Cn mJ5_init_d00df (cwd mJ5_init_d00df) 2 1 256 [.ref a0, .int a1] h (KV K) T0 := by
  refine Cn_of (by decide +kernel) rfl (Nat.le_of_ble_eq_true rfl) ?_
  show X mJ5_init_d00df 2 (KV K) T0 1 256 0 [(0, .ref a0), (1, .int a1)] [] h
  unfold wJ5_init_d00df at w
  refine X_aload_n (j := 0) (show decode cJ5_init_d00df 0 = .ok (.aload_n 0, 1) by decide +kernel) rfl rfl ?_
  obtain ⟨s1, w⟩ := w
  refine X_objInit (show decode cJ5_init_d00df 1 = .ok (.invokespecial 3, 3) by decide +kernel) gl_J5_3 gi_obj gco_obj s1 (by decide) (by decide) ?_
  refine X_getstI (j := 3) rfl gz_J5_18 (show decode cJ5_init_d00df 4 = .ok (.getstatic 18, 3) by decide +kernel) ?_
  refine X_if_eq (tgt := 25) (show decode cJ5_init_d00df 7 = .ok (.ifCond .eq 18, 3) by decide +kernel) (by decide) ⟨fun c2 => ?_, fun c2 => ?_⟩
  · have w := w.1 c2
    exact w.elim
  · have w := w.2 c2
    refine X_aload_n (j := 0) (show decode cJ5_init_d00df 10 = .ok (.aload_n 0, 1) by decide +kernel) rfl rfl ?_
    refine X_iload_n (j := 1) (show decode cJ5_init_d00df 11 = .ok (.iload_n 1, 1) by decide +kernel) rfl rfl ?_
    obtain ⟨s3, w⟩ := w
    obtain ⟨s4, w⟩ := w
    refine X_newa (N := a1.toNatClampNeg) (rc' := 0) (rs' := 0) na_3 (by decide) (show decode cJ5_init_d00df 12 = .ok (.newarray .byte, 2) by decide +kernel) s3 rfl (by have := s4; simp only [ty_, componentBytes]; omega) (Nat.le_of_ble_eq_true rfl) (by omega) ?_
    have w := w _ rfl
    obtain ⟨s6, w⟩ := w
    refine X_putR fp_J5_15 (show decode cJ5_init_d00df 14 = .ok (.putfield 15, 3) by decide +kernel) (fun z => nomatch z) (by first | exact Or.inl ⟨_, rfl⟩ | exact Or.inr ⟨_, rfl⟩) s6 ?_
    have w := w _ rfl
    refine X_aload_n (j := 0) (show decode cJ5_init_d00df 17 = .ok (.aload_n 0, 1) by decide +kernel) rfl rfl ?_
    refine X_iconst (v := (nI 0)) (show decode cJ5_init_d00df 18 = .ok (.iconst 0, 1) by decide +kernel) (by decide) ?_
    refine X_putI fp_J5_22 (show decode cJ5_init_d00df 19 = .ok (.putfield 22, 3) by decide +kernel) (fun z => nomatch z) s6 (by decide) (by decide) ?_
    have w := w _ rfl
    refine X_goto (tgt := 38) (show decode cJ5_init_d00df 22 = .ok (.goto 16, 3) by decide +kernel) (by decide) ?_
    exact X_vret ⟨(show decode cJ5_init_d00df 38 = .ok (.return_, 1) by decide +kernel), rfl⟩ ⟨rfl, w⟩
set_option maxRecDepth 100000 in
set_option maxHeartbeats 4000000 in
theorem kJ4_init_da8c8 {a0 : Nat} {h : AH} {K : AH → Prop} (w : wJ4_init_da8c8 a0 h K) : Cn mJ4_init_da8c8 (cwd mJ4_init_da8c8) 3 1 256 [.ref a0] h (KV K) T0 := by
  refine Cn_of (by decide +kernel) rfl (Nat.le_of_ble_eq_true rfl) ?_
  show X mJ4_init_da8c8 3 (KV K) T0 1 256 0 [(0, .ref a0)] [] h
  unfold wJ4_init_da8c8 at w
  refine X_aload_n (j := 0) (show decode cJ4_init_da8c8 0 = .ok (.aload_n 0, 1) by decide +kernel) rfl rfl ?_
  refine X_bipush (v := (nI 16)) (show decode cJ4_init_da8c8 1 = .ok (.bipush 16, 2) by decide +kernel) (by decide) ?_
  obtain ⟨s3, w⟩ := w
  refine X_iV (rc' := 0) (rs' := 0) (as := [.int _]) mi_J4_1 (show decode cJ4_init_da8c8 3 = .ok (.invokespecial 1, 3) by decide +kernel) (by decide) (Nat.le_of_ble_eq_true rfl) (Nat.le_of_ble_eq_true rfl) rfl rfl (Nat.le_of_ble_eq_true rfl) s3 (kJ5_init_d00df w) (fun h1 w => ?_)
  exact X_vret ⟨(show decode cJ4_init_da8c8 6 = .ok (.return_, 1) by decide +kernel), rfl⟩ ⟨rfl, w⟩
set_option maxRecDepth 100000 in
set_option maxHeartbeats 4000000 in
theorem kX9_init {a0 : Nat} {h : AH} {K : AH → Prop} (w : wX9_init a0 h K) : Cn mX9_init (cwd mX9_init) 5 655 6944 [.ref a0] h (KV K) T0 := by
  refine Cn_of (by decide +kernel) rfl (Nat.le_of_ble_eq_true rfl) ?_
  show X mX9_init 5 (KV K) T0 655 6944 0 [(0, .ref a0)] [] h
  unfold wX9_init at w
  refine X_aload_n (j := 0) (show decode cX9_init 0 = .ok (.aload_n 0, 1) by decide +kernel) rfl rfl ?_
  obtain ⟨s1, w⟩ := w
  refine X_objInit (show decode cX9_init 1 = .ok (.invokespecial 3, 3) by decide +kernel) gl_X9_3 gi_obj gco_obj s1 (by decide) (by decide) ?_
  refine X_aload_n (j := 0) (show decode cX9_init 4 = .ok (.aload_n 0, 1) by decide +kernel) rfl rfl ?_
  refine X_new (rc' := 654) (rs' := 6935) nw_X9_9 (show decode cX9_init 5 = .ok (.new 9, 3) by decide +kernel) (Nat.le_of_ble_eq_true rfl) (Nat.le_of_ble_eq_true rfl) ?_
  have w := w _ rfl
  refine X_dup (show decode cX9_init 8 = .ok (.dup, 1) by decide +kernel) rfl ?_
  obtain ⟨s48, w⟩ := w
  refine X_iV (rc' := 610) (rs' := 6479) (as := []) mi_X9_11 (show decode cX9_init 9 = .ok (.invokespecial 11, 3) by decide +kernel) (by decide) (Nat.le_of_ble_eq_true rfl) (Nat.le_of_ble_eq_true rfl) rfl rfl (Nat.le_of_ble_eq_true rfl) s48 (kX7_init w) (fun h3 w => ?_)
  obtain ⟨s5, w⟩ := w
  refine X_putR fp_X9_12 (show decode cX9_init 12 = .ok (.putfield 12, 3) by decide +kernel) (fun _ => rfl) (by first | exact Or.inl ⟨_, rfl⟩ | exact Or.inr ⟨_, rfl⟩) s5 ?_
  have w := w _ rfl
  refine X_aload_n (j := 0) (show decode cX9_init 15 = .ok (.aload_n 0, 1) by decide +kernel) rfl rfl ?_
  refine X_new (rc' := 609) (rs' := 6470) nw_X9_9 (show decode cX9_init 16 = .ok (.new 9, 3) by decide +kernel) (Nat.le_of_ble_eq_true rfl) (Nat.le_of_ble_eq_true rfl) ?_
  have w := w _ rfl
  refine X_dup (show decode cX9_init 19 = .ok (.dup, 1) by decide +kernel) rfl ?_
  obtain ⟨s47, w⟩ := w
  refine X_iV (rc' := 565) (rs' := 6014) (as := []) mi_X9_11 (show decode cX9_init 20 = .ok (.invokespecial 11, 3) by decide +kernel) (by decide) (Nat.le_of_ble_eq_true rfl) (Nat.le_of_ble_eq_true rfl) rfl rfl (Nat.le_of_ble_eq_true rfl) s47 (kX7_init w) (fun h8 w => ?_)
  obtain ⟨s10, w⟩ := w
  refine X_putR fp_X9_16 (show decode cX9_init 23 = .ok (.putfield 16, 3) by decide +kernel) (fun _ => rfl) (by first | exact Or.inl ⟨_, rfl⟩ | exact Or.inr ⟨_, rfl⟩) s10 ?_
  have w := w _ rfl
  refine X_aload_n (j := 0) (show decode cX9_init 26 = .ok (.aload_n 0, 1) by decide +kernel) rfl rfl ?_
  refine X_new (rc' := 564) (rs' := 6005) nw_X9_9 (show decode cX9_init 27 = .ok (.new 9, 3) by decide +kernel) (Nat.le_of_ble_eq_true rfl) (Nat.le_of_ble_eq_true rfl) ?_
  have w := w _ rfl
  refine X_dup (show decode cX9_init 30 = .ok (.dup, 1) by decide +kernel) rfl ?_
  obtain ⟨s46, w⟩ := w
  refine X_iV (rc' := 520) (rs' := 5549) (as := []) mi_X9_11 (show decode cX9_init 31 = .ok (.invokespecial 11, 3) by decide +kernel) (by decide) (Nat.le_of_ble_eq_true rfl) (Nat.le_of_ble_eq_true rfl) rfl rfl (Nat.le_of_ble_eq_true rfl) s46 (kX7_init w) (fun h13 w => ?_)
  obtain ⟨s15, w⟩ := w
  refine X_putR fp_X9_19 (show decode cX9_init 34 = .ok (.putfield 19, 3) by decide +kernel) (fun _ => rfl) (by first | exact Or.inl ⟨_, rfl⟩ | exact Or.inr ⟨_, rfl⟩) s15 ?_
  have w := w _ rfl
  refine X_aload_n (j := 0) (show decode cX9_init 37 = .ok (.aload_n 0, 1) by decide +kernel) rfl rfl ?_
  refine X_new (rc' := 519) (rs' := 5546) nw_X9_22 (show decode cX9_init 38 = .ok (.new 22, 3) by decide +kernel) (Nat.le_of_ble_eq_true rfl) (Nat.le_of_ble_eq_true rfl) ?_
  have w := w _ rfl
  refine X_dup (show decode cX9_init 41 = .ok (.dup, 1) by decide +kernel) rfl ?_
  obtain ⟨s45, w⟩ := w
  refine X_iV (rc' := 23) (rs' := 422) (as := []) mi_X9_24 (show decode cX9_init 42 = .ok (.invokespecial 24, 3) by decide +kernel) (by decide) (Nat.le_of_ble_eq_true rfl) (Nat.le_of_ble_eq_true rfl) rfl rfl (Nat.le_of_ble_eq_true rfl) s45 (kX2_init w) (fun h18 w => ?_)
  obtain ⟨s20, w⟩ := w
  refine X_putR fp_X9_25 (show decode cX9_init 45 = .ok (.putfield 25, 3) by decide +kernel) (fun _ => rfl) (by first | exact Or.inl ⟨_, rfl⟩ | exact Or.inr ⟨_, rfl⟩) s20 ?_
  have w := w _ rfl
  refine X_aload_n (j := 0) (show decode cX9_init 48 = .ok (.aload_n 0, 1) by decide +kernel) rfl rfl ?_
  refine X_new (rc' := 22) (rs' := 415) nw_X9_29 (show decode cX9_init 49 = .ok (.new 29, 3) by decide +kernel) (Nat.le_of_ble_eq_true rfl) (Nat.le_of_ble_eq_true rfl) ?_
  have w := w _ rfl
  refine X_dup (show decode cX9_init 52 = .ok (.dup, 1) by decide +kernel) rfl ?_
  obtain ⟨s44, w⟩ := w
  refine X_iV (rc' := 19) (rs' := 391) (as := []) mi_X9_31 (show decode cX9_init 53 = .ok (.invokespecial 31, 3) by decide +kernel) (by decide) (Nat.le_of_ble_eq_true rfl) (Nat.le_of_ble_eq_true rfl) rfl rfl (Nat.le_of_ble_eq_true rfl) s44 (kX6_init w) (fun h23 w => ?_)
  obtain ⟨s25, w⟩ := w
  refine X_putR fp_X9_32 (show decode cX9_init 56 = .ok (.putfield 32, 3) by decide +kernel) (fun _ => rfl) (by first | exact Or.inl ⟨_, rfl⟩ | exact Or.inr ⟨_, rfl⟩) s25 ?_
  have w := w _ rfl
  refine X_aload_n (j := 0) (show decode cX9_init 59 = .ok (.aload_n 0, 1) by decide +kernel) rfl rfl ?_
  refine X_new (rc' := 18) (rs' := 385) nw_X9_36 (show decode cX9_init 60 = .ok (.new 36, 3) by decide +kernel) (Nat.le_of_ble_eq_true rfl) (Nat.le_of_ble_eq_true rfl) ?_
  have w := w _ rfl
  refine X_dup (show decode cX9_init 63 = .ok (.dup, 1) by decide +kernel) rfl ?_
  obtain ⟨s43, w⟩ := w
  refine X_iV (rc' := 2) (rs' := 260) (as := []) mi_X9_38 (show decode cX9_init 64 = .ok (.invokespecial 38, 3) by decide +kernel) (by decide) (Nat.le_of_ble_eq_true rfl) (Nat.le_of_ble_eq_true rfl) rfl rfl (Nat.le_of_ble_eq_true rfl) s43 (kX5_init w) (fun h28 w => ?_)
  obtain ⟨s30, w⟩ := w
  refine X_putR fp_X9_39 (show decode cX9_init 67 = .ok (.putfield 39, 3) by decide +kernel) (fun _ => rfl) (by first | exact Or.inl ⟨_, rfl⟩ | exact Or.inr ⟨_, rfl⟩) s30 ?_
  have w := w _ rfl
  refine X_aload_n (j := 0) (show decode cX9_init 70 = .ok (.aload_n 0, 1) by decide +kernel) rfl rfl ?_
  refine X_new (rc' := 1) (rs' := 256) nw_X9_43 (show decode cX9_init 71 = .ok (.new 43, 3) by decide +kernel) (Nat.le_of_ble_eq_true rfl) (Nat.le_of_ble_eq_true rfl) ?_
  have w := w _ rfl
  refine X_dup (show decode cX9_init 74 = .ok (.dup, 1) by decide +kernel) rfl ?_
  obtain ⟨s42, w⟩ := w
  refine X_iV (rc' := 0) (rs' := 0) (as := []) mi_X9_45 (show decode cX9_init 75 = .ok (.invokespecial 45, 3) by decide +kernel) (by decide) (Nat.le_of_ble_eq_true rfl) (Nat.le_of_ble_eq_true rfl) rfl rfl (Nat.le_of_ble_eq_true rfl) s42 (kJ4_init_da8c8 w) (fun h33 w => ?_)
  obtain ⟨s35, w⟩ := w
  refine X_putR fp_X9_46 (show decode cX9_init 78 = .ok (.putfield 46, 3) by decide +kernel) (fun _ => rfl) (by first | exact Or.inl ⟨_, rfl⟩ | exact Or.inr ⟨_, rfl⟩) s35 ?_
  have w := w _ rfl
  refine X_aload_n (j := 0) (show decode cX9_init 81 = .ok (.aload_n 0, 1) by decide +kernel) rfl rfl ?_
  refine X_iconst (v := (nI 0)) (show decode cX9_init 82 = .ok (.iconst 0, 1) by decide +kernel) (by decide) ?_
  refine X_putI fp_X9_50 (show decode cX9_init 83 = .ok (.putfield 50, 3) by decide +kernel) (fun z => nomatch z) s35 (by decide) (by decide) ?_
  have w := w _ rfl
  refine X_aload_n (j := 0) (show decode cX9_init 86 = .ok (.aload_n 0, 1) by decide +kernel) rfl rfl ?_
  refine X_iconst (v := (nI 0)) (show decode cX9_init 87 = .ok (.iconst 0, 1) by decide +kernel) (by decide) ?_
  refine X_putI fp_X9_54 (show decode cX9_init 88 = .ok (.putfield 54, 3) by decide +kernel) (fun z => nomatch z) s35 (by decide) (by decide) ?_
  have w := w _ rfl
  refine X_aload_n (j := 0) (show decode cX9_init 91 = .ok (.aload_n 0, 1) by decide +kernel) rfl rfl ?_
  refine X_iconst (v := (-1)) (show decode cX9_init 92 = .ok (.iconst (-1), 1) by decide +kernel) (by decide) ?_
  refine X_putI fp_X9_58 (show decode cX9_init 93 = .ok (.putfield 58, 3) by decide +kernel) (fun z => nomatch z) s35 rfl rfl ?_
  have w := w _ rfl
  refine X_aload_n (j := 0) (show decode cX9_init 96 = .ok (.aload_n 0, 1) by decide +kernel) rfl rfl ?_
  refine X_iconst (v := (-1)) (show decode cX9_init 97 = .ok (.iconst (-1), 1) by decide +kernel) (by decide) ?_
  refine X_putI fp_X9_62 (show decode cX9_init 98 = .ok (.putfield 62, 3) by decide +kernel) (fun z => nomatch z) s35 rfl rfl ?_
  have w := w _ rfl
  refine X_aload_n (j := 0) (show decode cX9_init 101 = .ok (.aload_n 0, 1) by decide +kernel) rfl rfl ?_
  refine X_iconst (v := (-1)) (show decode cX9_init 102 = .ok (.iconst (-1), 1) by decide +kernel) (by decide) ?_
  refine X_putI fp_X9_65 (show decode cX9_init 103 = .ok (.putfield 65, 3) by decide +kernel) (fun z => nomatch z) s35 rfl rfl ?_
  have w := w _ rfl
  exact X_vret ⟨(show decode cX9_init 106 = .ok (.return_, 1) by decide +kernel), rfl⟩ ⟨rfl, w⟩
set_option maxRecDepth 100000 in
set_option maxHeartbeats 4000000 in
theorem kX4_copyFrom_L102 {K : AH → Prop}    : ∀ (n : Nat) (x0 : Nat) (x1 : Nat) (x2 : Int32) (h : AH), wX4_copyFrom_L102 K   n x0 x1 x2 h → X mX4_copyFrom 2 (KV K) T0 0 0 102 [(0, .ref x0), (1, .ref x1), (2, .int x2)] [] h := by
  intro n
  induction n with
  | zero => intro _ _ _ _ w; exact w.elim
  | succ n ih =>
    intro x0 x1 x2 h w
    rw [wX4_copyFrom_L102] at w
    refine X_iload_n (j := 2) (show decode cX4_copyFrom 102 = .ok (.iload_n 2, 1) by decide +kernel) rfl rfl ?_
    refine X_bipush (v := (nI 12)) (show decode cX4_copyFrom 103 = .ok (.bipush 12, 2) by decide +kernel) (by decide) ?_
    refine X_icmp_ge (tgt := 152) (show decode cX4_copyFrom 105 = .ok (.if_icmp .ge 47, 3) by decide +kernel) (by decide) ⟨fun c36 => ?_, fun c36 => ?_⟩
    · have w := w.1 c36
      exact X_vret ⟨(show decode cX4_copyFrom 152 = .ok (.return_, 1) by decide +kernel), rfl⟩ ⟨rfl, w⟩
    · have w := w.2 c36
      refine X_aload_n (j := 1) (show decode cX4_copyFrom 108 = .ok (.aload_n 1, 1) by decide +kernel) rfl rfl ?_
      obtain ⟨s37, w⟩ := w
      refine X_getR fl_X4_42 (show decode cX4_copyFrom 109 = .ok (.getfield 42, 3) by decide +kernel) s37 ?_
      refine X_iload_n (j := 2) (show decode cX4_copyFrom 112 = .ok (.iload_n 2, 1) by decide +kernel) rfl rfl ?_
      obtain ⟨s38, w⟩ := w
      obtain ⟨s39, w⟩ := w
      obtain ⟨s40, w⟩ := w
      refine X_aaldA (show decode cX4_copyFrom 113 = .ok (.aaload, 1) by decide +kernel) (isA_eq s38) s39 s40 ?_
      refine X_iconst (v := (nI 0)) (show decode cX4_copyFrom 114 = .ok (.iconst 0, 1) by decide +kernel) (by decide) ?_
      refine X_aload_n (j := 0) (show decode cX4_copyFrom 115 = .ok (.aload_n 0, 1) by decide +kernel) rfl rfl ?_
      obtain ⟨s41, w⟩ := w
      refine X_getR fl_X4_42 (show decode cX4_copyFrom 116 = .ok (.getfield 42, 3) by decide +kernel) s41 ?_
      refine X_iload_n (j := 2) (show decode cX4_copyFrom 119 = .ok (.iload_n 2, 1) by decide +kernel) rfl rfl ?_
      obtain ⟨s42, w⟩ := w
      obtain ⟨s43, w⟩ := w
      obtain ⟨s44, w⟩ := w
      refine X_aaldA (show decode cX4_copyFrom 120 = .ok (.aaload, 1) by decide +kernel) (isA_eq s42) s43 s44 ?_
      refine X_iconst (v := (nI 0)) (show decode cX4_copyFrom 121 = .ok (.iconst 0, 1) by decide +kernel) (by decide) ?_
      refine X_bipush (v := (nI 12)) (show decode cX4_copyFrom 122 = .ok (.bipush 12, 2) by decide +kernel) (by decide) ?_
      obtain ⟨s45, w⟩ := w
      obtain ⟨s46, w⟩ := w
      obtain ⟨s47, w⟩ := w
      obtain ⟨s48, w⟩ := w
      obtain ⟨s49, w⟩ := w
      obtain ⟨s50, w⟩ := w
      refine X_copy (t := 0) (show decode cX4_copyFrom 124 = .ok (.invokestatic 51, 3) by decide +kernel) gl_X4_51 gna_copy gst_copy gin_Sys (by decide) (Nat.le_of_ble_eq_true rfl) (by decide) (isA_eq s45) (isA_eq s46) s47 s48 (by decide) (by decide) (by decide) s49 s50 (fun _ _ => rfl) ?_
      have w := w _ rfl
      refine X_aload_n (j := 1) (show decode cX4_copyFrom 127 = .ok (.aload_n 1, 1) by decide +kernel) rfl rfl ?_
      refine X_getR fl_X4_45 (show decode cX4_copyFrom 128 = .ok (.getfield 45, 3) by decide +kernel) s37 ?_
      refine X_iload_n (j := 2) (show decode cX4_copyFrom 131 = .ok (.iload_n 2, 1) by decide +kernel) rfl rfl ?_
      obtain ⟨s52, w⟩ := w
      obtain ⟨s53, w⟩ := w
      obtain ⟨s54, w⟩ := w
      refine X_aaldA (show decode cX4_copyFrom 132 = .ok (.aaload, 1) by decide +kernel) (isA_eq s52) s53 s54 ?_
      refine X_iconst (v := (nI 0)) (show decode cX4_copyFrom 133 = .ok (.iconst 0, 1) by decide +kernel) (by decide) ?_
      refine X_aload_n (j := 0) (show decode cX4_copyFrom 134 = .ok (.aload_n 0, 1) by decide +kernel) rfl rfl ?_
      refine X_getR fl_X4_45 (show decode cX4_copyFrom 135 = .ok (.getfield 45, 3) by decide +kernel) s41 ?_
      refine X_iload_n (j := 2) (show decode cX4_copyFrom 138 = .ok (.iload_n 2, 1) by decide +kernel) rfl rfl ?_
      obtain ⟨s55, w⟩ := w
      obtain ⟨s56, w⟩ := w
      obtain ⟨s57, w⟩ := w
      refine X_aaldA (show decode cX4_copyFrom 139 = .ok (.aaload, 1) by decide +kernel) (isA_eq s55) s56 s57 ?_
      refine X_iconst (v := (nI 0)) (show decode cX4_copyFrom 140 = .ok (.iconst 0, 1) by decide +kernel) (by decide) ?_
      refine X_bipush (v := (nI 12)) (show decode cX4_copyFrom 141 = .ok (.bipush 12, 2) by decide +kernel) (by decide) ?_
      obtain ⟨s58, w⟩ := w
      obtain ⟨s59, w⟩ := w
      obtain ⟨s60, w⟩ := w
      obtain ⟨s61, w⟩ := w
      obtain ⟨s62, w⟩ := w
      obtain ⟨s63, w⟩ := w
      refine X_copy (t := 0) (show decode cX4_copyFrom 143 = .ok (.invokestatic 51, 3) by decide +kernel) gl_X4_51 gna_copy gst_copy gin_Sys (by decide) (Nat.le_of_ble_eq_true rfl) (by decide) (isA_eq s58) (isA_eq s59) s60 s61 (by decide) (by decide) (by decide) s62 s63 (fun _ _ => rfl) ?_
      have w := w _ rfl
      refine X_iinc (j := 2) (v := _ + (nI 1)) (ls' := [(0, .ref _), (1, .ref _), (2, .int _)]) (show decode cX4_copyFrom 146 = .ok (.iinc 2 1, 3) by decide +kernel) rfl rfl (Nat.le_of_ble_eq_true rfl) rfl ?_
      refine X_goto (tgt := 102) (show decode cX4_copyFrom 149 = .ok (.goto (-47), 3) by decide +kernel) (by decide) ?_
      exact ih _ _ _ _ w
set_option maxRecDepth 100000 in
set_option maxHeartbeats 4000000 in
theorem kX4_copyFrom {a0 : Nat} {a1 : Nat} {h : AH} {K : AH → Prop} (w : wX4_copyFrom a0 a1 h K) : Cn mX4_copyFrom (cwd mX4_copyFrom) 2 0 0 [.ref a0, .ref a1] h (KV K) T0 := by
  refine Cn_of (by decide +kernel) rfl (Nat.le_of_ble_eq_true rfl) ?_
  show X mX4_copyFrom 2 (KV K) T0 0 0 0 [(0, .ref a0), (1, .ref a1)] [] h
  unfold wX4_copyFrom at w
  refine X_aload_n (j := 0) (show decode cX4_copyFrom 0 = .ok (.aload_n 0, 1) by decide +kernel) rfl rfl ?_
  refine X_aload_n (j := 1) (show decode cX4_copyFrom 1 = .ok (.aload_n 1, 1) by decide +kernel) rfl rfl ?_
  obtain ⟨s1, w⟩ := w
  refine X_getI fl_X4_9 (show decode cX4_copyFrom 2 = .ok (.getfield 9, 3) by decide +kernel) s1 ?_
  obtain ⟨s2, w⟩ := w
  refine X_putI fp_X4_9 (show decode cX4_copyFrom 5 = .ok (.putfield 9, 3) by decide +kernel) (fun z => nomatch z) s2 rfl rfl ?_
  have w := w _ rfl
  refine X_aload_n (j := 0) (show decode cX4_copyFrom 8 = .ok (.aload_n 0, 1) by decide +kernel) rfl rfl ?_
  refine X_aload_n (j := 1) (show decode cX4_copyFrom 9 = .ok (.aload_n 1, 1) by decide +kernel) rfl rfl ?_
  refine X_getI fl_X4_15 (show decode cX4_copyFrom 10 = .ok (.getfield 15, 3) by decide +kernel) s1 ?_
  refine X_putI fp_X4_15 (show decode cX4_copyFrom 13 = .ok (.putfield 15, 3) by decide +kernel) (fun z => nomatch z) s2 rfl rfl ?_
  have w := w _ rfl
  refine X_aload_n (j := 0) (show decode cX4_copyFrom 16 = .ok (.aload_n 0, 1) by decide +kernel) rfl rfl ?_
  refine X_aload_n (j := 1) (show decode cX4_copyFrom 17 = .ok (.aload_n 1, 1) by decide +kernel) rfl rfl ?_
  refine X_getI fl_X4_18 (show decode cX4_copyFrom 18 = .ok (.getfield 18, 3) by decide +kernel) s1 ?_
  refine X_putI fp_X4_18 (show decode cX4_copyFrom 21 = .ok (.putfield 18, 3) by decide +kernel) (fun z => nomatch z) s2 rfl rfl ?_
  have w := w _ rfl
  refine X_aload_n (j := 0) (show decode cX4_copyFrom 24 = .ok (.aload_n 0, 1) by decide +kernel) rfl rfl ?_
  refine X_aload_n (j := 1) (show decode cX4_copyFrom 25 = .ok (.aload_n 1, 1) by decide +kernel) rfl rfl ?_
  refine X_getI fl_X4_21 (show decode cX4_copyFrom 26 = .ok (.getfield 21, 3) by decide +kernel) s1 ?_
  refine X_putI fp_X4_21 (show decode cX4_copyFrom 29 = .ok (.putfield 21, 3) by decide +kernel) (fun z => nomatch z) s2 rfl rfl ?_
  have w := w _ rfl
  refine X_aload_n (j := 0) (show decode cX4_copyFrom 32 = .ok (.aload_n 0, 1) by decide +kernel) rfl rfl ?_
  refine X_aload_n (j := 1) (show decode cX4_copyFrom 33 = .ok (.aload_n 1, 1) by decide +kernel) rfl rfl ?_
  refine X_getI fl_X4_24 (show decode cX4_copyFrom 34 = .ok (.getfield 24, 3) by decide +kernel) s1 ?_
  refine X_putI fp_X4_24 (show decode cX4_copyFrom 37 = .ok (.putfield 24, 3) by decide +kernel) (fun z => nomatch z) s2 rfl rfl ?_
  have w := w _ rfl
  refine X_aload_n (j := 1) (show decode cX4_copyFrom 40 = .ok (.aload_n 1, 1) by decide +kernel) rfl rfl ?_
  refine X_getR fl_X4_27 (show decode cX4_copyFrom 41 = .ok (.getfield 27, 3) by decide +kernel) s1 ?_
  refine X_iconst (v := (nI 0)) (show decode cX4_copyFrom 44 = .ok (.iconst 0, 1) by decide +kernel) (by decide) ?_
  refine X_aload_n (j := 0) (show decode cX4_copyFrom 45 = .ok (.aload_n 0, 1) by decide +kernel) rfl rfl ?_
  refine X_getR fl_X4_27 (show decode cX4_copyFrom 46 = .ok (.getfield 27, 3) by decide +kernel) s2 ?_
  refine X_iconst (v := (nI 0)) (show decode cX4_copyFrom 49 = .ok (.iconst 0, 1) by decide +kernel) (by decide) ?_
  refine X_bipush (v := (nI 12)) (show decode cX4_copyFrom 50 = .ok (.bipush 12, 2) by decide +kernel) (by decide) ?_
  obtain ⟨s8, w⟩ := w
  obtain ⟨s9, w⟩ := w
  obtain ⟨s10, w⟩ := w
  obtain ⟨s11, w⟩ := w
  obtain ⟨s12, w⟩ := w
  obtain ⟨s13, w⟩ := w
  refine X_copy (t := 0) (show decode cX4_copyFrom 52 = .ok (.invokestatic 51, 3) by decide +kernel) gl_X4_51 gna_copy gst_copy gin_Sys (by decide) (Nat.le_of_ble_eq_true rfl) (by decide) (isA_eq s8) (isA_eq s9) s10 s11 (by decide) (by decide) (by decide) s12 s13 (fun _ _ => rfl) ?_
  have w := w _ rfl
  refine X_aload_n (j := 1) (show decode cX4_copyFrom 55 = .ok (.aload_n 1, 1) by decide +kernel) rfl rfl ?_
  refine X_getR fl_X4_31 (show decode cX4_copyFrom 56 = .ok (.getfield 31, 3) by decide +kernel) s1 ?_
  refine X_iconst (v := (nI 0)) (show decode cX4_copyFrom 59 = .ok (.iconst 0, 1) by decide +kernel) (by decide) ?_
  refine X_aload_n (j := 0) (show decode cX4_copyFrom 60 = .ok (.aload_n 0, 1) by decide +kernel) rfl rfl ?_
  refine X_getR fl_X4_31 (show decode cX4_copyFrom 61 = .ok (.getfield 31, 3) by decide +kernel) s2 ?_
  refine X_iconst (v := (nI 0)) (show decode cX4_copyFrom 64 = .ok (.iconst 0, 1) by decide +kernel) (by decide) ?_
  refine X_bipush (v := (nI 12)) (show decode cX4_copyFrom 65 = .ok (.bipush 12, 2) by decide +kernel) (by decide) ?_
  obtain ⟨s15, w⟩ := w
  obtain ⟨s16, w⟩ := w
  obtain ⟨s17, w⟩ := w
  obtain ⟨s18, w⟩ := w
  obtain ⟨s19, w⟩ := w
  obtain ⟨s20, w⟩ := w
  refine X_copy (t := 0) (show decode cX4_copyFrom 67 = .ok (.invokestatic 51, 3) by decide +kernel) gl_X4_51 gna_copy gst_copy gin_Sys (by decide) (Nat.le_of_ble_eq_true rfl) (by decide) (isA_eq s15) (isA_eq s16) s17 s18 (by decide) (by decide) (by decide) s19 s20 (fun _ _ => rfl) ?_
  have w := w _ rfl
  refine X_aload_n (j := 1) (show decode cX4_copyFrom 70 = .ok (.aload_n 1, 1) by decide +kernel) rfl rfl ?_
  refine X_getR fl_X4_34 (show decode cX4_copyFrom 71 = .ok (.getfield 34, 3) by decide +kernel) s1 ?_
  refine X_iconst (v := (nI 0)) (show decode cX4_copyFrom 74 = .ok (.iconst 0, 1) by decide +kernel) (by decide) ?_
  refine X_aload_n (j := 0) (show decode cX4_copyFrom 75 = .ok (.aload_n 0, 1) by decide +kernel) rfl rfl ?_
  refine X_getR fl_X4_34 (show decode cX4_copyFrom 76 = .ok (.getfield 34, 3) by decide +kernel) s2 ?_
  refine X_iconst (v := (nI 0)) (show decode cX4_copyFrom 79 = .ok (.iconst 0, 1) by decide +kernel) (by decide) ?_
  refine X_bipush (v := (nI 12)) (show decode cX4_copyFrom 80 = .ok (.bipush 12, 2) by decide +kernel) (by decide) ?_
  obtain ⟨s22, w⟩ := w
  obtain ⟨s23, w⟩ := w
  obtain ⟨s24, w⟩ := w
  obtain ⟨s25, w⟩ := w
  obtain ⟨s26, w⟩ := w
  obtain ⟨s27, w⟩ := w
  refine X_copy (t := 0) (show decode cX4_copyFrom 82 = .ok (.invokestatic 51, 3) by decide +kernel) gl_X4_51 gna_copy gst_copy gin_Sys (by decide) (Nat.le_of_ble_eq_true rfl) (by decide) (isA_eq s22) (isA_eq s23) s24 s25 (by decide) (by decide) (by decide) s26 s27 (fun _ _ => rfl) ?_
  have w := w _ rfl
  refine X_aload_n (j := 1) (show decode cX4_copyFrom 85 = .ok (.aload_n 1, 1) by decide +kernel) rfl rfl ?_
  refine X_getR fl_X4_37 (show decode cX4_copyFrom 86 = .ok (.getfield 37, 3) by decide +kernel) s1 ?_
  refine X_iconst (v := (nI 0)) (show decode cX4_copyFrom 89 = .ok (.iconst 0, 1) by decide +kernel) (by decide) ?_
  refine X_aload_n (j := 0) (show decode cX4_copyFrom 90 = .ok (.aload_n 0, 1) by decide +kernel) rfl rfl ?_
  refine X_getR fl_X4_37 (show decode cX4_copyFrom 91 = .ok (.getfield 37, 3) by decide +kernel) s2 ?_
  refine X_iconst (v := (nI 0)) (show decode cX4_copyFrom 94 = .ok (.iconst 0, 1) by decide +kernel) (by decide) ?_
  refine X_bipush (v := (nI 8)) (show decode cX4_copyFrom 95 = .ok (.bipush 8, 2) by decide +kernel) (by decide) ?_
  obtain ⟨s29, w⟩ := w
  obtain ⟨s30, w⟩ := w
  obtain ⟨s31, w⟩ := w
  obtain ⟨s32, w⟩ := w
  obtain ⟨s33, w⟩ := w
  obtain ⟨s34, w⟩ := w
  refine X_copy (t := 0) (show decode cX4_copyFrom 97 = .ok (.invokestatic 51, 3) by decide +kernel) gl_X4_51 gna_copy gst_copy gin_Sys (by decide) (Nat.le_of_ble_eq_true rfl) (by decide) (isA_eq s29) (isA_eq s30) s31 s32 (by decide) (by decide) (by decide) s33 s34 (fun _ _ => rfl) ?_
  have w := w _ rfl
  refine X_iconst (v := (nI 0)) (show decode cX4_copyFrom 100 = .ok (.iconst 0, 1) by decide +kernel) (by decide) ?_
  refine X_istore_n (ls' := [(0, .ref _), (1, .ref _), (2, .int _)]) (show decode cX4_copyFrom 101 = .ok (.istore_n 2, 1) by decide +kernel) rfl (by decide) rfl ?_
  obtain ⟨n65, w⟩ := w
  exact kX4_copyFrom_L102  n65 _ _ _ _ w
set_option maxRecDepth 100000 in
set_option maxHeartbeats 4000000 in
theorem kX8_copyFrom {a0 : Nat} {a1 : Nat} {h : AH} {K : AH → Prop} (w : wX8_copyFrom a0 a1 h K) : Cn mX8_copyFrom (cwd mX8_copyFrom) 1 0 0 [.ref a0, .ref a1] h (KV K) T0 := by
  refine Cn_of (by decide +kernel) rfl (Nat.le_of_ble_eq_true rfl) ?_
  show X mX8_copyFrom 1 (KV K) T0 0 0 0 [(0, .ref a0), (1, .ref a1)] [] h
  unfold wX8_copyFrom at w
  refine X_aload_n (j := 0) (show decode cX8_copyFrom 0 = .ok (.aload_n 0, 1) by decide +kernel) rfl rfl ?_
  refine X_aload_n (j := 1) (show decode cX8_copyFrom 1 = .ok (.aload_n 1, 1) by decide +kernel) rfl rfl ?_
  obtain ⟨s1, w⟩ := w
  refine X_getI fl_X8_7 (show decode cX8_copyFrom 2 = .ok (.getfield 7, 3) by decide +kernel) s1 ?_
  obtain ⟨s2, w⟩ := w
  refine X_putI fp_X8_7 (show decode cX8_copyFrom 5 = .ok (.putfield 7, 3) by decide +kernel) (fun z => nomatch z) s2 rfl rfl ?_
  have w := w _ rfl
  refine X_aload_n (j := 0) (show decode cX8_copyFrom 8 = .ok (.aload_n 0, 1) by decide +kernel) rfl rfl ?_
  refine X_aload_n (j := 1) (show decode cX8_copyFrom 9 = .ok (.aload_n 1, 1) by decide +kernel) rfl rfl ?_
  refine X_getI fl_X8_13 (show decode cX8_copyFrom 10 = .ok (.getfield 13, 3) by decide +kernel) s1 ?_
  refine X_putI fp_X8_13 (show decode cX8_copyFrom 13 = .ok (.putfield 13, 3) by decide +kernel) (fun z => nomatch z) s2 rfl rfl ?_
  have w := w _ rfl
  refine X_aload_n (j := 0) (show decode cX8_copyFrom 16 = .ok (.aload_n 0, 1) by decide +kernel) rfl rfl ?_
  refine X_aload_n (j := 1) (show decode cX8_copyFrom 17 = .ok (.aload_n 1, 1) by decide +kernel) rfl rfl ?_
  refine X_getI fl_X8_16 (show decode cX8_copyFrom 18 = .ok (.getfield 16, 3) by decide +kernel) s1 ?_
  refine X_putI fp_X8_16 (show decode cX8_copyFrom 21 = .ok (.putfield 16, 3) by decide +kernel) (fun z => nomatch z) s2 rfl rfl ?_
  have w := w _ rfl
  refine X_aload_n (j := 0) (show decode cX8_copyFrom 24 = .ok (.aload_n 0, 1) by decide +kernel) rfl rfl ?_
  refine X_aload_n (j := 1) (show decode cX8_copyFrom 25 = .ok (.aload_n 1, 1) by decide +kernel) rfl rfl ?_
  refine X_getI fl_X8_19 (show decode cX8_copyFrom 26 = .ok (.getfield 19, 3) by decide +kernel) s1 ?_
  refine X_putI fp_X8_19 (show decode cX8_copyFrom 29 = .ok (.putfield 19, 3) by decide +kernel) (fun z => nomatch z) s2 rfl rfl ?_
  have w := w _ rfl
  refine X_aload_n (j := 0) (show decode cX8_copyFrom 32 = .ok (.aload_n 0, 1) by decide +kernel) rfl rfl ?_
  refine X_aload_n (j := 1) (show decode cX8_copyFrom 33 = .ok (.aload_n 1, 1) by decide +kernel) rfl rfl ?_
  refine X_getI fl_X8_22 (show decode cX8_copyFrom 34 = .ok (.getfield 22, 3) by decide +kernel) s1 ?_
  refine X_putI fp_X8_22 (show decode cX8_copyFrom 37 = .ok (.putfield 22, 3) by decide +kernel) (fun z => nomatch z) s2 rfl rfl ?_
  have w := w _ rfl
  refine X_aload_n (j := 0) (show decode cX8_copyFrom 40 = .ok (.aload_n 0, 1) by decide +kernel) rfl rfl ?_
  refine X_aload_n (j := 1) (show decode cX8_copyFrom 41 = .ok (.aload_n 1, 1) by decide +kernel) rfl rfl ?_
  refine X_getI fl_X8_25 (show decode cX8_copyFrom 42 = .ok (.getfield 25, 3) by decide +kernel) s1 ?_
  refine X_putI fp_X8_25 (show decode cX8_copyFrom 45 = .ok (.putfield 25, 3) by decide +kernel) (fun z => nomatch z) s2 rfl rfl ?_
  have w := w _ rfl
  exact X_vret ⟨(show decode cX8_copyFrom 48 = .ok (.return_, 1) by decide +kernel), rfl⟩ ⟨rfl, w⟩
set_option maxRecDepth 100000 in
set_option maxHeartbeats 4000000 in
theorem kX7_copyFrom_L13 {K : AH → Prop}    : ∀ (n : Nat) (x0 : Nat) (x1 : Nat) (x2 : Int32) (h : AH), wX7_copyFrom_L13 K   n x0 x1 x2 h → X mX7_copyFrom 3 (KV K) T0 0 0 13 [(0, .ref x0), (1, .ref x1), (2, .int x2)] [] h := by
  intro n
  induction n with
  | zero => intro _ _ _ _ w; exact w.elim
  | succ n ih =>
    intro x0 x1 x2 h w
    rw [wX7_copyFrom_L13] at w
    refine X_iload_n (j := 2) (show decode cX7_copyFrom 13 = .ok (.iload_n 2, 1) by decide +kernel) rfl rfl ?_
    refine X_bipush (v := (nI 8)) (show decode cX7_copyFrom 14 = .ok (.bipush 8, 2) by decide +kernel) (by decide) ?_
    refine X_icmp_ge (tgt := 40) (show decode cX7_copyFrom 16 = .ok (.if_icmp .ge 24, 3) by decide +kernel) (by decide) ⟨fun c5 => ?_, fun c5 => ?_⟩
    · have w := w.1 c5
      refine X_aload_n (j := 1) (show decode cX7_copyFrom 40 = .ok (.aload_n 1, 1) by decide +kernel) rfl rfl ?_
      obtain ⟨s6, w⟩ := w
      refine X_getR fl_X7_24 (show decode cX7_copyFrom 41 = .ok (.getfield 24, 3) by decide +kernel) s6 ?_
      refine X_iconst (v := (nI 0)) (show decode cX7_copyFrom 44 = .ok (.iconst 0, 1) by decide +kernel) (by decide) ?_
      refine X_aload_n (j := 0) (show decode cX7_copyFrom 45 = .ok (.aload_n 0, 1) by decide +kernel) rfl rfl ?_
      obtain ⟨s7, w⟩ := w
      refine X_getR fl_X7_24 (show decode cX7_copyFrom 46 = .ok (.getfield 24, 3) by decide +kernel) s7 ?_
      refine X_iconst (v := (nI 0)) (show decode cX7_copyFrom 49 = .ok (.iconst 0, 1) by decide +kernel) (by decide) ?_
      refine X_bipush (v := (nI 8)) (show decode cX7_copyFrom 50 = .ok (.bipush 8, 2) by decide +kernel) (by decide) ?_
      obtain ⟨s8, w⟩ := w
      obtain ⟨s9, w⟩ := w
      obtain ⟨s10, w⟩ := w
      obtain ⟨s11, w⟩ := w
      obtain ⟨s12, w⟩ := w
      obtain ⟨s13, w⟩ := w
      refine X_copy (t := 0) (show decode cX7_copyFrom 52 = .ok (.invokestatic 56, 3) by decide +kernel) gl_X7_56 gna_copy gst_copy gin_Sys (by decide) (Nat.le_of_ble_eq_true rfl) (by decide) (isA_eq s8) (isA_eq s9) s10 s11 (by decide) (by decide) (by decide) s12 s13 (fun _ _ => rfl) ?_
      have w := w _ rfl
      refine X_aload_n (j := 0) (show decode cX7_copyFrom 55 = .ok (.aload_n 0, 1) by decide +kernel) rfl rfl ?_
      refine X_aload_n (j := 1) (show decode cX7_copyFrom 56 = .ok (.aload_n 1, 1) by decide +kernel) rfl rfl ?_
      refine X_getI fl_X7_28 (show decode cX7_copyFrom 57 = .ok (.getfield 28, 3) by decide +kernel) s6 ?_
      refine X_putI fp_X7_28 (show decode cX7_copyFrom 60 = .ok (.putfield 28, 3) by decide +kernel) (fun z => nomatch z) s7 rfl rfl ?_
      have w := w _ rfl
      refine X_aload_n (j := 0) (show decode cX7_copyFrom 63 = .ok (.aload_n 0, 1) by decide +kernel) rfl rfl ?_
      refine X_aload_n (j := 1) (show decode cX7_copyFrom 64 = .ok (.aload_n 1, 1) by decide +kernel) rfl rfl ?_
      refine X_getI fl_X7_32 (show decode cX7_copyFrom 65 = .ok (.getfield 32, 3) by decide +kernel) s6 ?_
      refine X_putI fp_X7_32 (show decode cX7_copyFrom 68 = .ok (.putfield 32, 3) by decide +kernel) (fun z => nomatch z) s7 rfl rfl ?_
      have w := w _ rfl
      refine X_aload_n (j := 0) (show decode cX7_copyFrom 71 = .ok (.aload_n 0, 1) by decide +kernel) rfl rfl ?_
      refine X_aload_n (j := 1) (show decode cX7_copyFrom 72 = .ok (.aload_n 1, 1) by decide +kernel) rfl rfl ?_
      refine X_getI fl_X7_35 (show decode cX7_copyFrom 73 = .ok (.getfield 35, 3) by decide +kernel) s6 ?_
      refine X_putI fp_X7_35 (show decode cX7_copyFrom 76 = .ok (.putfield 35, 3) by decide +kernel) (fun z => nomatch z) s7 rfl rfl ?_
      have w := w _ rfl
      refine X_aload_n (j := 0) (show decode cX7_copyFrom 79 = .ok (.aload_n 0, 1) by decide +kernel) rfl rfl ?_
      refine X_aload_n (j := 1) (show decode cX7_copyFrom 80 = .ok (.aload_n 1, 1) by decide +kernel) rfl rfl ?_
      refine X_getI fl_X7_38 (show decode cX7_copyFrom 81 = .ok (.getfield 38, 3) by decide +kernel) s6 ?_
      refine X_putI fp_X7_38 (show decode cX7_copyFrom 84 = .ok (.putfield 38, 3) by decide +kernel) (fun z => nomatch z) s7 rfl rfl ?_
      have w := w _ rfl
      refine X_aload_n (j := 0) (show decode cX7_copyFrom 87 = .ok (.aload_n 0, 1) by decide +kernel) rfl rfl ?_
      refine X_aload_n (j := 1) (show decode cX7_copyFrom 88 = .ok (.aload_n 1, 1) by decide +kernel) rfl rfl ?_
      refine X_getI fl_X7_41 (show decode cX7_copyFrom 89 = .ok (.getfield 41, 3) by decide +kernel) s6 ?_
      refine X_putI fp_X7_41 (show decode cX7_copyFrom 92 = .ok (.putfield 41, 3) by decide +kernel) (fun z => nomatch z) s7 rfl rfl ?_
      have w := w _ rfl
      refine X_aload_n (j := 0) (show decode cX7_copyFrom 95 = .ok (.aload_n 0, 1) by decide +kernel) rfl rfl ?_
      refine X_aload_n (j := 1) (show decode cX7_copyFrom 96 = .ok (.aload_n 1, 1) by decide +kernel) rfl rfl ?_
      refine X_getL fl_X7_44 (show decode cX7_copyFrom 97 = .ok (.getfield 44, 3) by decide +kernel) s6 ?_
      refine X_putL fp_X7_44 (show decode cX7_copyFrom 100 = .ok (.putfield 44, 3) by decide +kernel) (fun z => nomatch z) s7 ?_
      have w := w _ rfl
      exact X_vret ⟨(show decode cX7_copyFrom 103 = .ok (.return_, 1) by decide +kernel), rfl⟩ ⟨rfl, w⟩
    · have w := w.2 c5
      refine X_aload_n (j := 0) (show decode cX7_copyFrom 19 = .ok (.aload_n 0, 1) by decide +kernel) rfl rfl ?_
      obtain ⟨s21, w⟩ := w
      refine X_getR fl_X7_20 (show decode cX7_copyFrom 20 = .ok (.getfield 20, 3) by decide +kernel) s21 ?_
      refine X_iload_n (j := 2) (show decode cX7_copyFrom 23 = .ok (.iload_n 2, 1) by decide +kernel) rfl rfl ?_
      obtain ⟨s22, w⟩ := w
      obtain ⟨s23, w⟩ := w
      refine X_aaldT (show decode cX7_copyFrom 24 = .ok (.aaload, 1) by decide +kernel) (isA_eq s22) s23 ?_
      refine X_aload_n (j := 1) (show decode cX7_copyFrom 25 = .ok (.aload_n 1, 1) by decide +kernel) rfl rfl ?_
      obtain ⟨s24, w⟩ := w
      refine X_getR fl_X7_20 (show decode cX7_copyFrom 26 = .ok (.getfield 20, 3) by decide +kernel) s24 ?_
      refine X_iload_n (j := 2) (show decode cX7_copyFrom 29 = .ok (.iload_n 2, 1) by decide +kernel) rfl rfl ?_
      obtain ⟨s25, w⟩ := w
      obtain ⟨s26, w⟩ := w
      refine X_aaldT (show decode cX7_copyFrom 30 = .ok (.aaload, 1) by decide +kernel) (isA_eq s25) s26 ?_
      obtain ⟨s29, w⟩ := w
      refine X_vV (rc' := 0) (rs' := 0) (as := [.ref _]) mv_X7_53 (show decode cX7_copyFrom 31 = .ok (.invokevirtual 53, 3) by decide +kernel) (by decide) (Nat.le_of_ble_eq_true rfl) (Nat.le_of_ble_eq_true rfl) rfl rfl (Nat.le_of_ble_eq_true rfl) (rcvD s29 (by decide) rfl) (kX8_copyFrom w) (fun E h hk => hk.elim) (fun h27 w => ?_)
      refine X_iinc (j := 2) (v := _ + (nI 1)) (ls' := [(0, .ref _), (1, .ref _), (2, .int _)]) (show decode cX7_copyFrom 34 = .ok (.iinc 2 1, 3) by decide +kernel) rfl rfl (Nat.le_of_ble_eq_true rfl) rfl ?_
      refine X_goto (tgt := 13) (show decode cX7_copyFrom 37 = .ok (.goto (-24), 3) by decide +kernel) (by decide) ?_
      exact ih _ _ _ _ w
set_option maxRecDepth 100000 in
set_option maxHeartbeats 4000000 in
theorem kX7_copyFrom {a0 : Nat} {a1 : Nat} {h : AH} {K : AH → Prop} (w : wX7_copyFrom a0 a1 h K) : Cn mX7_copyFrom (cwd mX7_copyFrom) 3 0 0 [.ref a0, .ref a1] h (KV K) T0 := by
  refine Cn_of (by decide +kernel) rfl (Nat.le_of_ble_eq_true rfl) ?_
  show X mX7_copyFrom 3 (KV K) T0 0 0 0 [(0, .ref a0), (1, .ref a1)] [] h
  unfold wX7_copyFrom at w
  refine X_aload_n (j := 0) (show decode cX7_copyFrom 0 = .ok (.aload_n 0, 1) by decide +kernel) rfl rfl ?_
  obtain ⟨s1, w⟩ := w
  refine X_getR fl_X7_12 (show decode cX7_copyFrom 1 = .ok (.getfield 12, 3) by decide +kernel) s1 ?_
  refine X_aload_n (j := 1) (show decode cX7_copyFrom 4 = .ok (.aload_n 1, 1) by decide +kernel) rfl rfl ?_
  obtain ⟨s2, w⟩ := w
  refine X_getR fl_X7_12 (show decode cX7_copyFrom 5 = .ok (.getfield 12, 3) by decide +kernel) s2 ?_
  obtain ⟨s31, w⟩ := w
  refine X_vV (rc' := 0) (rs' := 0) (as := [.ref _]) mv_X7_49 (show decode cX7_copyFrom 8 = .ok (.invokevirtual 49, 3) by decide +kernel) (by decide) (Nat.le_of_ble_eq_true rfl) (Nat.le_of_ble_eq_true rfl) rfl rfl (Nat.le_of_ble_eq_true rfl) (rcvD s31 (by decide) rfl) (kX4_copyFrom w) (fun E h hk => hk.elim) (fun h3 w => ?_)
  refine X_iconst (v := (nI 0)) (show decode cX7_copyFrom 11 = .ok (.iconst 0, 1) by decide +kernel) (by decide) ?_
  refine X_istore_n (ls' := [(0, .ref _), (1, .ref _), (2, .int _)]) (show decode cX7_copyFrom 12 = .ok (.istore_n 2, 1) by decide +kernel) rfl (by decide) rfl ?_
  obtain ⟨n30, w⟩ := w
  exact kX7_copyFrom_L13  n30 _ _ _ _ w
set_option maxRecDepth 100000 in
set_option maxHeartbeats 4000000 in
theorem kX2_keep {a0 : Nat} {a1 : Nat} {h : AH} {K : AH → Prop} (w : wX2_keep a0 a1 h K) : Cn mX2_keep (cwd mX2_keep) 4 0 0 [.ref a0, .ref a1] h (KV K) T0 := by
  refine Cn_of (by decide +kernel) rfl (Nat.le_of_ble_eq_true rfl) ?_
  show X mX2_keep 4 (KV K) T0 0 0 0 [(0, .ref a0), (1, .ref a1)] [] h
  unfold wX2_keep at w
  refine X_aload_n (j := 0) (show decode cX2_keep 0 = .ok (.aload_n 0, 1) by decide +kernel) rfl rfl ?_
  obtain ⟨s1, w⟩ := w
  refine X_getR fl_X2_13 (show decode cX2_keep 1 = .ok (.getfield 13, 3) by decide +kernel) s1 ?_
  refine X_aload_n (j := 0) (show decode cX2_keep 4 = .ok (.aload_n 0, 1) by decide +kernel) rfl rfl ?_
  refine X_getI fl_X2_17 (show decode cX2_keep 5 = .ok (.getfield 17, 3) by decide +kernel) s1 ?_
  obtain ⟨s2, w⟩ := w
  obtain ⟨s3, w⟩ := w
  refine X_aaldS (show decode cX2_keep 8 = .ok (.aaload, 1) by decide +kernel) (isA_eq s2) s3 ?_
  refine X_aload_n (j := 1) (show decode cX2_keep 9 = .ok (.aload_n 1, 1) by decide +kernel) rfl rfl ?_
  obtain ⟨s6, w⟩ := w
  refine X_vV (rc' := 0) (rs' := 0) (as := [.ref _]) mv_X2_25 (show decode cX2_keep 10 = .ok (.invokevirtual 25, 3) by decide +kernel) (by decide) (Nat.le_of_ble_eq_true rfl) (Nat.le_of_ble_eq_true rfl) rfl rfl (Nat.le_of_ble_eq_true rfl) (rcvD s6 (by decide) rfl) (kX7_copyFrom w) (fun E h hk => hk.elim) (fun h4 w => ?_)
  exact X_vret ⟨(show decode cX2_keep 13 = .ok (.return_, 1) by decide +kernel), rfl⟩ ⟨rfl, w⟩
set_option maxRecDepth 100000 in
set_option maxHeartbeats 4000000 in
theorem kJ7_fill_53178_L5 {K : AH → Prop}    : ∀ (n : Nat) (x0 : Nat) (x1 : Int32) (x2 : Int32) (x3 : Int32) (h : AH), wJ7_fill_53178_L5 K   n x0 x1 x2 x3 h → X mJ7_fill_53178 1 (KV K) T0 0 0 5 [(0, .ref x0), (1, .int x1), (2, .int x2), (3, .int x3)] [] h := by
  intro n
  induction n with
  | zero => intro _ _ _ _ _ w; exact w.elim
  | succ n ih =>
    intro x0 x1 x2 x3 h w
    rw [wJ7_fill_53178_L5] at w
    refine X_iload_n (j := 2) (show decode cJ7_fill_53178 5 = .ok (.iload_n 2, 1) by decide +kernel) rfl rfl ?_
    refine X_iload_n (j := 3) (show decode cJ7_fill_53178 6 = .ok (.iload_n 3, 1) by decide +kernel) rfl rfl ?_
    refine X_icmp_ge (tgt := 20) (show decode cJ7_fill_53178 7 = .ok (.if_icmp .ge 13, 3) by decide +kernel) (by decide) ⟨fun c2 => ?_, fun c2 => ?_⟩
    · have w := w.1 c2
      exact X_vret ⟨(show decode cJ7_fill_53178 20 = .ok (.return_, 1) by decide +kernel), rfl⟩ ⟨rfl, w⟩
    · have w := w.2 c2
      refine X_aload_n (j := 0) (show decode cJ7_fill_53178 10 = .ok (.aload_n 0, 1) by decide +kernel) rfl rfl ?_
      refine X_iload_n (j := 2) (show decode cJ7_fill_53178 11 = .ok (.iload_n 2, 1) by decide +kernel) rfl rfl ?_
      refine X_iload_n (j := 1) (show decode cJ7_fill_53178 12 = .ok (.iload_n 1, 1) by decide +kernel) rfl rfl ?_
      obtain ⟨s3, w⟩ := w
      obtain ⟨s4, w⟩ := w
      obtain ⟨s5, w⟩ := w
      refine X_iast (show decode cJ7_fill_53178 13 = .ok (.iastore, 1) by decide +kernel) (isA_eq s3) s4 s5 ?_
      have w := w _ rfl
      refine X_iinc (j := 2) (v := _ + (nI 1)) (ls' := [(0, .ref _), (1, .int _), (2, .int _), (3, .int _)]) (show decode cJ7_fill_53178 14 = .ok (.iinc 2 1, 3) by decide +kernel) rfl rfl (Nat.le_of_ble_eq_true rfl) rfl ?_
      refine X_goto (tgt := 5) (show decode cJ7_fill_53178 17 = .ok (.goto (-12), 3) by decide +kernel) (by decide) ?_
      exact ih _ _ _ _ _ w
set_option maxRecDepth 100000 in
set_option maxHeartbeats 4000000 in
theorem kJ7_fill_53178 {a0 : Nat} {a1 : Int32} {h : AH} {K : AH → Prop} (w : wJ7_fill_53178 a0 a1 h K) : Cn mJ7_fill_53178 (cwd mJ7_fill_53178) 1 0 0 [.ref a0, .int a1] h (KV K) T0 := by
  refine Cn_of (by decide +kernel) rfl (Nat.le_of_ble_eq_true rfl) ?_
  show X mJ7_fill_53178 1 (KV K) T0 0 0 0 [(0, .ref a0), (1, .int a1)] [] h
  unfold wJ7_fill_53178 at w
  refine X_iconst (v := (nI 0)) (show decode cJ7_fill_53178 0 = .ok (.iconst 0, 1) by decide +kernel) (by decide) ?_
  refine X_istore_n (ls' := [(0, .ref _), (1, .int _), (2, .int _)]) (show decode cJ7_fill_53178 1 = .ok (.istore_n 2, 1) by decide +kernel) rfl (by decide) rfl ?_
  refine X_aload_n (j := 0) (show decode cJ7_fill_53178 2 = .ok (.aload_n 0, 1) by decide +kernel) rfl rfl ?_
  obtain ⟨s1, w⟩ := w
  refine X_alen (v := nI (ln _ _)) (show decode cJ7_fill_53178 3 = .ok (.arraylength, 1) by decide +kernel) (by decide) (isA_eq s1) rfl ?_
  refine X_istore_n (ls' := [(0, .ref _), (1, .int _), (2, .int _), (3, .int _)]) (show decode cJ7_fill_53178 4 = .ok (.istore_n 3, 1) by decide +kernel) rfl (by decide) rfl ?_
  obtain ⟨n7, w⟩ := w
  exact kJ7_fill_53178_L5  n7 _ _ _ _ _ w
set_option maxRecDepth 100000 in
set_option maxHeartbeats 4000000 in
theorem kX9_contains {a0 : Int32} {a1 : Int32} {h : AH} {K : Int32 → AH → Prop} (w : wX9_contains a0 a1 h K) : Cn mX9_contains (cwd mX9_contains) 1 0 0 [.int a0, .int a1] h (KI K) T0 := by
  refine Cn_of (by decide +kernel) rfl (Nat.le_of_ble_eq_true rfl) ?_
  show X mX9_contains 1 (KI K) T0 0 0 0 [(0, .int a0), (1, .int a1)] [] h
  unfold wX9_contains at w
  refine X_iload_n (j := 1) (show decode cX9_contains 0 = .ok (.iload_n 1, 1) by decide +kernel) rfl rfl ?_
  refine X_if_lt (tgt := 16) (show decode cX9_contains 1 = .ok (.ifCond .lt 15, 3) by decide +kernel) (by decide) ⟨fun c1 => ?_, fun c1 => ?_⟩
  · have w := w.1 c1
    refine X_iconst (v := (nI 0)) (show decode cX9_contains 16 = .ok (.iconst 0, 1) by decide +kernel) (by decide) ?_
    exact X_iret ⟨(show decode cX9_contains 17 = .ok (.ireturn, 1) by decide +kernel), .boolean, rfl, (by decide)⟩ ⟨_, rfl, w⟩
  · have w := w.2 c1
    refine X_iload_n (j := 0) (show decode cX9_contains 4 = .ok (.iload_n 0, 1) by decide +kernel) rfl rfl ?_
    refine X_iconst (v := (nI 1)) (show decode cX9_contains 5 = .ok (.iconst 1, 1) by decide +kernel) (by decide) ?_
    refine X_iload_n (j := 1) (show decode cX9_contains 6 = .ok (.iload_n 1, 1) by decide +kernel) rfl rfl ?_
    refine X_ishl (show decode cX9_contains 7 = .ok (.ishl, 1) by decide +kernel) ?_
    refine X_iand (show decode cX9_contains 8 = .ok (.iand, 1) by decide +kernel) ?_
    refine X_if_eq (tgt := 16) (show decode cX9_contains 9 = .ok (.ifCond .eq 7, 3) by decide +kernel) (by decide) ⟨fun c2 => ?_, fun c2 => ?_⟩
    · have w := w.1 c2
      refine X_iconst (v := (nI 0)) (show decode cX9_contains 16 = .ok (.iconst 0, 1) by decide +kernel) (by decide) ?_
      exact X_iret ⟨(show decode cX9_contains 17 = .ok (.ireturn, 1) by decide +kernel), .boolean, rfl, (by decide)⟩ ⟨_, rfl, w⟩
    · have w := w.2 c2
      refine X_iconst (v := (nI 1)) (show decode cX9_contains 12 = .ok (.iconst 1, 1) by decide +kernel) (by decide) ?_
      refine X_goto (tgt := 17) (show decode cX9_contains 13 = .ok (.goto 4, 3) by decide +kernel) (by decide) ?_
      exact X_iret ⟨(show decode cX9_contains 17 = .ok (.ireturn, 1) by decide +kernel), .boolean, rfl, (by decide)⟩ ⟨_, rfl, w⟩
set_option maxRecDepth 100000 in
set_option maxHeartbeats 4000000 in
theorem kX4_nearestBlock_L8 {K : Int32 → AH → Prop}    : ∀ (n : Nat) (x0 : Nat) (x1 : Int32) (x2 : Int32) (x3 : Int32) (x4 : Int32) (h : AH), wX4_nearestBlock_L8 K   n x0 x1 x2 x3 x4 h → X mX4_nearestBlock 2 (KI K) T0 0 0 8 [(0, .ref x0), (1, .int x1), (2, .int x2), (3, .int x3), (4, .int x4)] [] h := by
  intro n
  induction n with
  | zero => intro _ _ _ _ _ _ w; exact w.elim
  | succ n ih =>
    intro x0 x1 x2 x3 x4 h w
    rw [wX4_nearestBlock_L8] at w
    refine X_iload (j := 4) (show decode cX4_nearestBlock 8 = .ok (.iload 4, 2) by decide +kernel) rfl ?_
    refine X_aload_n (j := 0) (show decode cX4_nearestBlock 10 = .ok (.aload_n 0, 1) by decide +kernel) rfl rfl ?_
    obtain ⟨s1, w⟩ := w
    refine X_getI fl_X4_9 (show decode cX4_nearestBlock 11 = .ok (.getfield 9, 3) by decide +kernel) s1 ?_
    refine X_icmp_ge (tgt := 54) (show decode cX4_nearestBlock 14 = .ok (.if_icmp .ge 40, 3) by decide +kernel) (by decide) ⟨fun c2 => ?_, fun c2 => ?_⟩
    · have w := w.1 c2
      refine X_iload_n (j := 2) (show decode cX4_nearestBlock 54 = .ok (.iload_n 2, 1) by decide +kernel) rfl rfl ?_
      exact X_iret ⟨(show decode cX4_nearestBlock 55 = .ok (.ireturn, 1) by decide +kernel), .int, rfl, rfl⟩ ⟨_, rfl, w⟩
    · have w := w.2 c2
      refine X_iload_n (j := 1) (show decode cX4_nearestBlock 17 = .ok (.iload_n 1, 1) by decide +kernel) rfl rfl ?_
      refine X_iload (j := 4) (show decode cX4_nearestBlock 18 = .ok (.iload 4, 2) by decide +kernel) rfl ?_
      refine X_nI (rc' := 0) (rs' := 0) (as := [.int _, .int _]) msn_X4_68 (show decode cX4_nearestBlock 20 = .ok (.invokestatic 68, 3) by decide +kernel) (by decide) (Nat.le_of_ble_eq_true rfl) (Nat.le_of_ble_eq_true rfl) rfl rfl (Nat.le_of_ble_eq_true rfl) (kX9_contains w) (fun r4 h3 w => ?_)
      refine X_if_ne (tgt := 48) (show decode cX4_nearestBlock 23 = .ok (.ifCond .ne 25, 3) by decide +kernel) (by decide) ⟨fun c5 => ?_, fun c5 => ?_⟩
      · have w := w.1 c5
        refine X_iinc (j := 4) (v := _ + (nI 1)) (ls' := [(0, .ref _), (1, .int _), (2, .int _), (3, .int _), (4, .int _)]) (show decode cX4_nearestBlock 48 = .ok (.iinc 4 1, 3) by decide +kernel) rfl rfl (Nat.le_of_ble_eq_true rfl) rfl ?_
        refine X_goto (tgt := 8) (show decode cX4_nearestBlock 51 = .ok (.goto (-43), 3) by decide +kernel) (by decide) ?_
        exact ih _ _ _ _ _ _ w
      · have w := w.2 c5
        refine X_aload_n (j := 0) (show decode cX4_nearestBlock 26 = .ok (.aload_n 0, 1) by decide +kernel) rfl rfl ?_
        obtain ⟨s6, w⟩ := w
        refine X_getR fl_X4_48 (show decode cX4_nearestBlock 27 = .ok (.getfield 48, 3) by decide +kernel) s6 ?_
        refine X_iload (j := 4) (show decode cX4_nearestBlock 30 = .ok (.iload 4, 2) by decide +kernel) rfl ?_
        obtain ⟨s7, w⟩ := w
        obtain ⟨s8, w⟩ := w
        refine X_iald (show decode cX4_nearestBlock 32 = .ok (.iaload, 1) by decide +kernel) (isA_eq s7) s8 ?_
        refine X_iload_n (j := 3) (show decode cX4_nearestBlock 33 = .ok (.iload_n 3, 1) by decide +kernel) rfl rfl ?_
        refine X_icmp_ge (tgt := 48) (show decode cX4_nearestBlock 34 = .ok (.if_icmp .ge 14, 3) by decide +kernel) (by decide) ⟨fun c9 => ?_, fun c9 => ?_⟩
        · have w := w.1 c9
          refine X_iinc (j := 4) (v := _ + (nI 1)) (ls' := [(0, .ref _), (1, .int _), (2, .int _), (3, .int _), (4, .int _)]) (show decode cX4_nearestBlock 48 = .ok (.iinc 4 1, 3) by decide +kernel) rfl rfl (Nat.le_of_ble_eq_true rfl) rfl ?_
          refine X_goto (tgt := 8) (show decode cX4_nearestBlock 51 = .ok (.goto (-43), 3) by decide +kernel) (by decide) ?_
          exact ih _ _ _ _ _ _ w
        · have w := w.2 c9
          refine X_iload (j := 4) (show decode cX4_nearestBlock 37 = .ok (.iload 4, 2) by decide +kernel) rfl ?_
          refine X_istore_n (ls' := [(0, .ref _), (1, .int _), (2, .int _), (3, .int _), (4, .int _)]) (show decode cX4_nearestBlock 39 = .ok (.istore_n 2, 1) by decide +kernel) rfl (by decide) rfl ?_
          refine X_aload_n (j := 0) (show decode cX4_nearestBlock 40 = .ok (.aload_n 0, 1) by decide +kernel) rfl rfl ?_
          refine X_getR fl_X4_48 (show decode cX4_nearestBlock 41 = .ok (.getfield 48, 3) by decide +kernel) s6 ?_
          refine X_iload (j := 4) (show decode cX4_nearestBlock 44 = .ok (.iload 4, 2) by decide +kernel) rfl ?_
          refine X_iald (show decode cX4_nearestBlock 46 = .ok (.iaload, 1) by decide +kernel) (isA_eq s7) s8 ?_
          refine X_istore_n (ls' := [(0, .ref _), (1, .int _), (2, .int _), (3, .int _), (4, .int _)]) (show decode cX4_nearestBlock 47 = .ok (.istore_n 3, 1) by decide +kernel) rfl (by decide) rfl ?_
          refine X_iinc (j := 4) (v := _ + (nI 1)) (ls' := [(0, .ref _), (1, .int _), (2, .int _), (3, .int _), (4, .int _)]) (show decode cX4_nearestBlock 48 = .ok (.iinc 4 1, 3) by decide +kernel) rfl rfl (Nat.le_of_ble_eq_true rfl) rfl ?_
          refine X_goto (tgt := 8) (show decode cX4_nearestBlock 51 = .ok (.goto (-43), 3) by decide +kernel) (by decide) ?_
          exact ih _ _ _ _ _ _ w
set_option maxRecDepth 100000 in
set_option maxHeartbeats 4000000 in
theorem kX4_nearestBlock {a0 : Nat} {a1 : Int32} {h : AH} {K : Int32 → AH → Prop} (w : wX4_nearestBlock a0 a1 h K) : Cn mX4_nearestBlock (cwd mX4_nearestBlock) 2 0 0 [.ref a0, .int a1] h (KI K) T0 := by
  refine Cn_of (by decide +kernel) rfl (Nat.le_of_ble_eq_true rfl) ?_
  show X mX4_nearestBlock 2 (KI K) T0 0 0 0 [(0, .ref a0), (1, .int a1)] [] h
  unfold wX4_nearestBlock at w
  refine X_iconst (v := (-1)) (show decode cX4_nearestBlock 0 = .ok (.iconst (-1), 1) by decide +kernel) (by decide) ?_
  refine X_istore_n (ls' := [(0, .ref _), (1, .int _), (2, .int _)]) (show decode cX4_nearestBlock 1 = .ok (.istore_n 2, 1) by decide +kernel) rfl (by decide) rfl ?_
  refine X_ldc (v := (nI 1000000)) (show decode cX4_nearestBlock 2 = .ok (.ldc 88, 2) by decide +kernel) gc_X4_88 ?_
  refine X_istore_n (ls' := [(0, .ref _), (1, .int _), (2, .int _), (3, .int _)]) (show decode cX4_nearestBlock 4 = .ok (.istore_n 3, 1) by decide +kernel) rfl (by decide) rfl ?_
  refine X_iconst (v := (nI 0)) (show decode cX4_nearestBlock 5 = .ok (.iconst 0, 1) by decide +kernel) (by decide) ?_
  refine X_istore (ls' := [(0, .ref _), (1, .int _), (2, .int _), (3, .int _), (4, .int _)]) (show decode cX4_nearestBlock 6 = .ok (.istore 4, 2) by decide +kernel) (by decide) rfl ?_
  obtain ⟨n10, w⟩ := w
  exact kX4_nearestBlock_L8  n10 _ _ _ _ _ _ w
set_option maxRecDepth 100000 in
set_option maxHeartbeats 4000000 in
theorem kX4_has {a0 : Nat} {a1 : Int32} {h : AH} {K : Int32 → AH → Prop} (w : wX4_has a0 a1 h K) : Cn mX4_has (cwd mX4_has) 1 0 0 [.ref a0, .int a1] h (KI K) T0 := by
  refine Cn_of (by decide +kernel) rfl (Nat.le_of_ble_eq_true rfl) ?_
  show X mX4_has 1 (KI K) T0 0 0 0 [(0, .ref a0), (1, .int a1)] [] h
  unfold wX4_has at w
  refine X_iload_n (j := 1) (show decode cX4_has 0 = .ok (.iload_n 1, 1) by decide +kernel) rfl rfl ?_
  refine X_if_lt (tgt := 16) (show decode cX4_has 1 = .ok (.ifCond .lt 15, 3) by decide +kernel) (by decide) ⟨fun c1 => ?_, fun c1 => ?_⟩
  · have w := w.1 c1
    refine X_iconst (v := (nI 0)) (show decode cX4_has 16 = .ok (.iconst 0, 1) by decide +kernel) (by decide) ?_
    exact X_iret ⟨(show decode cX4_has 17 = .ok (.ireturn, 1) by decide +kernel), .boolean, rfl, (by decide)⟩ ⟨_, rfl, w⟩
  · have w := w.2 c1
    refine X_iload_n (j := 1) (show decode cX4_has 4 = .ok (.iload_n 1, 1) by decide +kernel) rfl rfl ?_
    refine X_aload_n (j := 0) (show decode cX4_has 5 = .ok (.aload_n 0, 1) by decide +kernel) rfl rfl ?_
    obtain ⟨s2, w⟩ := w
    refine X_getI fl_X4_9 (show decode cX4_has 6 = .ok (.getfield 9, 3) by decide +kernel) s2 ?_
    refine X_icmp_ge (tgt := 16) (show decode cX4_has 9 = .ok (.if_icmp .ge 7, 3) by decide +kernel) (by decide) ⟨fun c3 => ?_, fun c3 => ?_⟩
    · have w := w.1 c3
      refine X_iconst (v := (nI 0)) (show decode cX4_has 16 = .ok (.iconst 0, 1) by decide +kernel) (by decide) ?_
      exact X_iret ⟨(show decode cX4_has 17 = .ok (.ireturn, 1) by decide +kernel), .boolean, rfl, (by decide)⟩ ⟨_, rfl, w⟩
    · have w := w.2 c3
      refine X_iconst (v := (nI 1)) (show decode cX4_has 12 = .ok (.iconst 1, 1) by decide +kernel) (by decide) ?_
      refine X_goto (tgt := 17) (show decode cX4_has 13 = .ok (.goto 4, 3) by decide +kernel) (by decide) ?_
      exact X_iret ⟨(show decode cX4_has 17 = .ok (.ireturn, 1) by decide +kernel), .boolean, rfl, (by decide)⟩ ⟨_, rfl, w⟩
set_option maxRecDepth 100000 in
set_option maxHeartbeats 4000000 in
theorem kX4_leadsTo {a0 : Nat} {a1 : Int32} {a2 : Int32} {h : AH} {K : Int32 → AH → Prop} (w : wX4_leadsTo a0 a1 a2 h K) : Cn mX4_leadsTo (cwd mX4_leadsTo) 2 0 0 [.ref a0, .int a1, .int a2] h (KI K) T0 := by
  refine Cn_of (by decide +kernel) rfl (Nat.le_of_ble_eq_true rfl) ?_
  show X mX4_leadsTo 2 (KI K) T0 0 0 0 [(0, .ref a0), (1, .int a1), (2, .int a2)] [] h
  unfold wX4_leadsTo at w
  refine X_aload_n (j := 0) (show decode cX4_leadsTo 0 = .ok (.aload_n 0, 1) by decide +kernel) rfl rfl ?_
  refine X_iload_n (j := 1) (show decode cX4_leadsTo 1 = .ok (.iload_n 1, 1) by decide +kernel) rfl rfl ?_
  obtain ⟨s11, w⟩ := w
  refine X_vI (rc' := 0) (rs' := 0) (as := [.int _]) mv_X4_57 (show decode cX4_leadsTo 2 = .ok (.invokevirtual 57, 3) by decide +kernel) (by decide) (Nat.le_of_ble_eq_true rfl) (Nat.le_of_ble_eq_true rfl) rfl rfl (Nat.le_of_ble_eq_true rfl) (rcvD s11 (by decide) rfl) (kX4_has w) (fun E h hk => hk.elim) (fun r2 h1 w => ?_)
  refine X_if_eq (tgt := 32) (show decode cX4_leadsTo 5 = .ok (.ifCond .eq 27, 3) by decide +kernel) (by decide) ⟨fun c3 => ?_, fun c3 => ?_⟩
  · have w := w.1 c3
    refine X_iconst (v := (nI 0)) (show decode cX4_leadsTo 32 = .ok (.iconst 0, 1) by decide +kernel) (by decide) ?_
    exact X_iret ⟨(show decode cX4_leadsTo 33 = .ok (.ireturn, 1) by decide +kernel), .boolean, rfl, (by decide)⟩ ⟨_, rfl, w⟩
  · have w := w.2 c3
    refine X_aload_n (j := 0) (show decode cX4_leadsTo 8 = .ok (.aload_n 0, 1) by decide +kernel) rfl rfl ?_
    obtain ⟨s4, w⟩ := w
    refine X_getR fl_X4_31 (show decode cX4_leadsTo 9 = .ok (.getfield 31, 3) by decide +kernel) s4 ?_
    refine X_iload_n (j := 1) (show decode cX4_leadsTo 12 = .ok (.iload_n 1, 1) by decide +kernel) rfl rfl ?_
    obtain ⟨s5, w⟩ := w
    obtain ⟨s6, w⟩ := w
    refine X_iald (show decode cX4_leadsTo 13 = .ok (.iaload, 1) by decide +kernel) (isA_eq s5) s6 ?_
    refine X_iload_n (j := 2) (show decode cX4_leadsTo 14 = .ok (.iload_n 2, 1) by decide +kernel) rfl rfl ?_
    refine X_icmp_eq (tgt := 28) (show decode cX4_leadsTo 15 = .ok (.if_icmp .eq 13, 3) by decide +kernel) (by decide) ⟨fun c7 => ?_, fun c7 => ?_⟩
    · have w := w.1 c7
      refine X_iconst (v := (nI 1)) (show decode cX4_leadsTo 28 = .ok (.iconst 1, 1) by decide +kernel) (by decide) ?_
      refine X_goto (tgt := 33) (show decode cX4_leadsTo 29 = .ok (.goto 4, 3) by decide +kernel) (by decide) ?_
      exact X_iret ⟨(show decode cX4_leadsTo 33 = .ok (.ireturn, 1) by decide +kernel), .boolean, rfl, (by decide)⟩ ⟨_, rfl, w⟩
    · have w := w.2 c7
      refine X_aload_n (j := 0) (show decode cX4_leadsTo 18 = .ok (.aload_n 0, 1) by decide +kernel) rfl rfl ?_
      refine X_getR fl_X4_34 (show decode cX4_leadsTo 19 = .ok (.getfield 34, 3) by decide +kernel) s4 ?_
      refine X_iload_n (j := 1) (show decode cX4_leadsTo 22 = .ok (.iload_n 1, 1) by decide +kernel) rfl rfl ?_
      obtain ⟨s8, w⟩ := w
      obtain ⟨s9, w⟩ := w
      refine X_iald (show decode cX4_leadsTo 23 = .ok (.iaload, 1) by decide +kernel) (isA_eq s8) s9 ?_
      refine X_iload_n (j := 2) (show decode cX4_leadsTo 24 = .ok (.iload_n 2, 1) by decide +kernel) rfl rfl ?_
      refine X_icmp_ne (tgt := 32) (show decode cX4_leadsTo 25 = .ok (.if_icmp .ne 7, 3) by decide +kernel) (by decide) ⟨fun c10 => ?_, fun c10 => ?_⟩
      · have w := w.1 c10
        refine X_iconst (v := (nI 0)) (show decode cX4_leadsTo 32 = .ok (.iconst 0, 1) by decide +kernel) (by decide) ?_
        exact X_iret ⟨(show decode cX4_leadsTo 33 = .ok (.ireturn, 1) by decide +kernel), .boolean, rfl, (by decide)⟩ ⟨_, rfl, w⟩
      · have w := w.2 c10
        refine X_iconst (v := (nI 1)) (show decode cX4_leadsTo 28 = .ok (.iconst 1, 1) by decide +kernel) (by decide) ?_
        refine X_goto (tgt := 33) (show decode cX4_leadsTo 29 = .ok (.goto 4, 3) by decide +kernel) (by decide) ?_
        exact X_iret ⟨(show decode cX4_leadsTo 33 = .ok (.ireturn, 1) by decide +kernel), .boolean, rfl, (by decide)⟩ ⟨_, rfl, w⟩
set_option maxRecDepth 100000 in
set_option maxHeartbeats 4000000 in
theorem kX4_learnRoutesTo_J176 {K : AH → Prop} {c129 : Nat → Nat → Nat → Int32 → Int32 → Int32 → Int32 → Int32 → AH → Prop} (hc129 : ∀ x0 x2 x3 x4 x5 x6 x8 x9 h, c129 x0 x2 x3 x4 x5 x6 x8 x9 h → X mX4_learnRoutesTo 3 (KV K) T0 0 0 129 [(0, .ref x0), (2, .ref x2), (3, .ref x3), (4, .int x4), (5, .int x5), (6, .int x6), (8, .int x8), (9, .int x9)] [] h) (x0 : Nat) (x2 : Nat) (x3 : Nat) (x4 : Int32) (x5 : Int32) (x6 : Int32) (x8 : Int32) (x9 : Int32) (y0 : Int32) (h : AH) (w : wX4_learnRoutesTo_J176 K c129 x0 x2 x3 x4 x5 x6 x8 x9 y0 h) : X mX4_learnRoutesTo 3 (KV K) T0 0 0 176 [(0, .ref x0), (2, .ref x2), (3, .ref x3), (4, .int x4), (5, .int x5), (6, .int x6), (8, .int x8), (9, .int x9)] [.int y0] h := by
  unfold wX4_learnRoutesTo_J176 at w
  refine X_istore (ls' := [(0, .ref _), (2, .ref _), (3, .ref _), (4, .int _), (5, .int _), (6, .int _), (8, .int _), (9, .int _), (10, .int _)]) (show decode cX4_learnRoutesTo 176 = .ok (.istore 10, 2) by decide +kernel) (by decide) rfl ?_
  refine X_iload (j := 8) (show decode cX4_learnRoutesTo 178 = .ok (.iload 10, 2) by decide +kernel) rfl ?_
  refine X_if_eq (tgt := 209) (show decode cX4_learnRoutesTo 180 = .ok (.ifCond .eq 29, 3) by decide +kernel) (by decide) ⟨fun c42 => ?_, fun c42 => ?_⟩
  · have w := w.1 c42
    refine X_iinc (j := 7) (v := _ + (nI 1)) (ls' := [(0, .ref _), (2, .ref _), (3, .ref _), (4, .int _), (5, .int _), (6, .int _), (8, .int _), (9, .int _), (10, .int _)]) (show decode cX4_learnRoutesTo 209 = .ok (.iinc 9 1, 3) by decide +kernel) rfl rfl (Nat.le_of_ble_eq_true rfl) rfl ?_
    refine X_goto (tgt := 129) (show decode cX4_learnRoutesTo 212 = .ok (.goto (-83), 3) by decide +kernel) (by decide) ?_
    refine X_pick (ls' := [(0, .ref _), (2, .ref _), (3, .ref _), (4, .int _), (5, .int _), (6, .int _), (8, .int _), (9, .int _)]) [0, 1, 2, 3, 4, 5, 6, 7] rfl ?_
    exact hc129 _ _ _ _ _ _ _ _ _ w
  · have w := w.2 c42
    refine X_aload_n (j := 0) (show decode cX4_learnRoutesTo 183 = .ok (.aload_n 0, 1) by decide +kernel) rfl rfl ?_
    refine X_iload (j := 7) (show decode cX4_learnRoutesTo 184 = .ok (.iload 9, 2) by decide +kernel) rfl ?_
    refine X_iload (j := 5) (show decode cX4_learnRoutesTo 186 = .ok (.iload 6, 2) by decide +kernel) rfl ?_
    obtain ⟨s55, w⟩ := w
    refine X_vI (rc' := 0) (rs' := 0) (as := [.int _, .int _]) mv_X4_92 (show decode cX4_learnRoutesTo 188 = .ok (.invokevirtual 92, 3) by decide +kernel) (by decide) (Nat.le_of_ble_eq_true rfl) (Nat.le_of_ble_eq_true rfl) rfl rfl (Nat.le_of_ble_eq_true rfl) (rcvD s55 (by decide) rfl) (kX4_leadsTo w) (fun E h hk => hk.elim) (fun r44 h43 w => ?_)
    refine X_if_eq (tgt := 209) (show decode cX4_learnRoutesTo 191 = .ok (.ifCond .eq 18, 3) by decide +kernel) (by decide) ⟨fun c45 => ?_, fun c45 => ?_⟩
    · have w := w.1 c45
      refine X_iinc (j := 7) (v := _ + (nI 1)) (ls' := [(0, .ref _), (2, .ref _), (3, .ref _), (4, .int _), (5, .int _), (6, .int _), (8, .int _), (9, .int _), (10, .int _)]) (show decode cX4_learnRoutesTo 209 = .ok (.iinc 9 1, 3) by decide +kernel) rfl rfl (Nat.le_of_ble_eq_true rfl) rfl ?_
      refine X_goto (tgt := 129) (show decode cX4_learnRoutesTo 212 = .ok (.goto (-83), 3) by decide +kernel) (by decide) ?_
      refine X_pick (ls' := [(0, .ref _), (2, .ref _), (3, .ref _), (4, .int _), (5, .int _), (6, .int _), (8, .int _), (9, .int _)]) [0, 1, 2, 3, 4, 5, 6, 7] rfl ?_
      exact hc129 _ _ _ _ _ _ _ _ _ w
    · have w := w.2 c45
      refine X_aload_n (j := 0) (show decode cX4_learnRoutesTo 194 = .ok (.aload_n 0, 1) by decide +kernel) rfl rfl ?_
      obtain ⟨s46, w⟩ := w
      refine X_getR fl_X4_48 (show decode cX4_learnRoutesTo 195 = .ok (.getfield 48, 3) by decide +kernel) s46 ?_
      refine X_iload (j := 7) (show decode cX4_learnRoutesTo 198 = .ok (.iload 9, 2) by decide +kernel) rfl ?_
      refine X_iload (j := 6) (show decode cX4_learnRoutesTo 200 = .ok (.iload 8, 2) by decide +kernel) rfl ?_
      obtain ⟨s47, w⟩ := w
      obtain ⟨s48, w⟩ := w
      obtain ⟨s49, w⟩ := w
      refine X_iast (show decode cX4_learnRoutesTo 202 = .ok (.iastore, 1) by decide +kernel) (isA_eq s47) s48 s49 ?_
      have w := w _ rfl
      refine X_aload_n (j := 1) (show decode cX4_learnRoutesTo 203 = .ok (.aload_n 2, 1) by decide +kernel) rfl rfl ?_
      refine X_iload (j := 7) (show decode cX4_learnRoutesTo 204 = .ok (.iload 9, 2) by decide +kernel) rfl ?_
      refine X_iload (j := 5) (show decode cX4_learnRoutesTo 206 = .ok (.iload 6, 2) by decide +kernel) rfl ?_
      obtain ⟨s51, w⟩ := w
      obtain ⟨s52, w⟩ := w
      obtain ⟨s53, w⟩ := w
      refine X_iast (show decode cX4_learnRoutesTo 208 = .ok (.iastore, 1) by decide +kernel) (isA_eq s51) s52 s53 ?_
      have w := w _ rfl
      refine X_iinc (j := 7) (v := _ + (nI 1)) (ls' := [(0, .ref _), (2, .ref _), (3, .ref _), (4, .int _), (5, .int _), (6, .int _), (8, .int _), (9, .int _), (10, .int _)]) (show decode cX4_learnRoutesTo 209 = .ok (.iinc 9 1, 3) by decide +kernel) rfl rfl (Nat.le_of_ble_eq_true rfl) rfl ?_
      refine X_goto (tgt := 129) (show decode cX4_learnRoutesTo 212 = .ok (.goto (-83), 3) by decide +kernel) (by decide) ?_
      refine X_pick (ls' := [(0, .ref _), (2, .ref _), (3, .ref _), (4, .int _), (5, .int _), (6, .int _), (8, .int _), (9, .int _)]) [0, 1, 2, 3, 4, 5, 6, 7] rfl ?_
      exact hc129 _ _ _ _ _ _ _ _ _ w
set_option maxRecDepth 100000 in
set_option maxHeartbeats 4000000 in
theorem kX4_learnRoutesTo_J171 {K : AH → Prop} {c129 : Nat → Nat → Nat → Int32 → Int32 → Int32 → Int32 → Int32 → AH → Prop} (hc129 : ∀ x0 x2 x3 x4 x5 x6 x8 x9 h, c129 x0 x2 x3 x4 x5 x6 x8 x9 h → X mX4_learnRoutesTo 3 (KV K) T0 0 0 129 [(0, .ref x0), (2, .ref x2), (3, .ref x3), (4, .int x4), (5, .int x5), (6, .int x6), (8, .int x8), (9, .int x9)] [] h) (x0 : Nat) (x2 : Nat) (x3 : Nat) (x4 : Int32) (x5 : Int32) (x6 : Int32) (x8 : Int32) (x9 : Int32) (h : AH) (w : wX4_learnRoutesTo_J171 K c129 x0 x2 x3 x4 x5 x6 x8 x9 h) : X mX4_learnRoutesTo 3 (KV K) T0 0 0 171 [(0, .ref x0), (2, .ref x2), (3, .ref x3), (4, .int x4), (5, .int x5), (6, .int x6), (8, .int x8), (9, .int x9)] [] h := by
  unfold wX4_learnRoutesTo_J171 at w
  refine X_iconst (v := (nI 1)) (show decode cX4_learnRoutesTo 171 = .ok (.iconst 1, 1) by decide +kernel) (by decide) ?_
  refine X_goto (tgt := 176) (show decode cX4_learnRoutesTo 172 = .ok (.goto 4, 3) by decide +kernel) (by decide) ?_
  exact kX4_learnRoutesTo_J176 hc129 _ _ _ _ _ _ _ _ _ _ w
set_option maxRecDepth 100000 in
set_option maxHeartbeats 4000000 in
theorem kX4_learnRoutesTo_J175 {K : AH → Prop} {c129 : Nat → Nat → Nat → Int32 → Int32 → Int32 → Int32 → Int32 → AH → Prop} (hc129 : ∀ x0 x2 x3 x4 x5 x6 x8 x9 h, c129 x0 x2 x3 x4 x5 x6 x8 x9 h → X mX4_learnRoutesTo 3 (KV K) T0 0 0 129 [(0, .ref x0), (2, .ref x2), (3, .ref x3), (4, .int x4), (5, .int x5), (6, .int x6), (8, .int x8), (9, .int x9)] [] h) (x0 : Nat) (x2 : Nat) (x3 : Nat) (x4 : Int32) (x5 : Int32) (x6 : Int32) (x8 : Int32) (x9 : Int32) (h : AH) (w : wX4_learnRoutesTo_J175 K c129 x0 x2 x3 x4 x5 x6 x8 x9 h) : X mX4_learnRoutesTo 3 (KV K) T0 0 0 175 [(0, .ref x0), (2, .ref x2), (3, .ref x3), (4, .int x4), (5, .int x5), (6, .int x6), (8, .int x8), (9, .int x9)] [] h := by
  unfold wX4_learnRoutesTo_J175 at w
  refine X_iconst (v := (nI 0)) (show decode cX4_learnRoutesTo 175 = .ok (.iconst 0, 1) by decide +kernel) (by decide) ?_
  exact kX4_learnRoutesTo_J176 hc129 _ _ _ _ _ _ _ _ _ _ w
set_option maxRecDepth 100000 in
set_option maxHeartbeats 4000000 in
theorem kX4_learnRoutesTo_L129 {K : AH → Prop} {c215 : Nat → Nat → Nat → Int32 → Int32 → AH → Prop} (hc215 : ∀ x0 x2 x3 x4 x5 h, c215 x0 x2 x3 x4 x5 h → X mX4_learnRoutesTo 3 (KV K) T0 0 0 215 [(0, .ref x0), (2, .ref x2), (3, .ref x3), (4, .int x4), (5, .int x5)] [] h)  : ∀ (n : Nat) (x0 : Nat) (x2 : Nat) (x3 : Nat) (x4 : Int32) (x5 : Int32) (x6 : Int32) (x8 : Int32) (x9 : Int32) (h : AH), wX4_learnRoutesTo_L129 K c215  n x0 x2 x3 x4 x5 x6 x8 x9 h → X mX4_learnRoutesTo 3 (KV K) T0 0 0 129 [(0, .ref x0), (2, .ref x2), (3, .ref x3), (4, .int x4), (5, .int x5), (6, .int x6), (8, .int x8), (9, .int x9)] [] h := by
  intro n
  induction n with
  | zero => intro _ _ _ _ _ _ _ _ _ w; exact w.elim
  | succ n ih =>
    intro x0 x2 x3 x4 x5 x6 x8 x9 h w
    rw [wX4_learnRoutesTo_L129] at w
    refine X_iload (j := 7) (show decode cX4_learnRoutesTo 129 = .ok (.iload 9, 2) by decide +kernel) rfl ?_
    refine X_aload_n (j := 0) (show decode cX4_learnRoutesTo 131 = .ok (.aload_n 0, 1) by decide +kernel) rfl rfl ?_
    obtain ⟨s37, w⟩ := w
    refine X_getI fl_X4_9 (show decode cX4_learnRoutesTo 132 = .ok (.getfield 9, 3) by decide +kernel) s37 ?_
    refine X_icmp_ge (tgt := 215) (show decode cX4_learnRoutesTo 135 = .ok (.if_icmp .ge 80, 3) by decide +kernel) (by decide) ⟨fun c38 => ?_, fun c38 => ?_⟩
    · have w := w.1 c38
      refine X_pick (ls' := [(0, .ref _), (2, .ref _), (3, .ref _), (4, .int _), (5, .int _)]) [0, 1, 2, 3, 4] rfl ?_
      exact hc215 _ _ _ _ _ _ w
    · have w := w.2 c38
      refine X_iload (j := 6) (show decode cX4_learnRoutesTo 138 = .ok (.iload 8, 2) by decide +kernel) rfl ?_
      refine X_aload_n (j := 0) (show decode cX4_learnRoutesTo 140 = .ok (.aload_n 0, 1) by decide +kernel) rfl rfl ?_
      refine X_getR fl_X4_48 (show decode cX4_learnRoutesTo 141 = .ok (.getfield 48, 3) by decide +kernel) s37 ?_
      refine X_iload (j := 7) (show decode cX4_learnRoutesTo 144 = .ok (.iload 9, 2) by decide +kernel) rfl ?_
      obtain ⟨s39, w⟩ := w
      obtain ⟨s40, w⟩ := w
      refine X_iald (show decode cX4_learnRoutesTo 146 = .ok (.iaload, 1) by decide +kernel) (isA_eq s39) s40 ?_
      refine X_icmp_lt (tgt := 171) (show decode cX4_learnRoutesTo 147 = .ok (.if_icmp .lt 24, 3) by decide +kernel) (by decide) ⟨fun c41 => ?_, fun c41 => ?_⟩
      · have w := w.1 c41
        exact kX4_learnRoutesTo_J171 ih _ _ _ _ _ _ _ _ _ w
      · have w := w.2 c41
        refine X_iload (j := 6) (show decode cX4_learnRoutesTo 150 = .ok (.iload 8, 2) by decide +kernel) rfl ?_
        refine X_aload_n (j := 0) (show decode cX4_learnRoutesTo 152 = .ok (.aload_n 0, 1) by decide +kernel) rfl rfl ?_
        refine X_getR fl_X4_48 (show decode cX4_learnRoutesTo 153 = .ok (.getfield 48, 3) by decide +kernel) s37 ?_
        refine X_iload (j := 7) (show decode cX4_learnRoutesTo 156 = .ok (.iload 9, 2) by decide +kernel) rfl ?_
        refine X_iald (show decode cX4_learnRoutesTo 158 = .ok (.iaload, 1) by decide +kernel) (isA_eq s39) s40 ?_
        refine X_icmp_ne (tgt := 175) (show decode cX4_learnRoutesTo 159 = .ok (.if_icmp .ne 16, 3) by decide +kernel) (by decide) ⟨fun c56 => ?_, fun c56 => ?_⟩
        · have w := w.1 c56
          exact kX4_learnRoutesTo_J175 ih _ _ _ _ _ _ _ _ _ w
        · have w := w.2 c56
          refine X_iload (j := 5) (show decode cX4_learnRoutesTo 162 = .ok (.iload 6, 2) by decide +kernel) rfl ?_
          refine X_aload_n (j := 1) (show decode cX4_learnRoutesTo 164 = .ok (.aload_n 2, 1) by decide +kernel) rfl rfl ?_
          refine X_iload (j := 7) (show decode cX4_learnRoutesTo 165 = .ok (.iload 9, 2) by decide +kernel) rfl ?_
          obtain ⟨s57, w⟩ := w
          obtain ⟨s58, w⟩ := w
          refine X_iald (show decode cX4_learnRoutesTo 167 = .ok (.iaload, 1) by decide +kernel) (isA_eq s57) s58 ?_
          refine X_icmp_ge (tgt := 175) (show decode cX4_learnRoutesTo 168 = .ok (.if_icmp .ge 7, 3) by decide +kernel) (by decide) ⟨fun c59 => ?_, fun c59 => ?_⟩
          · have w := w.1 c59
            exact kX4_learnRoutesTo_J175 ih _ _ _ _ _ _ _ _ _ w
          · have w := w.2 c59
            exact kX4_learnRoutesTo_J171 ih _ _ _ _ _ _ _ _ _ w
set_option maxRecDepth 100000 in
set_option maxHeartbeats 4000000 in
theorem kX4_learnRoutesTo_J104 {K : AH → Prop} {c46 : Nat → Nat → Nat → Int32 → Int32 → AH → Prop} (hc46 : ∀ x0 x2 x3 x4 x5 h, c46 x0 x2 x3 x4 x5 h → X mX4_learnRoutesTo 3 (KV K) T0 0 0 46 [(0, .ref x0), (2, .ref x2), (3, .ref x3), (4, .int x4), (5, .int x5)] [] h) (x0 : Nat) (x2 : Nat) (x3 : Nat) (x4 : Int32) (x5 : Int32) (x6 : Int32) (h : AH) (w : wX4_learnRoutesTo_J104 K c46 x0 x2 x3 x4 x5 x6 h) : X mX4_learnRoutesTo 3 (KV K) T0 0 0 104 [(0, .ref x0), (2, .ref x2), (3, .ref x3), (4, .int x4), (5, .int x5), (6, .int x6)] [] h := by
  unfold wX4_learnRoutesTo_J104 at w
  refine X_aload_n (j := 0) (show decode cX4_learnRoutesTo 104 = .ok (.aload_n 0, 1) by decide +kernel) rfl rfl ?_
  obtain ⟨s30, w⟩ := w
  refine X_getR fl_X4_48 (show decode cX4_learnRoutesTo 105 = .ok (.getfield 48, 3) by decide +kernel) s30 ?_
  refine X_iload (j := 5) (show decode cX4_learnRoutesTo 108 = .ok (.iload 6, 2) by decide +kernel) rfl ?_
  obtain ⟨s31, w⟩ := w
  obtain ⟨s32, w⟩ := w
  refine X_iald (show decode cX4_learnRoutesTo 110 = .ok (.iaload, 1) by decide +kernel) (isA_eq s31) s32 ?_
  refine X_aload_n (j := 0) (show decode cX4_learnRoutesTo 111 = .ok (.aload_n 0, 1) by decide +kernel) rfl rfl ?_
  refine X_getR fl_X4_27 (show decode cX4_learnRoutesTo 112 = .ok (.getfield 27, 3) by decide +kernel) s30 ?_
  refine X_iload (j := 5) (show decode cX4_learnRoutesTo 115 = .ok (.iload 6, 2) by decide +kernel) rfl ?_
  obtain ⟨s33, w⟩ := w
  obtain ⟨s34, w⟩ := w
  refine X_iald (show decode cX4_learnRoutesTo 117 = .ok (.iaload, 1) by decide +kernel) (isA_eq s33) s34 ?_
  refine X_bipush (v := (nI 16)) (show decode cX4_learnRoutesTo 118 = .ok (.bipush 16, 2) by decide +kernel) (by decide) ?_
  refine X_imul (show decode cX4_learnRoutesTo 120 = .ok (.imul, 1) by decide +kernel) ?_
  refine X_iadd (show decode cX4_learnRoutesTo 121 = .ok (.iadd, 1) by decide +kernel) ?_
  refine X_iconst (v := (nI 1)) (show decode cX4_learnRoutesTo 122 = .ok (.iconst 1, 1) by decide +kernel) (by decide) ?_
  refine X_iadd (show decode cX4_learnRoutesTo 123 = .ok (.iadd, 1) by decide +kernel) ?_
  refine X_topi (fun v35 e36 => ?_)
  have w := w v35 e36
  refine X_istore (ls' := [(0, .ref _), (2, .ref _), (3, .ref _), (4, .int _), (5, .int _), (6, .int _), (8, .int _)]) (show decode cX4_learnRoutesTo 124 = .ok (.istore 8, 2) by decide +kernel) (by decide) rfl ?_
  refine X_iconst (v := (nI 0)) (show decode cX4_learnRoutesTo 126 = .ok (.iconst 0, 1) by decide +kernel) (by decide) ?_
  refine X_istore (ls' := [(0, .ref _), (2, .ref _), (3, .ref _), (4, .int _), (5, .int _), (6, .int _), (8, .int _), (9, .int _)]) (show decode cX4_learnRoutesTo 127 = .ok (.istore 9, 2) by decide +kernel) (by decide) rfl ?_
  obtain ⟨n66, w⟩ := w
  refine kX4_learnRoutesTo_L129 ?_ n66 _ _ _ _ _ _ _ _ _ w
  · intro x0_60 x2_61 x3_62 x4_63 x5_64 h65 w
    refine X_iinc (j := 4) (v := _ + (nI 1)) (ls' := [(0, .ref _), (2, .ref _), (3, .ref _), (4, .int _), (5, .int _)]) (show decode cX4_learnRoutesTo 215 = .ok (.iinc 5 1, 3) by decide +kernel) rfl rfl (Nat.le_of_ble_eq_true rfl) rfl ?_
    refine X_goto (tgt := 46) (show decode cX4_learnRoutesTo 218 = .ok (.goto (-172), 3) by decide +kernel) (by decide) ?_
    exact hc46 _ _ _ _ _ _ w
set_option maxRecDepth 100000 in
set_option maxHeartbeats 4000000 in
theorem kX4_learnRoutesTo_L46 {K : AH → Prop}    : ∀ (n : Nat) (x0 : Nat) (x2 : Nat) (x3 : Nat) (x4 : Int32) (x5 : Int32) (h : AH), wX4_learnRoutesTo_L46 K   n x0 x2 x3 x4 x5 h → X mX4_learnRoutesTo 3 (KV K) T0 0 0 46 [(0, .ref x0), (2, .ref x2), (3, .ref x3), (4, .int x4), (5, .int x5)] [] h := by
  intro n
  induction n with
  | zero => intro _ _ _ _ _ _ w; exact w.elim
  | succ n ih =>
    intro x0 x2 x3 x4 x5 h w
    rw [wX4_learnRoutesTo_L46] at w
    refine X_iload (j := 4) (show decode cX4_learnRoutesTo 46 = .ok (.iload 5, 2) by decide +kernel) rfl ?_
    refine X_aload_n (j := 0) (show decode cX4_learnRoutesTo 48 = .ok (.aload_n 0, 1) by decide +kernel) rfl rfl ?_
    obtain ⟨s20, w⟩ := w
    refine X_getI fl_X4_9 (show decode cX4_learnRoutesTo 49 = .ok (.getfield 9, 3) by decide +kernel) s20 ?_
    refine X_icmp_ge (tgt := 221) (show decode cX4_learnRoutesTo 52 = .ok (.if_icmp .ge 169, 3) by decide +kernel) (by decide) ⟨fun c21 => ?_, fun c21 => ?_⟩
    · have w := w.1 c21
      exact X_vret ⟨(show decode cX4_learnRoutesTo 221 = .ok (.return_, 1) by decide +kernel), rfl⟩ ⟨rfl, w⟩
    · have w := w.2 c21
      refine X_aload_n (j := 0) (show decode cX4_learnRoutesTo 55 = .ok (.aload_n 0, 1) by decide +kernel) rfl rfl ?_
      refine X_iload (j := 3) (show decode cX4_learnRoutesTo 56 = .ok (.iload 4, 2) by decide +kernel) rfl ?_
      refine X_vI (rc' := 0) (rs' := 0) (as := [.int _]) mv_X4_89 (show decode cX4_learnRoutesTo 58 = .ok (.invokevirtual 89, 3) by decide +kernel) (by decide) (Nat.le_of_ble_eq_true rfl) (Nat.le_of_ble_eq_true rfl) rfl rfl (Nat.le_of_ble_eq_true rfl) (rcvD s20 (by decide) rfl) (kX4_nearestBlock w) (fun E h hk => hk.elim) (fun r23 h22 w => ?_)
      refine X_istore (ls' := [(0, .ref _), (2, .ref _), (3, .ref _), (4, .int _), (5, .int _), (6, .int _)]) (show decode cX4_learnRoutesTo 61 = .ok (.istore 6, 2) by decide +kernel) (by decide) rfl ?_
      refine X_iload (j := 5) (show decode cX4_learnRoutesTo 63 = .ok (.iload 6, 2) by decide +kernel) rfl ?_
      refine X_iconst (v := (-1)) (show decode cX4_learnRoutesTo 65 = .ok (.iconst (-1), 1) by decide +kernel) (by decide) ?_
      refine X_icmp_ne (tgt := 70) (show decode cX4_learnRoutesTo 66 = .ok (.if_icmp .ne 4, 3) by decide +kernel) (by decide) ⟨fun c24 => ?_, fun c24 => ?_⟩
      · have w := w.1 c24
        refine X_iload (j := 3) (show decode cX4_learnRoutesTo 70 = .ok (.iload 4, 2) by decide +kernel) rfl ?_
        refine X_iconst (v := (nI 1)) (show decode cX4_learnRoutesTo 72 = .ok (.iconst 1, 1) by decide +kernel) (by decide) ?_
        refine X_iload (j := 5) (show decode cX4_learnRoutesTo 73 = .ok (.iload 6, 2) by decide +kernel) rfl ?_
        refine X_ishl (show decode cX4_learnRoutesTo 75 = .ok (.ishl, 1) by decide +kernel) ?_
        refine X_ior (show decode cX4_learnRoutesTo 76 = .ok (.ior, 1) by decide +kernel) ?_
        refine X_topi (fun v25 e26 => ?_)
        have w := w v25 e26
        refine X_istore (ls' := [(0, .ref _), (2, .ref _), (3, .ref _), (4, .int _), (5, .int _), (6, .int _)]) (show decode cX4_learnRoutesTo 77 = .ok (.istore 4, 2) by decide +kernel) (by decide) rfl ?_
        refine X_aload_n (j := 1) (show decode cX4_learnRoutesTo 79 = .ok (.aload_n 2, 1) by decide +kernel) rfl rfl ?_
        refine X_iload (j := 5) (show decode cX4_learnRoutesTo 80 = .ok (.iload 6, 2) by decide +kernel) rfl ?_
        obtain ⟨s27, w⟩ := w
        obtain ⟨s28, w⟩ := w
        refine X_iald (show decode cX4_learnRoutesTo 82 = .ok (.iaload, 1) by decide +kernel) (isA_eq s27) s28 ?_
        refine X_istore (ls' := [(0, .ref _), (2, .ref _), (3, .ref _), (4, .int _), (5, .int _), (6, .int _), (7, .int _)]) (show decode cX4_learnRoutesTo 83 = .ok (.istore 7, 2) by decide +kernel) (by decide) rfl ?_
        refine X_iload (j := 6) (show decode cX4_learnRoutesTo 85 = .ok (.iload 7, 2) by decide +kernel) rfl ?_
        refine X_iconst (v := (-1)) (show decode cX4_learnRoutesTo 87 = .ok (.iconst (-1), 1) by decide +kernel) (by decide) ?_
        refine X_icmp_eq (tgt := 104) (show decode cX4_learnRoutesTo 88 = .ok (.if_icmp .eq 16, 3) by decide +kernel) (by decide) ⟨fun c29 => ?_, fun c29 => ?_⟩
        · have w := w.1 c29
          refine X_pick (ls' := [(0, .ref _), (2, .ref _), (3, .ref _), (4, .int _), (5, .int _), (6, .int _)]) [0, 1, 2, 3, 4, 5] rfl ?_
          exact kX4_learnRoutesTo_J104 ih _ _ _ _ _ _ _ w
        · have w := w.2 c29
          refine X_aload_n (j := 2) (show decode cX4_learnRoutesTo 91 = .ok (.aload_n 3, 1) by decide +kernel) rfl rfl ?_
          refine X_iload (j := 5) (show decode cX4_learnRoutesTo 92 = .ok (.iload 6, 2) by decide +kernel) rfl ?_
          refine X_aload_n (j := 2) (show decode cX4_learnRoutesTo 94 = .ok (.aload_n 3, 1) by decide +kernel) rfl rfl ?_
          refine X_iload (j := 6) (show decode cX4_learnRoutesTo 95 = .ok (.iload 7, 2) by decide +kernel) rfl ?_
          obtain ⟨s67, w⟩ := w
          obtain ⟨s68, w⟩ := w
          refine X_iald (show decode cX4_learnRoutesTo 97 = .ok (.iaload, 1) by decide +kernel) (isA_eq s67) s68 ?_
          refine X_iconst (v := (nI 1)) (show decode cX4_learnRoutesTo 98 = .ok (.iconst 1, 1) by decide +kernel) (by decide) ?_
          refine X_iload (j := 6) (show decode cX4_learnRoutesTo 99 = .ok (.iload 7, 2) by decide +kernel) rfl ?_
          refine X_ishl (show decode cX4_learnRoutesTo 101 = .ok (.ishl, 1) by decide +kernel) ?_
          refine X_ior (show decode cX4_learnRoutesTo 102 = .ok (.ior, 1) by decide +kernel) ?_
          obtain ⟨s69, w⟩ := w
          obtain ⟨s70, w⟩ := w
          refine X_iast (show decode cX4_learnRoutesTo 103 = .ok (.iastore, 1) by decide +kernel) (isA_eq s67) s69 s70 ?_
          have w := w _ rfl
          refine X_pick (ls' := [(0, .ref _), (2, .ref _), (3, .ref _), (4, .int _), (5, .int _), (6, .int _)]) [0, 1, 2, 3, 4, 5] rfl ?_
          exact kX4_learnRoutesTo_J104 ih _ _ _ _ _ _ _ w
      · have w := w.2 c24
        exact X_vret ⟨(show decode cX4_learnRoutesTo 69 = .ok (.return_, 1) by decide +kernel), rfl⟩ ⟨rfl, w⟩
set_option maxRecDepth 100000 in
set_option maxHeartbeats 4000000 in
theorem kX4_learnRoutesTo {a0 : Nat} {a1 : Int32} {h : AH} {K : AH → Prop} (w : wX4_learnRoutesTo a0 a1 h K) : Cn mX4_learnRoutesTo (cwd mX4_learnRoutesTo) 3 0 0 [.ref a0, .int a1] h (KV K) T0 := by
  refine Cn_of (by decide +kernel) rfl (Nat.le_of_ble_eq_true rfl) ?_
  show X mX4_learnRoutesTo 3 (KV K) T0 0 0 0 [(0, .ref a0), (1, .int a1)] [] h
  unfold wX4_learnRoutesTo at w
  refine X_aload_n (j := 0) (show decode cX4_learnRoutesTo 0 = .ok (.aload_n 0, 1) by decide +kernel) rfl rfl ?_
  obtain ⟨s1, w⟩ := w
  refine X_getR fl_X4_42 (show decode cX4_learnRoutesTo 1 = .ok (.getfield 42, 3) by decide +kernel) s1 ?_
  refine X_iload_n (j := 1) (show decode cX4_learnRoutesTo 4 = .ok (.iload_n 1, 1) by decide +kernel) rfl rfl ?_
  obtain ⟨s2, w⟩ := w
  obtain ⟨s3, w⟩ := w
  obtain ⟨s4, w⟩ := w
  refine X_aaldA (show decode cX4_learnRoutesTo 5 = .ok (.aaload, 1) by decide +kernel) (isA_eq s2) s3 s4 ?_
  refine X_astore_n (ls' := [(0, .ref _), (1, .int _), (2, .ref _)]) (show decode cX4_learnRoutesTo 6 = .ok (.astore_n 2, 1) by decide +kernel) rfl (by decide) rfl ?_
  refine X_aload_n (j := 0) (show decode cX4_learnRoutesTo 7 = .ok (.aload_n 0, 1) by decide +kernel) rfl rfl ?_
  refine X_getR fl_X4_45 (show decode cX4_learnRoutesTo 8 = .ok (.getfield 45, 3) by decide +kernel) s1 ?_
  refine X_iload_n (j := 1) (show decode cX4_learnRoutesTo 11 = .ok (.iload_n 1, 1) by decide +kernel) rfl rfl ?_
  obtain ⟨s5, w⟩ := w
  obtain ⟨s6, w⟩ := w
  obtain ⟨s7, w⟩ := w
  refine X_aaldA (show decode cX4_learnRoutesTo 12 = .ok (.aaload, 1) by decide +kernel) (isA_eq s5) s6 s7 ?_
  refine X_astore_n (ls' := [(0, .ref _), (1, .int _), (2, .ref _), (3, .ref _)]) (show decode cX4_learnRoutesTo 13 = .ok (.astore_n 3, 1) by decide +kernel) rfl (by decide) rfl ?_
  refine X_aload_n (j := 2) (show decode cX4_learnRoutesTo 14 = .ok (.aload_n 2, 1) by decide +kernel) rfl rfl ?_
  refine X_iconst (v := (-1)) (show decode cX4_learnRoutesTo 15 = .ok (.iconst (-1), 1) by decide +kernel) (by decide) ?_
  refine X_sV (rc' := 0) (rs' := 0) (as := [.ref _, .int _]) ms_X4_82 (show decode cX4_learnRoutesTo 16 = .ok (.invokestatic 82, 3) by decide +kernel) (by decide) (Nat.le_of_ble_eq_true rfl) (Nat.le_of_ble_eq_true rfl) rfl rfl (Nat.le_of_ble_eq_true rfl) (kJ7_fill_53178 w) (fun E h hk => hk.elim) (fun h8 w => ?_)
  refine X_aload_n (j := 3) (show decode cX4_learnRoutesTo 19 = .ok (.aload_n 3, 1) by decide +kernel) rfl rfl ?_
  refine X_iconst (v := (nI 0)) (show decode cX4_learnRoutesTo 20 = .ok (.iconst 0, 1) by decide +kernel) (by decide) ?_
  refine X_sV (rc' := 0) (rs' := 0) (as := [.ref _, .int _]) ms_X4_82 (show decode cX4_learnRoutesTo 21 = .ok (.invokestatic 82, 3) by decide +kernel) (by decide) (Nat.le_of_ble_eq_true rfl) (Nat.le_of_ble_eq_true rfl) rfl rfl (Nat.le_of_ble_eq_true rfl) (kJ7_fill_53178 w) (fun E h hk => hk.elim) (fun h10 w => ?_)
  refine X_aload_n (j := 0) (show decode cX4_learnRoutesTo 24 = .ok (.aload_n 0, 1) by decide +kernel) rfl rfl ?_
  obtain ⟨s12, w⟩ := w
  refine X_getR fl_X4_48 (show decode cX4_learnRoutesTo 25 = .ok (.getfield 48, 3) by decide +kernel) s12 ?_
  refine X_ldc (v := (nI 1000000)) (show decode cX4_learnRoutesTo 28 = .ok (.ldc 88, 2) by decide +kernel) gc_X4_88 ?_
  refine X_sV (rc' := 0) (rs' := 0) (as := [.ref _, .int _]) ms_X4_82 (show decode cX4_learnRoutesTo 30 = .ok (.invokestatic 82, 3) by decide +kernel) (by decide) (Nat.le_of_ble_eq_true rfl) (Nat.le_of_ble_eq_true rfl) rfl rfl (Nat.le_of_ble_eq_true rfl) (kJ7_fill_53178 w) (fun E h hk => hk.elim) (fun h13 w => ?_)
  refine X_aload_n (j := 0) (show decode cX4_learnRoutesTo 33 = .ok (.aload_n 0, 1) by decide +kernel) rfl rfl ?_
  obtain ⟨s15, w⟩ := w
  refine X_getR fl_X4_48 (show decode cX4_learnRoutesTo 34 = .ok (.getfield 48, 3) by decide +kernel) s15 ?_
  refine X_iload_n (j := 1) (show decode cX4_learnRoutesTo 37 = .ok (.iload_n 1, 1) by decide +kernel) rfl rfl ?_
  refine X_iconst (v := (nI 0)) (show decode cX4_learnRoutesTo 38 = .ok (.iconst 0, 1) by decide +kernel) (by decide) ?_
  obtain ⟨s16, w⟩ := w
  obtain ⟨s17, w⟩ := w
  obtain ⟨s18, w⟩ := w
  refine X_iast (show decode cX4_learnRoutesTo 39 = .ok (.iastore, 1) by decide +kernel) (isA_eq s16) s17 s18 ?_
  have w := w _ rfl
  refine X_iconst (v := (nI 0)) (show decode cX4_learnRoutesTo 40 = .ok (.iconst 0, 1) by decide +kernel) (by decide) ?_
  refine X_istore (ls' := [(0, .ref _), (1, .int _), (2, .ref _), (3, .ref _), (4, .int _)]) (show decode cX4_learnRoutesTo 41 = .ok (.istore 4, 2) by decide +kernel) (by decide) rfl ?_
  refine X_iconst (v := (nI 0)) (show decode cX4_learnRoutesTo 43 = .ok (.iconst 0, 1) by decide +kernel) (by decide) ?_
  refine X_istore (ls' := [(0, .ref _), (1, .int _), (2, .ref _), (3, .ref _), (4, .int _), (5, .int _)]) (show decode cX4_learnRoutesTo 44 = .ok (.istore 5, 2) by decide +kernel) (by decide) rfl ?_
  refine X_pick (ls' := [(0, .ref _), (2, .ref _), (3, .ref _), (4, .int _), (5, .int _)]) [0, 2, 3, 4, 5] rfl ?_
  obtain ⟨n72, w⟩ := w
  exact kX4_learnRoutesTo_L46  n72 _ _ _ _ _ _ w
set_option maxRecDepth 100000 in
set_option maxHeartbeats 4000000 in
theorem kX4_learnRoutes_L2 {K : AH → Prop}    : ∀ (n : Nat) (x0 : Nat) (x1 : Int32) (h : AH), wX4_learnRoutes_L2 K   n x0 x1 h → X mX4_learnRoutes 4 (KV K) T0 0 0 2 [(0, .ref x0), (1, .int x1)] [] h := by
  intro n
  induction n with
  | zero => intro _ _ _ w; exact w.elim
  | succ n ih =>
    intro x0 x1 h w
    rw [wX4_learnRoutes_L2] at w
    refine X_iload_n (j := 1) (show decode cX4_learnRoutes 2 = .ok (.iload_n 1, 1) by decide +kernel) rfl rfl ?_
    refine X_aload_n (j := 0) (show decode cX4_learnRoutes 3 = .ok (.aload_n 0, 1) by decide +kernel) rfl rfl ?_
    obtain ⟨s1, w⟩ := w
    refine X_getI fl_X4_9 (show decode cX4_learnRoutes 4 = .ok (.getfield 9, 3) by decide +kernel) s1 ?_
    refine X_icmp_ge (tgt := 21) (show decode cX4_learnRoutes 7 = .ok (.if_icmp .ge 14, 3) by decide +kernel) (by decide) ⟨fun c2 => ?_, fun c2 => ?_⟩
    · have w := w.1 c2
      exact X_vret ⟨(show decode cX4_learnRoutes 21 = .ok (.return_, 1) by decide +kernel), rfl⟩ ⟨rfl, w⟩
    · have w := w.2 c2
      refine X_aload_n (j := 0) (show decode cX4_learnRoutes 10 = .ok (.aload_n 0, 1) by decide +kernel) rfl rfl ?_
      refine X_iload_n (j := 1) (show decode cX4_learnRoutes 11 = .ok (.iload_n 1, 1) by decide +kernel) rfl rfl ?_
      refine X_vV (rc' := 0) (rs' := 0) (as := [.int _]) mv_X4_78 (show decode cX4_learnRoutes 12 = .ok (.invokevirtual 78, 3) by decide +kernel) (by decide) (Nat.le_of_ble_eq_true rfl) (Nat.le_of_ble_eq_true rfl) rfl rfl (Nat.le_of_ble_eq_true rfl) (rcvD s1 (by decide) rfl) (kX4_learnRoutesTo w) (fun E h hk => hk.elim) (fun h3 w => ?_)
      refine X_iinc (j := 1) (v := _ + (nI 1)) (ls' := [(0, .ref _), (1, .int _)]) (show decode cX4_learnRoutes 15 = .ok (.iinc 1 1, 3) by decide +kernel) rfl rfl (Nat.le_of_ble_eq_true rfl) rfl ?_
      refine X_goto (tgt := 2) (show decode cX4_learnRoutes 18 = .ok (.goto (-16), 3) by decide +kernel) (by decide) ?_
      exact ih _ _ _ w
set_option maxRecDepth 100000 in
set_option maxHeartbeats 4000000 in
theorem kX4_learnRoutes {a0 : Nat} {h : AH} {K : AH → Prop} (w : wX4_learnRoutes a0 h K) : Cn mX4_learnRoutes (cwd mX4_learnRoutes) 4 0 0 [.ref a0] h (KV K) T0 := by
  refine Cn_of (by decide +kernel) rfl (Nat.le_of_ble_eq_true rfl) ?_
  show X mX4_learnRoutes 4 (KV K) T0 0 0 0 [(0, .ref a0)] [] h
  unfold wX4_learnRoutes at w
  refine X_iconst (v := (nI 0)) (show decode cX4_learnRoutes 0 = .ok (.iconst 0, 1) by decide +kernel) (by decide) ?_
  refine X_istore_n (ls' := [(0, .ref _), (1, .int _)]) (show decode cX4_learnRoutes 1 = .ok (.istore_n 1, 1) by decide +kernel) rfl (by decide) rfl ?_
  obtain ⟨n5, w⟩ := w
  exact kX4_learnRoutes_L2  n5 _ _ _ w
