set_option maxRecDepth 100000 in
set_option maxHeartbeats 4000000 in
theorem kL_paths {a0 : Nat} {a1 : Int32} {a2 : Int32} {a3 : Nat} {h : AH} {K : Int32 → AH → Prop} (w : wL_paths a0 a1 a2 a3 h K) : Cn mL_paths (cwh mL_paths) 19 2 12 [.ref a0, .int a1, .int a2, .ref a3] h (KI K) T0 := by
  refine CnH_of (by decide +kernel) (Nat.le_of_ble_eq_true rfl) ?_
  show X mL_paths 19 (KI K) T0 2 12 0 [(0, .ref a0), (1, .int a1), (2, .int a2), (3, .ref a3)] [] h
  unfold wL_paths at w
  refine X_aload_n (j := 3) (show decode cL_paths 0 = .ok (.aload_n 3, 1) by decide +kernel) rfl rfl ?_
  refine X_iconst (v := (nI 0)) (show decode cL_paths 1 = .ok (.iconst 0, 1) by decide +kernel) (by decide) ?_
  refine X_aload_n (j := 0) (show decode cL_paths 2 = .ok (.aload_n 0, 1) by decide +kernel) rfl rfl ?_
  refine X_iload_n (j := 1) (show decode cL_paths 3 = .ok (.iload_n 1, 1) by decide +kernel) rfl rfl ?_
  refine X_iload_n (j := 2) (show decode cL_paths 4 = .ok (.iload_n 2, 1) by decide +kernel) rfl rfl ?_
  obtain ⟨s8, w⟩ := w
  refine X_vI (rc' := 0) (rs' := 0) (as := [.int _, .int _]) mv_L_78 (show decode cL_paths 5 = .ok (.invokevirtual 78, 3) by decide +kernel) (by decide) (Nat.le_of_ble_eq_true rfl) (Nat.le_of_ble_eq_true rfl) rfl rfl (Nat.le_of_ble_eq_true rfl) (rcvD s8 (by decide) rfl) (kX9_paths w) (fun E9 h7 hk => ?_) (fun r2 h1 w => ?_)
  · obtain ⟨rfl, w⟩ := hk
    refine XT_catch (name := "java/lang/IndexOutOfBoundsException") (i := 4) (j := 2) (ls' := []) [] (0, 10, 13, 21) [] rfl (fun z hz => absurd hz List.not_mem_nil) (by decide) (by decide) gw_of (List.mem_of_getElem? (i := 1143) (by decide +kernel)) (by decide +kernel) (List.mem_of_getElem? (i := 5) rfl) (Or.inr ⟨(show decode cL_paths 13 = .ok (.astore 4, 2) by decide +kernel), rfl⟩) (Nat.le_of_ble_eq_true rfl) (fun q hq => absurd hq List.not_mem_nil) ?_
    refine X_iconst (v := (nI 1)) (show decode cL_paths 15 = .ok (.iconst 1, 1) by decide +kernel) (by decide) ?_
    exact X_iret ⟨(show decode cL_paths 16 = .ok (.ireturn, 1) by decide +kernel), .int, rfl, rfl⟩ ⟨_, rfl, w⟩
  · skip
    refine X_i2l (show decode cL_paths 8 = .ok (.i2l, 1) by decide +kernel) ?_
    obtain ⟨s3, w⟩ := w
    obtain ⟨s4, w⟩ := w
    obtain ⟨s5, w⟩ := w
    refine X_last (show decode cL_paths 9 = .ok (.lastore, 1) by decide +kernel) (isA_eq s3) s4 s5 ?_
    have w := w _ rfl
    refine X_goto (tgt := 17) (show decode cL_paths 10 = .ok (.goto 7, 3) by decide +kernel) (by decide) ?_
    refine X_iconst (v := (nI 0)) (show decode cL_paths 17 = .ok (.iconst 0, 1) by decide +kernel) (by decide) ?_
    exact X_iret ⟨(show decode cL_paths 18 = .ok (.ireturn, 1) by decide +kernel), .int, rfl, rfl⟩ ⟨_, rfl, w⟩
set_option maxRecDepth 100000 in
set_option maxHeartbeats 4000000 in
theorem kL_blockOf {a0 : Nat} {a1 : Int32} {a2 : Nat} {h : AH} {K : Int32 → AH → Prop} (w : wL_blockOf a0 a1 a2 h K) : Cn mL_blockOf (cwh mL_blockOf) 10 1 6 [.ref a0, .int a1, .ref a2] h (KI K) T0 := by
  refine CnH_of (by decide +kernel) (Nat.le_of_ble_eq_true rfl) ?_
  show X mL_blockOf 10 (KI K) T0 1 6 0 [(0, .ref a0), (1, .int a1), (2, .ref a2)] [] h
  unfold wL_blockOf at w
  refine X_aload_n (j := 2) (show decode cL_blockOf 0 = .ok (.aload_n 2, 1) by decide +kernel) rfl rfl ?_
  refine X_iconst (v := (nI 0)) (show decode cL_blockOf 1 = .ok (.iconst 0, 1) by decide +kernel) (by decide) ?_
  refine X_aload_n (j := 0) (show decode cL_blockOf 2 = .ok (.aload_n 0, 1) by decide +kernel) rfl rfl ?_
  refine X_iload_n (j := 1) (show decode cL_blockOf 3 = .ok (.iload_n 1, 1) by decide +kernel) rfl rfl ?_
  obtain ⟨s8, w⟩ := w
  refine X_vI (rc' := 0) (rs' := 0) (as := [.int _]) mv_L_81 (show decode cL_blockOf 4 = .ok (.invokevirtual 81, 3) by decide +kernel) (by decide) (Nat.le_of_ble_eq_true rfl) (Nat.le_of_ble_eq_true rfl) rfl rfl (Nat.le_of_ble_eq_true rfl) (rcvD s8 (by decide) rfl) (kX9_blockOf w) (fun E9 h7 hk => ?_) (fun r2 h1 w => ?_)
  · obtain ⟨rfl, w⟩ := hk
    refine XT_catch (name := "java/util/NoSuchElementException") (i := 3) (j := 1) (ls' := []) [] (0, 9, 12, 43) [] rfl (fun z hz => absurd hz List.not_mem_nil) (by decide) (by decide) gw_of (List.mem_of_getElem? (i := 1245) (by decide +kernel)) (by decide +kernel) (List.mem_of_getElem? (i := 8) rfl) (Or.inl ⟨3, rfl, (show decode cL_blockOf 12 = .ok (.astore_n 3, 1) by decide +kernel), rfl⟩) (Nat.le_of_ble_eq_true rfl) (fun q hq => absurd hq List.not_mem_nil) ?_
    refine X_iconst (v := (nI 1)) (show decode cL_blockOf 13 = .ok (.iconst 1, 1) by decide +kernel) (by decide) ?_
    exact X_iret ⟨(show decode cL_blockOf 14 = .ok (.ireturn, 1) by decide +kernel), .int, rfl, rfl⟩ ⟨_, rfl, w⟩
  · skip
    refine X_i2l (show decode cL_blockOf 7 = .ok (.i2l, 1) by decide +kernel) ?_
    obtain ⟨s3, w⟩ := w
    obtain ⟨s4, w⟩ := w
    obtain ⟨s5, w⟩ := w
    refine X_last (show decode cL_blockOf 8 = .ok (.lastore, 1) by decide +kernel) (isA_eq s3) s4 s5 ?_
    have w := w _ rfl
    refine X_goto (tgt := 15) (show decode cL_blockOf 9 = .ok (.goto 6, 3) by decide +kernel) (by decide) ?_
    refine X_iconst (v := (nI 0)) (show decode cL_blockOf 15 = .ok (.iconst 0, 1) by decide +kernel) (by decide) ?_
    exact X_iret ⟨(show decode cL_blockOf 16 = .ok (.ireturn, 1) by decide +kernel), .int, rfl, rfl⟩ ⟨_, rfl, w⟩
set_option maxRecDepth 100000 in
set_option maxHeartbeats 4000000 in
theorem kL_destination {a0 : Nat} {a1 : Int32} {a2 : Nat} {h : AH} {K : Int32 → AH → Prop} (w : wL_destination a0 a1 a2 h K) : Cn mL_destination (cwh mL_destination) 10 1 6 [.ref a0, .int a1, .ref a2] h (KI K) T0 := by
  refine CnH_of (by decide +kernel) (Nat.le_of_ble_eq_true rfl) ?_
  show X mL_destination 10 (KI K) T0 1 6 0 [(0, .ref a0), (1, .int a1), (2, .ref a2)] [] h
  unfold wL_destination at w
  refine X_aload_n (j := 2) (show decode cL_destination 0 = .ok (.aload_n 2, 1) by decide +kernel) rfl rfl ?_
  refine X_iconst (v := (nI 0)) (show decode cL_destination 1 = .ok (.iconst 0, 1) by decide +kernel) (by decide) ?_
  refine X_aload_n (j := 0) (show decode cL_destination 2 = .ok (.aload_n 0, 1) by decide +kernel) rfl rfl ?_
  refine X_iload_n (j := 1) (show decode cL_destination 3 = .ok (.iload_n 1, 1) by decide +kernel) rfl rfl ?_
  obtain ⟨s8, w⟩ := w
  refine X_vI (rc' := 0) (rs' := 0) (as := [.int _]) mv_L_84 (show decode cL_destination 4 = .ok (.invokevirtual 84, 3) by decide +kernel) (by decide) (Nat.le_of_ble_eq_true rfl) (Nat.le_of_ble_eq_true rfl) rfl rfl (Nat.le_of_ble_eq_true rfl) (rcvD s8 (by decide) rfl) (kX9_destination w) (fun E9 h7 hk => ?_) (fun r2 h1 w => ?_)
  · obtain ⟨rfl, w⟩ := hk
    refine XT_catch (name := "java/util/NoSuchElementException") (i := 3) (j := 1) (ls' := []) [] (0, 9, 12, 43) [] rfl (fun z hz => absurd hz List.not_mem_nil) (by decide) (by decide) gw_of (List.mem_of_getElem? (i := 1245) (by decide +kernel)) (by decide +kernel) (List.mem_of_getElem? (i := 8) rfl) (Or.inl ⟨3, rfl, (show decode cL_destination 12 = .ok (.astore_n 3, 1) by decide +kernel), rfl⟩) (Nat.le_of_ble_eq_true rfl) (fun q hq => absurd hq List.not_mem_nil) ?_
    refine X_iconst (v := (nI 1)) (show decode cL_destination 13 = .ok (.iconst 1, 1) by decide +kernel) (by decide) ?_
    exact X_iret ⟨(show decode cL_destination 14 = .ok (.ireturn, 1) by decide +kernel), .int, rfl, rfl⟩ ⟨_, rfl, w⟩
  · skip
    refine X_i2l (show decode cL_destination 7 = .ok (.i2l, 1) by decide +kernel) ?_
    obtain ⟨s3, w⟩ := w
    obtain ⟨s4, w⟩ := w
    obtain ⟨s5, w⟩ := w
    refine X_last (show decode cL_destination 8 = .ok (.lastore, 1) by decide +kernel) (isA_eq s3) s4 s5 ?_
    have w := w _ rfl
    refine X_goto (tgt := 15) (show decode cL_destination 9 = .ok (.goto 6, 3) by decide +kernel) (by decide) ?_
    refine X_iconst (v := (nI 0)) (show decode cL_destination 15 = .ok (.iconst 0, 1) by decide +kernel) (by decide) ?_
    exact X_iret ⟨(show decode cL_destination 16 = .ok (.ireturn, 1) by decide +kernel), .int, rfl, rfl⟩ ⟨_, rfl, w⟩
set_option maxRecDepth 100000 in
set_option maxHeartbeats 4000000 in
theorem kL_hasRoute_J15 {K : Int32 → AH → Prop}   (y0 : Nat) (y1 : Int32) (y2 : Int64) (h : AH) (w : wL_hasRoute_J15 K  y0 y1 y2 h) : X mL_hasRoute 10 (KI K) T0 0 0 15 [] [.long y2, .int y1, .ref y0] h := by
  unfold wL_hasRoute_J15 at w
  obtain ⟨s4, w⟩ := w
  obtain ⟨s5, w⟩ := w
  obtain ⟨s6, w⟩ := w
  refine X_last (show decode cL_hasRoute 15 = .ok (.lastore, 1) by decide +kernel) (isA_eq s4) s5 s6 ?_
  have w := w _ rfl
  refine X_goto (tgt := 22) (show decode cL_hasRoute 16 = .ok (.goto 6, 3) by decide +kernel) (by decide) ?_
  refine X_iconst (v := (nI 0)) (show decode cL_hasRoute 22 = .ok (.iconst 0, 1) by decide +kernel) (by decide) ?_
  exact X_iret ⟨(show decode cL_hasRoute 23 = .ok (.ireturn, 1) by decide +kernel), .int, rfl, rfl⟩ ⟨_, rfl, w⟩
set_option maxRecDepth 100000 in
set_option maxHeartbeats 4000000 in
theorem kL_hasRoute {a0 : Nat} {a1 : Int32} {a2 : Nat} {h : AH} {K : Int32 → AH → Prop} (w : wL_hasRoute a0 a1 a2 h K) : Cn mL_hasRoute (cwh mL_hasRoute) 10 1 6 [.ref a0, .int a1, .ref a2] h (KI K) T0 := by
  refine CnH_of (by decide +kernel) (Nat.le_of_ble_eq_true rfl) ?_
  show X mL_hasRoute 10 (KI K) T0 1 6 0 [(0, .ref a0), (1, .int a1), (2, .ref a2)] [] h
  unfold wL_hasRoute at w
  refine X_aload_n (j := 2) (show decode cL_hasRoute 0 = .ok (.aload_n 2, 1) by decide +kernel) rfl rfl ?_
  refine X_iconst (v := (nI 0)) (show decode cL_hasRoute 1 = .ok (.iconst 0, 1) by decide +kernel) (by decide) ?_
  refine X_aload_n (j := 0) (show decode cL_hasRoute 2 = .ok (.aload_n 0, 1) by decide +kernel) rfl rfl ?_
  refine X_iload_n (j := 1) (show decode cL_hasRoute 3 = .ok (.iload_n 1, 1) by decide +kernel) rfl rfl ?_
  obtain ⟨s9, w⟩ := w
  refine X_vI (rc' := 0) (rs' := 0) (as := [.int _]) mv_L_87 (show decode cL_hasRoute 4 = .ok (.invokevirtual 87, 3) by decide +kernel) (by decide) (Nat.le_of_ble_eq_true rfl) (Nat.le_of_ble_eq_true rfl) rfl rfl (Nat.le_of_ble_eq_true rfl) (rcvD s9 (by decide) rfl) (kX9_hasRoute w) (fun E9 h8 hk => ?_) (fun r2 h1 w => ?_)
  · obtain ⟨rfl, w⟩ := hk
    refine XT_catch (name := "java/util/NoSuchElementException") (i := 3) (j := 1) (ls' := []) [] (0, 16, 19, 43) [] rfl (fun z hz => absurd hz List.not_mem_nil) (by decide) (by decide) gw_of (List.mem_of_getElem? (i := 1245) (by decide +kernel)) (by decide +kernel) (List.mem_of_getElem? (i := 8) rfl) (Or.inl ⟨3, rfl, (show decode cL_hasRoute 19 = .ok (.astore_n 3, 1) by decide +kernel), rfl⟩) (Nat.le_of_ble_eq_true rfl) (fun q hq => absurd hq List.not_mem_nil) ?_
    refine X_iconst (v := (nI 1)) (show decode cL_hasRoute 20 = .ok (.iconst 1, 1) by decide +kernel) (by decide) ?_
    exact X_iret ⟨(show decode cL_hasRoute 21 = .ok (.ireturn, 1) by decide +kernel), .int, rfl, rfl⟩ ⟨_, rfl, w⟩
  · skip
    refine X_if_eq (tgt := 14) (show decode cL_hasRoute 7 = .ok (.ifCond .eq 7, 3) by decide +kernel) (by decide) ⟨fun c3 => ?_, fun c3 => ?_⟩
    · have w := w.1 c3
      refine X_lconst (v := 0) (show decode cL_hasRoute 14 = .ok (.lconst 0, 1) by decide +kernel) (by decide) ?_
      refine X_pick (ls' := []) [] rfl ?_
      exact kL_hasRoute_J15  _ _ _ _ w
    · have w := w.2 c3
      refine X_lconst (v := 1) (show decode cL_hasRoute 10 = .ok (.lconst 1, 1) by decide +kernel) (by decide) ?_
      refine X_goto (tgt := 15) (show decode cL_hasRoute 11 = .ok (.goto 4, 3) by decide +kernel) (by decide) ?_
      refine X_pick (ls' := []) [] rfl ?_
      exact kL_hasRoute_J15  _ _ _ _ w
set_option maxRecDepth 100000 in
set_option maxHeartbeats 4000000 in
theorem kL_isClear_J15 {K : Int32 → AH → Prop}   (y0 : Nat) (y1 : Int32) (y2 : Int64) (h : AH) (w : wL_isClear_J15 K  y0 y1 y2 h) : X mL_isClear 10 (KI K) T0 0 0 15 [] [.long y2, .int y1, .ref y0] h := by
  unfold wL_isClear_J15 at w
  obtain ⟨s4, w⟩ := w
  obtain ⟨s5, w⟩ := w
  obtain ⟨s6, w⟩ := w
  refine X_last (show decode cL_isClear 15 = .ok (.lastore, 1) by decide +kernel) (isA_eq s4) s5 s6 ?_
  have w := w _ rfl
  refine X_goto (tgt := 22) (show decode cL_isClear 16 = .ok (.goto 6, 3) by decide +kernel) (by decide) ?_
  refine X_iconst (v := (nI 0)) (show decode cL_isClear 22 = .ok (.iconst 0, 1) by decide +kernel) (by decide) ?_
  exact X_iret ⟨(show decode cL_isClear 23 = .ok (.ireturn, 1) by decide +kernel), .int, rfl, rfl⟩ ⟨_, rfl, w⟩
set_option maxRecDepth 100000 in
set_option maxHeartbeats 4000000 in
theorem kL_isClear {a0 : Nat} {a1 : Int32} {a2 : Nat} {h : AH} {K : Int32 → AH → Prop} (w : wL_isClear a0 a1 a2 h K) : Cn mL_isClear (cwh mL_isClear) 10 1 6 [.ref a0, .int a1, .ref a2] h (KI K) T0 := by
  refine CnH_of (by decide +kernel) (Nat.le_of_ble_eq_true rfl) ?_
  show X mL_isClear 10 (KI K) T0 1 6 0 [(0, .ref a0), (1, .int a1), (2, .ref a2)] [] h
  unfold wL_isClear at w
  refine X_aload_n (j := 2) (show decode cL_isClear 0 = .ok (.aload_n 2, 1) by decide +kernel) rfl rfl ?_
  refine X_iconst (v := (nI 0)) (show decode cL_isClear 1 = .ok (.iconst 0, 1) by decide +kernel) (by decide) ?_
  refine X_aload_n (j := 0) (show decode cL_isClear 2 = .ok (.aload_n 0, 1) by decide +kernel) rfl rfl ?_
  refine X_iload_n (j := 1) (show decode cL_isClear 3 = .ok (.iload_n 1, 1) by decide +kernel) rfl rfl ?_
  obtain ⟨s9, w⟩ := w
  refine X_vI (rc' := 0) (rs' := 0) (as := [.int _]) mv_L_90 (show decode cL_isClear 4 = .ok (.invokevirtual 90, 3) by decide +kernel) (by decide) (Nat.le_of_ble_eq_true rfl) (Nat.le_of_ble_eq_true rfl) rfl rfl (Nat.le_of_ble_eq_true rfl) (rcvD s9 (by decide) rfl) (kX9_isClear w) (fun E9 h8 hk => ?_) (fun r2 h1 w => ?_)
  · obtain ⟨rfl, w⟩ := hk
    refine XT_catch (name := "java/util/NoSuchElementException") (i := 3) (j := 1) (ls' := []) [] (0, 16, 19, 43) [] rfl (fun z hz => absurd hz List.not_mem_nil) (by decide) (by decide) gw_of (List.mem_of_getElem? (i := 1245) (by decide +kernel)) (by decide +kernel) (List.mem_of_getElem? (i := 8) rfl) (Or.inl ⟨3, rfl, (show decode cL_isClear 19 = .ok (.astore_n 3, 1) by decide +kernel), rfl⟩) (Nat.le_of_ble_eq_true rfl) (fun q hq => absurd hq List.not_mem_nil) ?_
    refine X_iconst (v := (nI 1)) (show decode cL_isClear 20 = .ok (.iconst 1, 1) by decide +kernel) (by decide) ?_
    exact X_iret ⟨(show decode cL_isClear 21 = .ok (.ireturn, 1) by decide +kernel), .int, rfl, rfl⟩ ⟨_, rfl, w⟩
  · skip
    refine X_if_eq (tgt := 14) (show decode cL_isClear 7 = .ok (.ifCond .eq 7, 3) by decide +kernel) (by decide) ⟨fun c3 => ?_, fun c3 => ?_⟩
    · have w := w.1 c3
      refine X_lconst (v := 0) (show decode cL_isClear 14 = .ok (.lconst 0, 1) by decide +kernel) (by decide) ?_
      refine X_pick (ls' := []) [] rfl ?_
      exact kL_isClear_J15  _ _ _ _ w
    · have w := w.2 c3
      refine X_lconst (v := 1) (show decode cL_isClear 10 = .ok (.lconst 1, 1) by decide +kernel) (by decide) ?_
      refine X_goto (tgt := 15) (show decode cL_isClear 11 = .ok (.goto 4, 3) by decide +kernel) (by decide) ?_
      refine X_pick (ls' := []) [] rfl ?_
      exact kL_isClear_J15  _ _ _ _ w
set_option maxRecDepth 100000 in
set_option maxHeartbeats 4000000 in
theorem kL_minutesUntilNext {a0 : Nat} {a1 : Int32} {a2 : Nat} {h : AH} {K : Int32 → AH → Prop} (w : wL_minutesUntilNext a0 a1 a2 h K) : Cn mL_minutesUntilNext (cwh mL_minutesUntilNext) 11 2 12 [.ref a0, .int a1, .ref a2] h (KI K) T0 := by
  refine CnH_of (by decide +kernel) (Nat.le_of_ble_eq_true rfl) ?_
  show X mL_minutesUntilNext 11 (KI K) T0 2 12 0 [(0, .ref a0), (1, .int a1), (2, .ref a2)] [] h
  unfold wL_minutesUntilNext at w
  refine X_aload_n (j := 2) (show decode cL_minutesUntilNext 0 = .ok (.aload_n 2, 1) by decide +kernel) rfl rfl ?_
  refine X_iconst (v := (nI 0)) (show decode cL_minutesUntilNext 1 = .ok (.iconst 0, 1) by decide +kernel) (by decide) ?_
  refine X_aload_n (j := 0) (show decode cL_minutesUntilNext 2 = .ok (.aload_n 0, 1) by decide +kernel) rfl rfl ?_
  refine X_iload_n (j := 1) (show decode cL_minutesUntilNext 3 = .ok (.iload_n 1, 1) by decide +kernel) rfl rfl ?_
  obtain ⟨s8, w⟩ := w
  refine X_vI (rc' := 0) (rs' := 0) (as := [.int _]) mv_L_93 (show decode cL_minutesUntilNext 4 = .ok (.invokevirtual 93, 3) by decide +kernel) (by decide) (Nat.le_of_ble_eq_true rfl) (Nat.le_of_ble_eq_true rfl) rfl rfl (Nat.le_of_ble_eq_true rfl) (rcvD s8 (by decide) rfl) (kX9_minutesUntilNext w) (fun E9 h7 hk => ?_) (fun r2 h1 w => ?_)
  · obtain ⟨rfl, w⟩ := hk
    refine XT_catch (name := "java/util/NoSuchElementException") (i := 3) (j := 1) (ls' := []) [] (0, 9, 12, 43) [] rfl (fun z hz => absurd hz List.not_mem_nil) (by decide) (by decide) gw_of (List.mem_of_getElem? (i := 1245) (by decide +kernel)) (by decide +kernel) (List.mem_of_getElem? (i := 8) rfl) (Or.inl ⟨3, rfl, (show decode cL_minutesUntilNext 12 = .ok (.astore_n 3, 1) by decide +kernel), rfl⟩) (Nat.le_of_ble_eq_true rfl) (fun q hq => absurd hq List.not_mem_nil) ?_
    refine X_iconst (v := (nI 1)) (show decode cL_minutesUntilNext 13 = .ok (.iconst 1, 1) by decide +kernel) (by decide) ?_
    exact X_iret ⟨(show decode cL_minutesUntilNext 14 = .ok (.ireturn, 1) by decide +kernel), .int, rfl, rfl⟩ ⟨_, rfl, w⟩
  · skip
    refine X_i2l (show decode cL_minutesUntilNext 7 = .ok (.i2l, 1) by decide +kernel) ?_
    obtain ⟨s3, w⟩ := w
    obtain ⟨s4, w⟩ := w
    obtain ⟨s5, w⟩ := w
    refine X_last (show decode cL_minutesUntilNext 8 = .ok (.lastore, 1) by decide +kernel) (isA_eq s3) s4 s5 ?_
    have w := w _ rfl
    refine X_goto (tgt := 15) (show decode cL_minutesUntilNext 9 = .ok (.goto 6, 3) by decide +kernel) (by decide) ?_
    refine X_iconst (v := (nI 0)) (show decode cL_minutesUntilNext 15 = .ok (.iconst 0, 1) by decide +kernel) (by decide) ?_
    exact X_iret ⟨(show decode cL_minutesUntilNext 16 = .ok (.ireturn, 1) by decide +kernel), .int, rfl, rfl⟩ ⟨_, rfl, w⟩
set_option maxRecDepth 100000 in
set_option maxHeartbeats 4000000 in
theorem kL_minutesUntilArrival {a0 : Nat} {a1 : Int32} {a2 : Nat} {h : AH} {K : Int32 → AH → Prop} (w : wL_minutesUntilArrival a0 a1 a2 h K) : Cn mL_minutesUntilArrival (cwh mL_minutesUntilArrival) 11 2 12 [.ref a0, .int a1, .ref a2] h (KI K) T0 := by
  refine CnH_of (by decide +kernel) (Nat.le_of_ble_eq_true rfl) ?_
  show X mL_minutesUntilArrival 11 (KI K) T0 2 12 0 [(0, .ref a0), (1, .int a1), (2, .ref a2)] [] h
  unfold wL_minutesUntilArrival at w
  refine X_aload_n (j := 2) (show decode cL_minutesUntilArrival 0 = .ok (.aload_n 2, 1) by decide +kernel) rfl rfl ?_
  refine X_iconst (v := (nI 0)) (show decode cL_minutesUntilArrival 1 = .ok (.iconst 0, 1) by decide +kernel) (by decide) ?_
  refine X_aload_n (j := 0) (show decode cL_minutesUntilArrival 2 = .ok (.aload_n 0, 1) by decide +kernel) rfl rfl ?_
  refine X_iload_n (j := 1) (show decode cL_minutesUntilArrival 3 = .ok (.iload_n 1, 1) by decide +kernel) rfl rfl ?_
  obtain ⟨s8, w⟩ := w
  refine X_vI (rc' := 0) (rs' := 0) (as := [.int _]) mv_L_96 (show decode cL_minutesUntilArrival 4 = .ok (.invokevirtual 96, 3) by decide +kernel) (by decide) (Nat.le_of_ble_eq_true rfl) (Nat.le_of_ble_eq_true rfl) rfl rfl (Nat.le_of_ble_eq_true rfl) (rcvD s8 (by decide) rfl) (kX9_minutesUntilArrival w) (fun E9 h7 hk => ?_) (fun r2 h1 w => ?_)
  · obtain ⟨rfl, w⟩ := hk
    refine XT_catch (name := "java/util/NoSuchElementException") (i := 3) (j := 1) (ls' := []) [] (0, 9, 12, 43) [] rfl (fun z hz => absurd hz List.not_mem_nil) (by decide) (by decide) gw_of (List.mem_of_getElem? (i := 1245) (by decide +kernel)) (by decide +kernel) (List.mem_of_getElem? (i := 8) rfl) (Or.inl ⟨3, rfl, (show decode cL_minutesUntilArrival 12 = .ok (.astore_n 3, 1) by decide +kernel), rfl⟩) (Nat.le_of_ble_eq_true rfl) (fun q hq => absurd hq List.not_mem_nil) ?_
    refine X_iconst (v := (nI 1)) (show decode cL_minutesUntilArrival 13 = .ok (.iconst 1, 1) by decide +kernel) (by decide) ?_
    exact X_iret ⟨(show decode cL_minutesUntilArrival 14 = .ok (.ireturn, 1) by decide +kernel), .int, rfl, rfl⟩ ⟨_, rfl, w⟩
  · skip
    refine X_i2l (show decode cL_minutesUntilArrival 7 = .ok (.i2l, 1) by decide +kernel) ?_
    obtain ⟨s3, w⟩ := w
    obtain ⟨s4, w⟩ := w
    obtain ⟨s5, w⟩ := w
    refine X_last (show decode cL_minutesUntilArrival 8 = .ok (.lastore, 1) by decide +kernel) (isA_eq s3) s4 s5 ?_
    have w := w _ rfl
    refine X_goto (tgt := 15) (show decode cL_minutesUntilArrival 9 = .ok (.goto 6, 3) by decide +kernel) (by decide) ?_
    refine X_iconst (v := (nI 0)) (show decode cL_minutesUntilArrival 15 = .ok (.iconst 0, 1) by decide +kernel) (by decide) ?_
    exact X_iret ⟨(show decode cL_minutesUntilArrival 16 = .ok (.ireturn, 1) by decide +kernel), .int, rfl, rfl⟩ ⟨_, rfl, w⟩
set_option maxRecDepth 100000 in
set_option maxHeartbeats 4000000 in
theorem kL_minutesUntilArrivalByPassing {a0 : Nat} {a1 : Int32} {a2 : Nat} {h : AH} {K : Int32 → AH → Prop} (w : wL_minutesUntilArrivalByPassing a0 a1 a2 h K) : Cn mL_minutesUntilArrivalByPassing (cwh mL_minutesUntilArrivalByPassing) 11 2 12 [.ref a0, .int a1, .ref a2] h (KI K) T0 := by
  refine CnH_of (by decide +kernel) (Nat.le_of_ble_eq_true rfl) ?_
  show X mL_minutesUntilArrivalByPassing 11 (KI K) T0 2 12 0 [(0, .ref a0), (1, .int a1), (2, .ref a2)] [] h
  unfold wL_minutesUntilArrivalByPassing at w
  refine X_aload_n (j := 2) (show decode cL_minutesUntilArrivalByPassing 0 = .ok (.aload_n 2, 1) by decide +kernel) rfl rfl ?_
  refine X_iconst (v := (nI 0)) (show decode cL_minutesUntilArrivalByPassing 1 = .ok (.iconst 0, 1) by decide +kernel) (by decide) ?_
  refine X_aload_n (j := 0) (show decode cL_minutesUntilArrivalByPassing 2 = .ok (.aload_n 0, 1) by decide +kernel) rfl rfl ?_
  refine X_iload_n (j := 1) (show decode cL_minutesUntilArrivalByPassing 3 = .ok (.iload_n 1, 1) by decide +kernel) rfl rfl ?_
  obtain ⟨s8, w⟩ := w
  refine X_vI (rc' := 0) (rs' := 0) (as := [.int _]) mv_L_99 (show decode cL_minutesUntilArrivalByPassing 4 = .ok (.invokevirtual 99, 3) by decide +kernel) (by decide) (Nat.le_of_ble_eq_true rfl) (Nat.le_of_ble_eq_true rfl) rfl rfl (Nat.le_of_ble_eq_true rfl) (rcvD s8 (by decide) rfl) (kX9_minutesUntilArrivalByPassing w) (fun E9 h7 hk => ?_) (fun r2 h1 w => ?_)
  · obtain ⟨rfl, w⟩ := hk
    refine XT_catch (name := "java/util/NoSuchElementException") (i := 3) (j := 1) (ls' := []) [] (0, 9, 12, 43) [] rfl (fun z hz => absurd hz List.not_mem_nil) (by decide) (by decide) gw_of (List.mem_of_getElem? (i := 1245) (by decide +kernel)) (by decide +kernel) (List.mem_of_getElem? (i := 8) rfl) (Or.inl ⟨3, rfl, (show decode cL_minutesUntilArrivalByPassing 12 = .ok (.astore_n 3, 1) by decide +kernel), rfl⟩) (Nat.le_of_ble_eq_true rfl) (fun q hq => absurd hq List.not_mem_nil) ?_
    refine X_iconst (v := (nI 1)) (show decode cL_minutesUntilArrivalByPassing 13 = .ok (.iconst 1, 1) by decide +kernel) (by decide) ?_
    exact X_iret ⟨(show decode cL_minutesUntilArrivalByPassing 14 = .ok (.ireturn, 1) by decide +kernel), .int, rfl, rfl⟩ ⟨_, rfl, w⟩
  · skip
    refine X_i2l (show decode cL_minutesUntilArrivalByPassing 7 = .ok (.i2l, 1) by decide +kernel) ?_
    obtain ⟨s3, w⟩ := w
    obtain ⟨s4, w⟩ := w
    obtain ⟨s5, w⟩ := w
    refine X_last (show decode cL_minutesUntilArrivalByPassing 8 = .ok (.lastore, 1) by decide +kernel) (isA_eq s3) s4 s5 ?_
    have w := w _ rfl
    refine X_goto (tgt := 15) (show decode cL_minutesUntilArrivalByPassing 9 = .ok (.goto 6, 3) by decide +kernel) (by decide) ?_
    refine X_iconst (v := (nI 0)) (show decode cL_minutesUntilArrivalByPassing 15 = .ok (.iconst 0, 1) by decide +kernel) (by decide) ?_
    exact X_iret ⟨(show decode cL_minutesUntilArrivalByPassing 16 = .ok (.ireturn, 1) by decide +kernel), .int, rfl, rfl⟩ ⟨_, rfl, w⟩
set_option maxRecDepth 100000 in
set_option maxHeartbeats 4000000 in
theorem kL_delay {a0 : Nat} {a1 : Int32} {a2 : Nat} {h : AH} {K : Int32 → AH → Prop} (w : wL_delay a0 a1 a2 h K) : Cn mL_delay (cwh mL_delay) 10 1 6 [.ref a0, .int a1, .ref a2] h (KI K) T0 := by
  refine CnH_of (by decide +kernel) (Nat.le_of_ble_eq_true rfl) ?_
  show X mL_delay 10 (KI K) T0 1 6 0 [(0, .ref a0), (1, .int a1), (2, .ref a2)] [] h
  unfold wL_delay at w
  refine X_aload_n (j := 2) (show decode cL_delay 0 = .ok (.aload_n 2, 1) by decide +kernel) rfl rfl ?_
  refine X_iconst (v := (nI 0)) (show decode cL_delay 1 = .ok (.iconst 0, 1) by decide +kernel) (by decide) ?_
  refine X_aload_n (j := 0) (show decode cL_delay 2 = .ok (.aload_n 0, 1) by decide +kernel) rfl rfl ?_
  refine X_iload_n (j := 1) (show decode cL_delay 3 = .ok (.iload_n 1, 1) by decide +kernel) rfl rfl ?_
  obtain ⟨s8, w⟩ := w
  refine X_vI (rc' := 0) (rs' := 0) (as := [.int _]) mv_L_102 (show decode cL_delay 4 = .ok (.invokevirtual 102, 3) by decide +kernel) (by decide) (Nat.le_of_ble_eq_true rfl) (Nat.le_of_ble_eq_true rfl) rfl rfl (Nat.le_of_ble_eq_true rfl) (rcvD s8 (by decide) rfl) (kX9_delay w) (fun E9 h7 hk => ?_) (fun r2 h1 w => ?_)
  · obtain ⟨rfl, w⟩ := hk
    refine XT_catch (name := "java/util/NoSuchElementException") (i := 3) (j := 1) (ls' := []) [] (0, 9, 12, 43) [] rfl (fun z hz => absurd hz List.not_mem_nil) (by decide) (by decide) gw_of (List.mem_of_getElem? (i := 1245) (by decide +kernel)) (by decide +kernel) (List.mem_of_getElem? (i := 8) rfl) (Or.inl ⟨3, rfl, (show decode cL_delay 12 = .ok (.astore_n 3, 1) by decide +kernel), rfl⟩) (Nat.le_of_ble_eq_true rfl) (fun q hq => absurd hq List.not_mem_nil) ?_
    refine X_iconst (v := (nI 1)) (show decode cL_delay 13 = .ok (.iconst 1, 1) by decide +kernel) (by decide) ?_
    exact X_iret ⟨(show decode cL_delay 14 = .ok (.ireturn, 1) by decide +kernel), .int, rfl, rfl⟩ ⟨_, rfl, w⟩
  · skip
    refine X_i2l (show decode cL_delay 7 = .ok (.i2l, 1) by decide +kernel) ?_
    obtain ⟨s3, w⟩ := w
    obtain ⟨s4, w⟩ := w
    obtain ⟨s5, w⟩ := w
    refine X_last (show decode cL_delay 8 = .ok (.lastore, 1) by decide +kernel) (isA_eq s3) s4 s5 ?_
    have w := w _ rfl
    refine X_goto (tgt := 15) (show decode cL_delay 9 = .ok (.goto 6, 3) by decide +kernel) (by decide) ?_
    refine X_iconst (v := (nI 0)) (show decode cL_delay 15 = .ok (.iconst 0, 1) by decide +kernel) (by decide) ?_
    exact X_iret ⟨(show decode cL_delay 16 = .ok (.ireturn, 1) by decide +kernel), .int, rfl, rfl⟩ ⟨_, rfl, w⟩
set_option maxRecDepth 100000 in
set_option maxHeartbeats 4000000 in
theorem kL_queued {a0 : Nat} {a1 : Int32} {a2 : Nat} {h : AH} {K : Int32 → AH → Prop} (w : wL_queued a0 a1 a2 h K) : Cn mL_queued (cwh mL_queued) 9 1 6 [.ref a0, .int a1, .ref a2] h (KI K) T0 := by
  refine CnH_of (by decide +kernel) (Nat.le_of_ble_eq_true rfl) ?_
  show X mL_queued 9 (KI K) T0 1 6 0 [(0, .ref a0), (1, .int a1), (2, .ref a2)] [] h
  unfold wL_queued at w
  refine X_aload_n (j := 2) (show decode cL_queued 0 = .ok (.aload_n 2, 1) by decide +kernel) rfl rfl ?_
  refine X_iconst (v := (nI 0)) (show decode cL_queued 1 = .ok (.iconst 0, 1) by decide +kernel) (by decide) ?_
  refine X_aload_n (j := 0) (show decode cL_queued 2 = .ok (.aload_n 0, 1) by decide +kernel) rfl rfl ?_
  refine X_iload_n (j := 1) (show decode cL_queued 3 = .ok (.iload_n 1, 1) by decide +kernel) rfl rfl ?_
  obtain ⟨s8, w⟩ := w
  refine X_vI (rc' := 0) (rs' := 0) (as := [.int _]) mv_L_105 (show decode cL_queued 4 = .ok (.invokevirtual 105, 3) by decide +kernel) (by decide) (Nat.le_of_ble_eq_true rfl) (Nat.le_of_ble_eq_true rfl) rfl rfl (Nat.le_of_ble_eq_true rfl) (rcvD s8 (by decide) rfl) (kX9_queued w) (fun E9 h7 hk => ?_) (fun r2 h1 w => ?_)
  · obtain ⟨rfl, w⟩ := hk
    refine XT_catch (name := "java/util/NoSuchElementException") (i := 3) (j := 1) (ls' := []) [] (0, 9, 12, 43) [] rfl (fun z hz => absurd hz List.not_mem_nil) (by decide) (by decide) gw_of (List.mem_of_getElem? (i := 1245) (by decide +kernel)) (by decide +kernel) (List.mem_of_getElem? (i := 8) rfl) (Or.inl ⟨3, rfl, (show decode cL_queued 12 = .ok (.astore_n 3, 1) by decide +kernel), rfl⟩) (Nat.le_of_ble_eq_true rfl) (fun q hq => absurd hq List.not_mem_nil) ?_
    refine X_iconst (v := (nI 1)) (show decode cL_queued 13 = .ok (.iconst 1, 1) by decide +kernel) (by decide) ?_
    exact X_iret ⟨(show decode cL_queued 14 = .ok (.ireturn, 1) by decide +kernel), .int, rfl, rfl⟩ ⟨_, rfl, w⟩
  · skip
    refine X_i2l (show decode cL_queued 7 = .ok (.i2l, 1) by decide +kernel) ?_
    obtain ⟨s3, w⟩ := w
    obtain ⟨s4, w⟩ := w
    obtain ⟨s5, w⟩ := w
    refine X_last (show decode cL_queued 8 = .ok (.lastore, 1) by decide +kernel) (isA_eq s3) s4 s5 ?_
    have w := w _ rfl
    refine X_goto (tgt := 15) (show decode cL_queued 9 = .ok (.goto 6, 3) by decide +kernel) (by decide) ?_
    refine X_iconst (v := (nI 0)) (show decode cL_queued 15 = .ok (.iconst 0, 1) by decide +kernel) (by decide) ?_
    exact X_iret ⟨(show decode cL_queued 16 = .ok (.ireturn, 1) by decide +kernel), .int, rfl, rfl⟩ ⟨_, rfl, w⟩
set_option maxRecDepth 100000 in
set_option maxHeartbeats 4000000 in
theorem kL_waitsFor_J16 {K : Int32 → AH → Prop}   (y0 : Nat) (y1 : Int32) (y2 : Int64) (h : AH) (w : wL_waitsFor_J16 K  y0 y1 y2 h) : X mL_waitsFor 10 (KI K) T0 0 0 16 [] [.long y2, .int y1, .ref y0] h := by
  unfold wL_waitsFor_J16 at w
  obtain ⟨s4, w⟩ := w
  obtain ⟨s5, w⟩ := w
  obtain ⟨s6, w⟩ := w
  refine X_last (show decode cL_waitsFor 16 = .ok (.lastore, 1) by decide +kernel) (isA_eq s4) s5 s6 ?_
  have w := w _ rfl
  refine X_goto (tgt := 24) (show decode cL_waitsFor 17 = .ok (.goto 7, 3) by decide +kernel) (by decide) ?_
  refine X_iconst (v := (nI 0)) (show decode cL_waitsFor 24 = .ok (.iconst 0, 1) by decide +kernel) (by decide) ?_
  exact X_iret ⟨(show decode cL_waitsFor 25 = .ok (.ireturn, 1) by decide +kernel), .int, rfl, rfl⟩ ⟨_, rfl, w⟩
set_option maxRecDepth 100000 in
set_option maxHeartbeats 4000000 in
theorem kL_waitsFor {a0 : Nat} {a1 : Int32} {a2 : Int32} {a3 : Nat} {h : AH} {K : Int32 → AH → Prop} (w : wL_waitsFor a0 a1 a2 a3 h K) : Cn mL_waitsFor (cwh mL_waitsFor) 10 2 12 [.ref a0, .int a1, .int a2, .ref a3] h (KI K) T0 := by
  refine CnH_of (by decide +kernel) (Nat.le_of_ble_eq_true rfl) ?_
  show X mL_waitsFor 10 (KI K) T0 2 12 0 [(0, .ref a0), (1, .int a1), (2, .int a2), (3, .ref a3)] [] h
  unfold wL_waitsFor at w
  refine X_aload_n (j := 3) (show decode cL_waitsFor 0 = .ok (.aload_n 3, 1) by decide +kernel) rfl rfl ?_
  refine X_iconst (v := (nI 0)) (show decode cL_waitsFor 1 = .ok (.iconst 0, 1) by decide +kernel) (by decide) ?_
  refine X_aload_n (j := 0) (show decode cL_waitsFor 2 = .ok (.aload_n 0, 1) by decide +kernel) rfl rfl ?_
  refine X_iload_n (j := 1) (show decode cL_waitsFor 3 = .ok (.iload_n 1, 1) by decide +kernel) rfl rfl ?_
  refine X_iload_n (j := 2) (show decode cL_waitsFor 4 = .ok (.iload_n 2, 1) by decide +kernel) rfl rfl ?_
  obtain ⟨s9, w⟩ := w
  refine X_vI (rc' := 0) (rs' := 0) (as := [.int _, .int _]) mv_L_108 (show decode cL_waitsFor 5 = .ok (.invokevirtual 108, 3) by decide +kernel) (by decide) (Nat.le_of_ble_eq_true rfl) (Nat.le_of_ble_eq_true rfl) rfl rfl (Nat.le_of_ble_eq_true rfl) (rcvD s9 (by decide) rfl) (kX9_waitsFor w) (fun E9 h8 hk => ?_) (fun r2 h1 w => ?_)
  · obtain ⟨rfl, w⟩ := hk
    refine XT_catch (name := "java/util/NoSuchElementException") (i := 4) (j := 2) (ls' := []) [] (0, 17, 20, 43) [] rfl (fun z hz => absurd hz List.not_mem_nil) (by decide) (by decide) gw_of (List.mem_of_getElem? (i := 1245) (by decide +kernel)) (by decide +kernel) (List.mem_of_getElem? (i := 8) rfl) (Or.inr ⟨(show decode cL_waitsFor 20 = .ok (.astore 4, 2) by decide +kernel), rfl⟩) (Nat.le_of_ble_eq_true rfl) (fun q hq => absurd hq List.not_mem_nil) ?_
    refine X_iconst (v := (nI 1)) (show decode cL_waitsFor 22 = .ok (.iconst 1, 1) by decide +kernel) (by decide) ?_
    exact X_iret ⟨(show decode cL_waitsFor 23 = .ok (.ireturn, 1) by decide +kernel), .int, rfl, rfl⟩ ⟨_, rfl, w⟩
  · skip
    refine X_if_eq (tgt := 15) (show decode cL_waitsFor 8 = .ok (.ifCond .eq 7, 3) by decide +kernel) (by decide) ⟨fun c3 => ?_, fun c3 => ?_⟩
    · have w := w.1 c3
      refine X_lconst (v := 0) (show decode cL_waitsFor 15 = .ok (.lconst 0, 1) by decide +kernel) (by decide) ?_
      refine X_pick (ls' := []) [] rfl ?_
      exact kL_waitsFor_J16  _ _ _ _ w
    · have w := w.2 c3
      refine X_lconst (v := 1) (show decode cL_waitsFor 11 = .ok (.lconst 1, 1) by decide +kernel) (by decide) ?_
      refine X_goto (tgt := 16) (show decode cL_waitsFor 12 = .ok (.goto 4, 3) by decide +kernel) (by decide) ?_
      refine X_pick (ls' := []) [] rfl ?_
      exact kL_waitsFor_J16  _ _ _ _ w
set_option maxRecDepth 100000 in
set_option maxHeartbeats 4000000 in
theorem kL_conflict_J16 {K : Int32 → AH → Prop}   (y0 : Nat) (y1 : Int32) (y2 : Int64) (h : AH) (w : wL_conflict_J16 K  y0 y1 y2 h) : X mL_conflict 10 (KI K) T0 0 0 16 [] [.long y2, .int y1, .ref y0] h := by
  unfold wL_conflict_J16 at w
  obtain ⟨s4, w⟩ := w
  obtain ⟨s5, w⟩ := w
  obtain ⟨s6, w⟩ := w
  refine X_last (show decode cL_conflict 16 = .ok (.lastore, 1) by decide +kernel) (isA_eq s4) s5 s6 ?_
  have w := w _ rfl
  refine X_goto (tgt := 28) (show decode cL_conflict 17 = .ok (.goto 11, 3) by decide +kernel) (by decide) ?_
  refine X_iconst (v := (nI 0)) (show decode cL_conflict 28 = .ok (.iconst 0, 1) by decide +kernel) (by decide) ?_
  exact X_iret ⟨(show decode cL_conflict 29 = .ok (.ireturn, 1) by decide +kernel), .int, rfl, rfl⟩ ⟨_, rfl, w⟩
set_option maxRecDepth 100000 in
set_option maxHeartbeats 4000000 in
theorem kL_conflict {a0 : Nat} {a1 : Int32} {a2 : Int32} {a3 : Nat} {h : AH} {K : Int32 → AH → Prop} (w : wL_conflict a0 a1 a2 a3 h K) : Cn mL_conflict (cwh mL_conflict) 10 3 18 [.ref a0, .int a1, .int a2, .ref a3] h (KI K) T0 := by
  refine CnH_of (by decide +kernel) (Nat.le_of_ble_eq_true rfl) ?_
  show X mL_conflict 10 (KI K) T0 3 18 0 [(0, .ref a0), (1, .int a1), (2, .int a2), (3, .ref a3)] [] h
  unfold wL_conflict at w
  refine X_aload_n (j := 3) (show decode cL_conflict 0 = .ok (.aload_n 3, 1) by decide +kernel) rfl rfl ?_
  refine X_iconst (v := (nI 0)) (show decode cL_conflict 1 = .ok (.iconst 0, 1) by decide +kernel) (by decide) ?_
  refine X_aload_n (j := 0) (show decode cL_conflict 2 = .ok (.aload_n 0, 1) by decide +kernel) rfl rfl ?_
  refine X_iload_n (j := 1) (show decode cL_conflict 3 = .ok (.iload_n 1, 1) by decide +kernel) rfl rfl ?_
  refine X_iload_n (j := 2) (show decode cL_conflict 4 = .ok (.iload_n 2, 1) by decide +kernel) rfl rfl ?_
  obtain ⟨s9, w⟩ := w
  refine X_vI (rc' := 0) (rs' := 0) (as := [.int _, .int _]) mv_L_112 (show decode cL_conflict 5 = .ok (.invokevirtual 112, 3) by decide +kernel) (by decide) (Nat.le_of_ble_eq_true rfl) (Nat.le_of_ble_eq_true rfl) rfl rfl (Nat.le_of_ble_eq_true rfl) (rcvD s9 (by decide) rfl) (kX9_conflict w) (fun E9 h8 hk => ?_) (fun r2 h1 w => ?_)
  · rcases hk with ⟨rfl, w⟩ | ⟨rfl, w⟩
    · skip
      refine XT_catch (name := "java/util/NoSuchElementException") (i := 4) (j := 2) (ls' := []) [] (0, 17, 20, 43) [(0, 17, 24, 13)] rfl (fun z hz => absurd hz List.not_mem_nil) (by decide) (by decide) gw_of (List.mem_of_getElem? (i := 1245) (by decide +kernel)) (by decide +kernel) (List.mem_of_getElem? (i := 8) rfl) (Or.inr ⟨(show decode cL_conflict 20 = .ok (.astore 4, 2) by decide +kernel), rfl⟩) (Nat.le_of_ble_eq_true rfl) (fun q hq => absurd hq List.not_mem_nil) ?_
      refine X_iconst (v := (nI 1)) (show decode cL_conflict 22 = .ok (.iconst 1, 1) by decide +kernel) (by decide) ?_
      exact X_iret ⟨(show decode cL_conflict 23 = .ok (.ireturn, 1) by decide +kernel), .int, rfl, rfl⟩ ⟨_, rfl, w⟩
    · skip
      refine XT_catch (name := "java/lang/IllegalArgumentException") (i := 4) (j := 2) (ls' := []) [(0, 17, 20, 43)] (0, 17, 24, 13) [] rfl (by
            intro z hz
            simp only [List.mem_cons, List.not_mem_nil, or_false] at hz
            rcases hz with rfl
            · exact ⟨by decide, _, gw_of (List.mem_of_getElem? (i := 1245) (by decide +kernel)) (by decide +kernel), List.mem_of_getElem? (i := 9) rfl⟩
            ) (by decide) (by decide) gw_of (List.mem_of_getElem? (i := 1034) (by decide +kernel)) (by decide +kernel) (List.mem_of_getElem? (i := 3) rfl) (Or.inr ⟨(show decode cL_conflict 24 = .ok (.astore 4, 2) by decide +kernel), rfl⟩) (Nat.le_of_ble_eq_true rfl) (fun q hq => absurd hq List.not_mem_nil) ?_
      refine X_iconst (v := (nI 2)) (show decode cL_conflict 26 = .ok (.iconst 2, 1) by decide +kernel) (by decide) ?_
      exact X_iret ⟨(show decode cL_conflict 27 = .ok (.ireturn, 1) by decide +kernel), .int, rfl, rfl⟩ ⟨_, rfl, w⟩
  · skip
    refine X_if_eq (tgt := 15) (show decode cL_conflict 8 = .ok (.ifCond .eq 7, 3) by decide +kernel) (by decide) ⟨fun c3 => ?_, fun c3 => ?_⟩
    · have w := w.1 c3
      refine X_lconst (v := 0) (show decode cL_conflict 15 = .ok (.lconst 0, 1) by decide +kernel) (by decide) ?_
      refine X_pick (ls' := []) [] rfl ?_
      exact kL_conflict_J16  _ _ _ _ w
    · have w := w.2 c3
      refine X_lconst (v := 1) (show decode cL_conflict 11 = .ok (.lconst 1, 1) by decide +kernel) (by decide) ?_
      refine X_goto (tgt := 16) (show decode cL_conflict 12 = .ok (.goto 4, 3) by decide +kernel) (by decide) ?_
      refine X_pick (ls' := []) [] rfl ?_
      exact kL_conflict_J16  _ _ _ _ w
set_option maxRecDepth 100000 in
set_option maxHeartbeats 4000000 in
theorem kL_refusalReason {a0 : Nat} {a1 : Nat} {h : AH} {K : Int32 → AH → Prop} (w : wL_refusalReason a0 a1 h K) : Cn mL_refusalReason (cwh mL_refusalReason) 9 1 6 [.ref a0, .ref a1] h (KI K) T0 := by
  refine CnH_of (by decide +kernel) (Nat.le_of_ble_eq_true rfl) ?_
  show X mL_refusalReason 9 (KI K) T0 1 6 0 [(0, .ref a0), (1, .ref a1)] [] h
  unfold wL_refusalReason at w
  refine X_aload_n (j := 1) (show decode cL_refusalReason 0 = .ok (.aload_n 1, 1) by decide +kernel) rfl rfl ?_
  refine X_iconst (v := (nI 0)) (show decode cL_refusalReason 1 = .ok (.iconst 0, 1) by decide +kernel) (by decide) ?_
  refine X_aload_n (j := 0) (show decode cL_refusalReason 2 = .ok (.aload_n 0, 1) by decide +kernel) rfl rfl ?_
  obtain ⟨s8, w⟩ := w
  refine X_vI (rc' := 0) (rs' := 0) (as := []) mv_L_115 (show decode cL_refusalReason 3 = .ok (.invokevirtual 115, 3) by decide +kernel) (by decide) (Nat.le_of_ble_eq_true rfl) (Nat.le_of_ble_eq_true rfl) rfl rfl (Nat.le_of_ble_eq_true rfl) (rcvD s8 (by decide) rfl) (kX9_refusalReason w) (fun E9 h7 hk => ?_) (fun r2 h1 w => ?_)
  · obtain ⟨rfl, w⟩ := hk
    refine XT_catch (name := "java/util/NoSuchElementException") (i := 2) (j := 1) (ls' := []) [] (0, 8, 11, 43) [] rfl (fun z hz => absurd hz List.not_mem_nil) (by decide) (by decide) gw_of (List.mem_of_getElem? (i := 1245) (by decide +kernel)) (by decide +kernel) (List.mem_of_getElem? (i := 8) rfl) (Or.inl ⟨2, rfl, (show decode cL_refusalReason 11 = .ok (.astore_n 2, 1) by decide +kernel), rfl⟩) (Nat.le_of_ble_eq_true rfl) (fun q hq => absurd hq List.not_mem_nil) ?_
    refine X_iconst (v := (nI 1)) (show decode cL_refusalReason 12 = .ok (.iconst 1, 1) by decide +kernel) (by decide) ?_
    exact X_iret ⟨(show decode cL_refusalReason 13 = .ok (.ireturn, 1) by decide +kernel), .int, rfl, rfl⟩ ⟨_, rfl, w⟩
  · skip
    refine X_i2l (show decode cL_refusalReason 6 = .ok (.i2l, 1) by decide +kernel) ?_
    obtain ⟨s3, w⟩ := w
    obtain ⟨s4, w⟩ := w
    obtain ⟨s5, w⟩ := w
    refine X_last (show decode cL_refusalReason 7 = .ok (.lastore, 1) by decide +kernel) (isA_eq s3) s4 s5 ?_
    have w := w _ rfl
    refine X_goto (tgt := 14) (show decode cL_refusalReason 8 = .ok (.goto 6, 3) by decide +kernel) (by decide) ?_
    refine X_iconst (v := (nI 0)) (show decode cL_refusalReason 14 = .ok (.iconst 0, 1) by decide +kernel) (by decide) ?_
    exact X_iret ⟨(show decode cL_refusalReason 15 = .ok (.ireturn, 1) by decide +kernel), .int, rfl, rfl⟩ ⟨_, rfl, w⟩
set_option maxRecDepth 100000 in
set_option maxHeartbeats 4000000 in
theorem kL_refusalBlock {a0 : Nat} {a1 : Nat} {h : AH} {K : Int32 → AH → Prop} (w : wL_refusalBlock a0 a1 h K) : Cn mL_refusalBlock (cwh mL_refusalBlock) 9 1 6 [.ref a0, .ref a1] h (KI K) T0 := by
  refine CnH_of (by decide +kernel) (Nat.le_of_ble_eq_true rfl) ?_
  show X mL_refusalBlock 9 (KI K) T0 1 6 0 [(0, .ref a0), (1, .ref a1)] [] h
  unfold wL_refusalBlock at w
  refine X_aload_n (j := 1) (show decode cL_refusalBlock 0 = .ok (.aload_n 1, 1) by decide +kernel) rfl rfl ?_
  refine X_iconst (v := (nI 0)) (show decode cL_refusalBlock 1 = .ok (.iconst 0, 1) by decide +kernel) (by decide) ?_
  refine X_aload_n (j := 0) (show decode cL_refusalBlock 2 = .ok (.aload_n 0, 1) by decide +kernel) rfl rfl ?_
  obtain ⟨s8, w⟩ := w
  refine X_vI (rc' := 0) (rs' := 0) (as := []) mv_L_119 (show decode cL_refusalBlock 3 = .ok (.invokevirtual 119, 3) by decide +kernel) (by decide) (Nat.le_of_ble_eq_true rfl) (Nat.le_of_ble_eq_true rfl) rfl rfl (Nat.le_of_ble_eq_true rfl) (rcvD s8 (by decide) rfl) (kX9_refusalBlock w) (fun E9 h7 hk => ?_) (fun r2 h1 w => ?_)
  · obtain ⟨rfl, w⟩ := hk
    refine XT_catch (name := "java/util/NoSuchElementException") (i := 2) (j := 1) (ls' := []) [] (0, 8, 11, 43) [] rfl (fun z hz => absurd hz List.not_mem_nil) (by decide) (by decide) gw_of (List.mem_of_getElem? (i := 1245) (by decide +kernel)) (by decide +kernel) (List.mem_of_getElem? (i := 8) rfl) (Or.inl ⟨2, rfl, (show decode cL_refusalBlock 11 = .ok (.astore_n 2, 1) by decide +kernel), rfl⟩) (Nat.le_of_ble_eq_true rfl) (fun q hq => absurd hq List.not_mem_nil) ?_
    refine X_iconst (v := (nI 1)) (show decode cL_refusalBlock 12 = .ok (.iconst 1, 1) by decide +kernel) (by decide) ?_
    exact X_iret ⟨(show decode cL_refusalBlock 13 = .ok (.ireturn, 1) by decide +kernel), .int, rfl, rfl⟩ ⟨_, rfl, w⟩
  · skip
    refine X_i2l (show decode cL_refusalBlock 6 = .ok (.i2l, 1) by decide +kernel) ?_
    obtain ⟨s3, w⟩ := w
    obtain ⟨s4, w⟩ := w
    obtain ⟨s5, w⟩ := w
    refine X_last (show decode cL_refusalBlock 7 = .ok (.lastore, 1) by decide +kernel) (isA_eq s3) s4 s5 ?_
    have w := w _ rfl
    refine X_goto (tgt := 14) (show decode cL_refusalBlock 8 = .ok (.goto 6, 3) by decide +kernel) (by decide) ?_
    refine X_iconst (v := (nI 0)) (show decode cL_refusalBlock 14 = .ok (.iconst 0, 1) by decide +kernel) (by decide) ?_
    exact X_iret ⟨(show decode cL_refusalBlock 15 = .ok (.ireturn, 1) by decide +kernel), .int, rfl, rfl⟩ ⟨_, rfl, w⟩
set_option maxRecDepth 100000 in
set_option maxHeartbeats 4000000 in
theorem kL_meanDelay {a0 : Nat} {a1 : Nat} {h : AH} {K : Int32 → AH → Prop} (w : wL_meanDelay a0 a1 h K) : Cn mL_meanDelay (cwh mL_meanDelay) 9 1 6 [.ref a0, .ref a1] h (KI K) T0 := by
  refine CnH_of (by decide +kernel) (Nat.le_of_ble_eq_true rfl) ?_
  show X mL_meanDelay 9 (KI K) T0 1 6 0 [(0, .ref a0), (1, .ref a1)] [] h
  unfold wL_meanDelay at w
  refine X_aload_n (j := 1) (show decode cL_meanDelay 0 = .ok (.aload_n 1, 1) by decide +kernel) rfl rfl ?_
  refine X_iconst (v := (nI 0)) (show decode cL_meanDelay 1 = .ok (.iconst 0, 1) by decide +kernel) (by decide) ?_
  refine X_aload_n (j := 0) (show decode cL_meanDelay 2 = .ok (.aload_n 0, 1) by decide +kernel) rfl rfl ?_
  obtain ⟨s8, w⟩ := w
  refine X_vD (rc' := 0) (rs' := 0) (as := []) mv_L_123 (show decode cL_meanDelay 3 = .ok (.invokevirtual 123, 3) by decide +kernel) (by decide) (Nat.le_of_ble_eq_true rfl) (Nat.le_of_ble_eq_true rfl) rfl rfl (Nat.le_of_ble_eq_true rfl) (rcvD s8 (by decide) rfl) (kX9_meanDelay w) (fun E9 h7 hk => ?_) (fun r2 h1 w => ?_)
  · obtain ⟨rfl, w⟩ := hk
    refine XT_catch (name := "java/lang/ArithmeticException") (i := 2) (j := 1) (ls' := []) [] (0, 7, 10, 127) [] rfl (fun z hz => absurd hz List.not_mem_nil) (by decide) (by decide) gw_of (List.mem_of_getElem? (i := 1559) (by decide +kernel)) (by decide +kernel) (List.mem_of_getElem? (i := 0) rfl) (Or.inl ⟨2, rfl, (show decode cL_meanDelay 10 = .ok (.astore_n 2, 1) by decide +kernel), rfl⟩) (Nat.le_of_ble_eq_true rfl) (fun q hq => absurd hq List.not_mem_nil) ?_
    refine X_iconst (v := (nI 1)) (show decode cL_meanDelay 11 = .ok (.iconst 1, 1) by decide +kernel) (by decide) ?_
    exact X_iret ⟨(show decode cL_meanDelay 12 = .ok (.ireturn, 1) by decide +kernel), .int, rfl, rfl⟩ ⟨_, rfl, w⟩
  · skip
    obtain ⟨s3, w⟩ := w
    obtain ⟨s4, w⟩ := w
    obtain ⟨s5, w⟩ := w
    refine X_dast (show decode cL_meanDelay 6 = .ok (.dastore, 1) by decide +kernel) (isA_eq s3) s4 s5 ?_
    have w := w _ rfl
    refine X_goto (tgt := 13) (show decode cL_meanDelay 7 = .ok (.goto 6, 3) by decide +kernel) (by decide) ?_
    refine X_iconst (v := (nI 0)) (show decode cL_meanDelay 13 = .ok (.iconst 0, 1) by decide +kernel) (by decide) ?_
    exact X_iret ⟨(show decode cL_meanDelay 14 = .ok (.ireturn, 1) by decide +kernel), .int, rfl, rfl⟩ ⟨_, rfl, w⟩
set_option maxRecDepth 100000 in
set_option maxHeartbeats 4000000 in
theorem kL_usedShare {a0 : Nat} {a1 : Nat} {h : AH} {K : Int32 → AH → Prop} (w : wL_usedShare a0 a1 h K) : Cn mL_usedShare (cwh mL_usedShare) 9 1 6 [.ref a0, .ref a1] h (KI K) T0 := by
  refine CnH_of (by decide +kernel) (Nat.le_of_ble_eq_true rfl) ?_
  show X mL_usedShare 9 (KI K) T0 1 6 0 [(0, .ref a0), (1, .ref a1)] [] h
  unfold wL_usedShare at w
  refine X_aload_n (j := 1) (show decode cL_usedShare 0 = .ok (.aload_n 1, 1) by decide +kernel) rfl rfl ?_
  refine X_iconst (v := (nI 0)) (show decode cL_usedShare 1 = .ok (.iconst 0, 1) by decide +kernel) (by decide) ?_
  refine X_aload_n (j := 0) (show decode cL_usedShare 2 = .ok (.aload_n 0, 1) by decide +kernel) rfl rfl ?_
  obtain ⟨s9, w⟩ := w
  refine X_vF (rc' := 0) (rs' := 0) (as := []) mv_L_129 (show decode cL_usedShare 3 = .ok (.invokevirtual 129, 3) by decide +kernel) (by decide) (Nat.le_of_ble_eq_true rfl) (Nat.le_of_ble_eq_true rfl) rfl rfl (Nat.le_of_ble_eq_true rfl) (rcvD s9 (by decide) rfl) (kX9_usedShare w) (fun E9 h8 hk => ?_) (fun r2 h1 w => ?_)
  · obtain ⟨rfl, w⟩ := hk
    refine XT_catch (name := "java/lang/ArithmeticException") (i := 2) (j := 1) (ls' := []) [] (0, 8, 11, 127) [] rfl (fun z hz => absurd hz List.not_mem_nil) (by decide) (by decide) gw_of (List.mem_of_getElem? (i := 1559) (by decide +kernel)) (by decide +kernel) (List.mem_of_getElem? (i := 0) rfl) (Or.inl ⟨2, rfl, (show decode cL_usedShare 11 = .ok (.astore_n 2, 1) by decide +kernel), rfl⟩) (Nat.le_of_ble_eq_true rfl) (fun q hq => absurd hq List.not_mem_nil) ?_
    refine X_iconst (v := (nI 1)) (show decode cL_usedShare 12 = .ok (.iconst 1, 1) by decide +kernel) (by decide) ?_
    exact X_iret ⟨(show decode cL_usedShare 13 = .ok (.ireturn, 1) by decide +kernel), .int, rfl, rfl⟩ ⟨_, rfl, w⟩
  · skip
    obtain ⟨s3, w⟩ := w
    refine X_f2d (show decode cL_usedShare 6 = .ok (.f2d, 1) by decide +kernel) s3 ?_
    obtain ⟨s4, w⟩ := w
    obtain ⟨s5, w⟩ := w
    obtain ⟨s6, w⟩ := w
    refine X_dast (show decode cL_usedShare 7 = .ok (.dastore, 1) by decide +kernel) (isA_eq s4) s5 s6 ?_
    have w := w _ rfl
    refine X_goto (tgt := 14) (show decode cL_usedShare 8 = .ok (.goto 6, 3) by decide +kernel) (by decide) ?_
    refine X_iconst (v := (nI 0)) (show decode cL_usedShare 14 = .ok (.iconst 0, 1) by decide +kernel) (by decide) ?_
    exact X_iret ⟨(show decode cL_usedShare 15 = .ok (.ireturn, 1) by decide +kernel), .int, rfl, rfl⟩ ⟨_, rfl, w⟩
set_option maxRecDepth 100000 in
set_option maxHeartbeats 4000000 in
theorem kL_writeTrain {a0 : Nat} {a1 : Int32} {a2 : Nat} {h : AH} {K : Int32 → AH → Prop} (w : wL_writeTrain a0 a1 a2 h K) : Cn mL_writeTrain (cwh mL_writeTrain) 11 33 8198 [.ref a0, .int a1, .ref a2] h (KI K) T0 := by
  refine CnH_of (by decide +kernel) (Nat.le_of_ble_eq_true rfl) ?_
  show X mL_writeTrain 11 (KI K) T0 33 8198 0 [(0, .ref a0), (1, .int a1), (2, .ref a2)] [] h
  unfold wL_writeTrain at w
  refine X_aload_n (j := 2) (show decode cL_writeTrain 0 = .ok (.aload_n 2, 1) by decide +kernel) rfl rfl ?_
  refine X_iconst (v := (nI 0)) (show decode cL_writeTrain 1 = .ok (.iconst 0, 1) by decide +kernel) (by decide) ?_
  refine X_aload_n (j := 0) (show decode cL_writeTrain 2 = .ok (.aload_n 0, 1) by decide +kernel) rfl rfl ?_
  refine X_iload_n (j := 1) (show decode cL_writeTrain 3 = .ok (.iload_n 1, 1) by decide +kernel) rfl rfl ?_
  obtain ⟨s8, w⟩ := w
  refine X_vI (rc' := 0) (rs' := 0) (as := [.int _]) mv_L_133 (show decode cL_writeTrain 4 = .ok (.invokevirtual 133, 3) by decide +kernel) (by decide) (Nat.le_of_ble_eq_true rfl) (Nat.le_of_ble_eq_true rfl) rfl rfl (Nat.le_of_ble_eq_true rfl) (rcvD s8 (by decide) rfl) (kX9_writeTrain w) (fun E9 h7 hk => ?_) (fun r2 h1 w => ?_)
  · obtain ⟨rfl, w⟩ := hk
    refine XT_catch (name := "java/util/NoSuchElementException") (i := 3) (j := 1) (ls' := []) [] (0, 9, 12, 43) [] rfl (fun z hz => absurd hz List.not_mem_nil) (by decide) (by decide) gw_of (List.mem_of_getElem? (i := 1245) (by decide +kernel)) (by decide +kernel) (List.mem_of_getElem? (i := 8) rfl) (Or.inl ⟨3, rfl, (show decode cL_writeTrain 12 = .ok (.astore_n 3, 1) by decide +kernel), rfl⟩) (Nat.le_of_ble_eq_true rfl) (fun q hq => absurd hq List.not_mem_nil) ?_
    refine X_iconst (v := (nI 1)) (show decode cL_writeTrain 13 = .ok (.iconst 1, 1) by decide +kernel) (by decide) ?_
    exact X_iret ⟨(show decode cL_writeTrain 14 = .ok (.ireturn, 1) by decide +kernel), .int, rfl, rfl⟩ ⟨_, rfl, w⟩
  · skip
    refine X_i2l (show decode cL_writeTrain 7 = .ok (.i2l, 1) by decide +kernel) ?_
    obtain ⟨s3, w⟩ := w
    obtain ⟨s4, w⟩ := w
    obtain ⟨s5, w⟩ := w
    refine X_last (show decode cL_writeTrain 8 = .ok (.lastore, 1) by decide +kernel) (isA_eq s3) s4 s5 ?_
    have w := w _ rfl
    refine X_goto (tgt := 15) (show decode cL_writeTrain 9 = .ok (.goto 6, 3) by decide +kernel) (by decide) ?_
    refine X_iconst (v := (nI 0)) (show decode cL_writeTrain 15 = .ok (.iconst 0, 1) by decide +kernel) (by decide) ?_
    exact X_iret ⟨(show decode cL_writeTrain 16 = .ok (.ireturn, 1) by decide +kernel), .int, rfl, rfl⟩ ⟨_, rfl, w⟩
set_option maxRecDepth 100000 in
set_option maxHeartbeats 4000000 in
theorem kL_charAt {a0 : Nat} {a1 : Int32} {a2 : Nat} {h : AH} {K : Int32 → AH → Prop} (w : wL_charAt a0 a1 a2 h K) : Cn mL_charAt (cwh mL_charAt) 9 1 6 [.ref a0, .int a1, .ref a2] h (KI K) T0 := by
  refine CnH_of (by decide +kernel) (Nat.le_of_ble_eq_true rfl) ?_
  show X mL_charAt 9 (KI K) T0 1 6 0 [(0, .ref a0), (1, .int a1), (2, .ref a2)] [] h
  unfold wL_charAt at w
  refine X_aload_n (j := 2) (show decode cL_charAt 0 = .ok (.aload_n 2, 1) by decide +kernel) rfl rfl ?_
  refine X_iconst (v := (nI 0)) (show decode cL_charAt 1 = .ok (.iconst 0, 1) by decide +kernel) (by decide) ?_
  refine X_aload_n (j := 0) (show decode cL_charAt 2 = .ok (.aload_n 0, 1) by decide +kernel) rfl rfl ?_
  refine X_iload_n (j := 1) (show decode cL_charAt 3 = .ok (.iload_n 1, 1) by decide +kernel) rfl rfl ?_
  obtain ⟨s8, w⟩ := w
  refine X_vI (rc' := 0) (rs' := 0) (as := [.int _]) mv_L_136 (show decode cL_charAt 4 = .ok (.invokevirtual 136, 3) by decide +kernel) (by decide) (Nat.le_of_ble_eq_true rfl) (Nat.le_of_ble_eq_true rfl) rfl rfl (Nat.le_of_ble_eq_true rfl) (rcvD s8 (by decide) rfl) (kX9_charAt w) (fun E9 h7 hk => ?_) (fun r2 h1 w => ?_)
  · obtain ⟨rfl, w⟩ := hk
    refine XT_catch (name := "java/lang/IndexOutOfBoundsException") (i := 3) (j := 1) (ls' := []) [] (0, 9, 12, 21) [] rfl (fun z hz => absurd hz List.not_mem_nil) (by decide) (by decide) gw_of (List.mem_of_getElem? (i := 1143) (by decide +kernel)) (by decide +kernel) (List.mem_of_getElem? (i := 5) rfl) (Or.inl ⟨3, rfl, (show decode cL_charAt 12 = .ok (.astore_n 3, 1) by decide +kernel), rfl⟩) (Nat.le_of_ble_eq_true rfl) (fun q hq => absurd hq List.not_mem_nil) ?_
    refine X_iconst (v := (nI 1)) (show decode cL_charAt 13 = .ok (.iconst 1, 1) by decide +kernel) (by decide) ?_
    exact X_iret ⟨(show decode cL_charAt 14 = .ok (.ireturn, 1) by decide +kernel), .int, rfl, rfl⟩ ⟨_, rfl, w⟩
  · skip
    refine X_i2l (show decode cL_charAt 7 = .ok (.i2l, 1) by decide +kernel) ?_
    obtain ⟨s3, w⟩ := w
    obtain ⟨s4, w⟩ := w
    obtain ⟨s5, w⟩ := w
    refine X_last (show decode cL_charAt 8 = .ok (.lastore, 1) by decide +kernel) (isA_eq s3) s4 s5 ?_
    have w := w _ rfl
    refine X_goto (tgt := 15) (show decode cL_charAt 9 = .ok (.goto 6, 3) by decide +kernel) (by decide) ?_
    refine X_iconst (v := (nI 0)) (show decode cL_charAt 15 = .ok (.iconst 0, 1) by decide +kernel) (by decide) ?_
    exact X_iret ⟨(show decode cL_charAt 16 = .ok (.ireturn, 1) by decide +kernel), .int, rfl, rfl⟩ ⟨_, rfl, w⟩
set_option maxRecDepth 100000 in
set_option maxHeartbeats 4000000 in
theorem kL_type {a0 : Nat} {a1 : Int32} {a2 : Nat} {h : AH} {K : Int32 → AH → Prop} (w : wL_type a0 a1 a2 h K) : Cn mL_type (cwh mL_type) 9 1 6 [.ref a0, .int a1, .ref a2] h (KI K) T0 := by
  refine CnH_of (by decide +kernel) (Nat.le_of_ble_eq_true rfl) ?_
  show X mL_type 9 (KI K) T0 1 6 0 [(0, .ref a0), (1, .int a1), (2, .ref a2)] [] h
  unfold wL_type at w
  refine X_aload_n (j := 2) (show decode cL_type 0 = .ok (.aload_n 2, 1) by decide +kernel) rfl rfl ?_
  refine X_iconst (v := (nI 0)) (show decode cL_type 1 = .ok (.iconst 0, 1) by decide +kernel) (by decide) ?_
  refine X_aload_n (j := 0) (show decode cL_type 2 = .ok (.aload_n 0, 1) by decide +kernel) rfl rfl ?_
  refine X_iload_n (j := 1) (show decode cL_type 3 = .ok (.iload_n 1, 1) by decide +kernel) rfl rfl ?_
  obtain ⟨s8, w⟩ := w
  refine X_vI (rc' := 0) (rs' := 0) (as := [.int _]) mv_L_139 (show decode cL_type 4 = .ok (.invokevirtual 139, 3) by decide +kernel) (by decide) (Nat.le_of_ble_eq_true rfl) (Nat.le_of_ble_eq_true rfl) rfl rfl (Nat.le_of_ble_eq_true rfl) (rcvD s8 (by decide) rfl) (kX9_type w) (fun E9 h7 hk => ?_) (fun r2 h1 w => ?_)
  · obtain ⟨rfl, w⟩ := hk
    refine XT_catch (name := "java/lang/IllegalStateException") (i := 3) (j := 1) (ls' := []) [] (0, 9, 12, 15) [] rfl (fun z hz => absurd hz List.not_mem_nil) (by decide) (by decide) gw_of (List.mem_of_getElem? (i := 1035) (by decide +kernel)) (by decide +kernel) (List.mem_of_getElem? (i := 4) rfl) (Or.inl ⟨3, rfl, (show decode cL_type 12 = .ok (.astore_n 3, 1) by decide +kernel), rfl⟩) (Nat.le_of_ble_eq_true rfl) (fun q hq => absurd hq List.not_mem_nil) ?_
    refine X_iconst (v := (nI 1)) (show decode cL_type 13 = .ok (.iconst 1, 1) by decide +kernel) (by decide) ?_
    exact X_iret ⟨(show decode cL_type 14 = .ok (.ireturn, 1) by decide +kernel), .int, rfl, rfl⟩ ⟨_, rfl, w⟩
  · skip
    refine X_i2l (show decode cL_type 7 = .ok (.i2l, 1) by decide +kernel) ?_
    obtain ⟨s3, w⟩ := w
    obtain ⟨s4, w⟩ := w
    obtain ⟨s5, w⟩ := w
    refine X_last (show decode cL_type 8 = .ok (.lastore, 1) by decide +kernel) (isA_eq s3) s4 s5 ?_
    have w := w _ rfl
    refine X_goto (tgt := 15) (show decode cL_type 9 = .ok (.goto 6, 3) by decide +kernel) (by decide) ?_
    refine X_iconst (v := (nI 0)) (show decode cL_type 15 = .ok (.iconst 0, 1) by decide +kernel) (by decide) ?_
    exact X_iret ⟨(show decode cL_type 16 = .ok (.ireturn, 1) by decide +kernel), .int, rfl, rfl⟩ ⟨_, rfl, w⟩
set_option maxRecDepth 100000 in
set_option maxHeartbeats 4000000 in
theorem kL_run {a0 : Nat} {a1 : Nat} {h : AH} {K : Int32 → AH → Prop} (w : wL_run a0 a1 h K) : Cn mL_run (cwh mL_run) 11 1 6 [.ref a0, .ref a1] h (KI K) T0 := by
  refine CnH_of (by decide +kernel) (Nat.le_of_ble_eq_true rfl) ?_
  show X mL_run 11 (KI K) T0 1 6 0 [(0, .ref a0), (1, .ref a1)] [] h
  unfold wL_run at w
  refine X_aload_n (j := 1) (show decode cL_run 0 = .ok (.aload_n 1, 1) by decide +kernel) rfl rfl ?_
  refine X_iconst (v := (nI 0)) (show decode cL_run 1 = .ok (.iconst 0, 1) by decide +kernel) (by decide) ?_
  refine X_aload_n (j := 0) (show decode cL_run 2 = .ok (.aload_n 0, 1) by decide +kernel) rfl rfl ?_
  obtain ⟨s8, w⟩ := w
  refine X_vI (rc' := 0) (rs' := 0) (as := []) mv_L_143 (show decode cL_run 3 = .ok (.invokevirtual 143, 3) by decide +kernel) (by decide) (Nat.le_of_ble_eq_true rfl) (Nat.le_of_ble_eq_true rfl) rfl rfl (Nat.le_of_ble_eq_true rfl) (rcvD s8 (by decide) rfl) (kX9_run w) (fun E9 h7 hk => ?_) (fun r2 h1 w => ?_)
  · rcases hk with ⟨rfl, w⟩ | ⟨rfl, w⟩
    · skip
      refine XT_catch (name := "java/lang/IllegalArgumentException") (i := 2) (j := 1) (ls' := []) [] (0, 8, 11, 13) [(0, 8, 14, 45)] rfl (fun z hz => absurd hz List.not_mem_nil) (by decide) (by decide) gw_of (List.mem_of_getElem? (i := 1034) (by decide +kernel)) (by decide +kernel) (List.mem_of_getElem? (i := 3) rfl) (Or.inl ⟨2, rfl, (show decode cL_run 11 = .ok (.astore_n 2, 1) by decide +kernel), rfl⟩) (Nat.le_of_ble_eq_true rfl) (fun q hq => absurd hq List.not_mem_nil) ?_
      refine X_iconst (v := (nI 1)) (show decode cL_run 12 = .ok (.iconst 1, 1) by decide +kernel) (by decide) ?_
      exact X_iret ⟨(show decode cL_run 13 = .ok (.ireturn, 1) by decide +kernel), .int, rfl, rfl⟩ ⟨_, rfl, w⟩
    · skip
      refine XT_catch (name := "java/lang/UnsupportedOperationException") (i := 2) (j := 1) (ls' := []) [(0, 8, 11, 13)] (0, 8, 14, 45) [] rfl (by
            intro z hz
            simp only [List.mem_cons, List.not_mem_nil, or_false] at hz
            rcases hz with rfl
            · exact ⟨by decide, _, gw_of (List.mem_of_getElem? (i := 1034) (by decide +kernel)) (by decide +kernel), List.mem_of_getElem? (i := 21) rfl⟩
            ) (by decide) (by decide) gw_of (List.mem_of_getElem? (i := 1246) (by decide +kernel)) (by decide +kernel) (List.mem_of_getElem? (i := 7) rfl) (Or.inl ⟨2, rfl, (show decode cL_run 14 = .ok (.astore_n 2, 1) by decide +kernel), rfl⟩) (Nat.le_of_ble_eq_true rfl) (fun q hq => absurd hq List.not_mem_nil) ?_
      refine X_iconst (v := (nI 2)) (show decode cL_run 15 = .ok (.iconst 2, 1) by decide +kernel) (by decide) ?_
      exact X_iret ⟨(show decode cL_run 16 = .ok (.ireturn, 1) by decide +kernel), .int, rfl, rfl⟩ ⟨_, rfl, w⟩
  · skip
    refine X_i2l (show decode cL_run 6 = .ok (.i2l, 1) by decide +kernel) ?_
    obtain ⟨s3, w⟩ := w
    obtain ⟨s4, w⟩ := w
    obtain ⟨s5, w⟩ := w
    refine X_last (show decode cL_run 7 = .ok (.lastore, 1) by decide +kernel) (isA_eq s3) s4 s5 ?_
    have w := w _ rfl
    refine X_goto (tgt := 17) (show decode cL_run 8 = .ok (.goto 9, 3) by decide +kernel) (by decide) ?_
    refine X_iconst (v := (nI 0)) (show decode cL_run 17 = .ok (.iconst 0, 1) by decide +kernel) (by decide) ?_
    exact X_iret ⟨(show decode cL_run 18 = .ok (.ireturn, 1) by decide +kernel), .int, rfl, rfl⟩ ⟨_, rfl, w⟩
set_option maxRecDepth 100000 in
set_option maxHeartbeats 4000000 in
theorem kL_errorPosition {a0 : Nat} {a1 : Nat} {h : AH} {K : Int32 → AH → Prop} (w : wL_errorPosition a0 a1 h K) : Cn mL_errorPosition (cwh mL_errorPosition) 9 1 6 [.ref a0, .ref a1] h (KI K) T0 := by
  refine CnH_of (by decide +kernel) (Nat.le_of_ble_eq_true rfl) ?_
  show X mL_errorPosition 9 (KI K) T0 1 6 0 [(0, .ref a0), (1, .ref a1)] [] h
  unfold wL_errorPosition at w
  refine X_aload_n (j := 1) (show decode cL_errorPosition 0 = .ok (.aload_n 1, 1) by decide +kernel) rfl rfl ?_
  refine X_iconst (v := (nI 0)) (show decode cL_errorPosition 1 = .ok (.iconst 0, 1) by decide +kernel) (by decide) ?_
  refine X_aload_n (j := 0) (show decode cL_errorPosition 2 = .ok (.aload_n 0, 1) by decide +kernel) rfl rfl ?_
  obtain ⟨s8, w⟩ := w
  refine X_vI (rc' := 0) (rs' := 0) (as := []) mv_L_146 (show decode cL_errorPosition 3 = .ok (.invokevirtual 146, 3) by decide +kernel) (by decide) (Nat.le_of_ble_eq_true rfl) (Nat.le_of_ble_eq_true rfl) rfl rfl (Nat.le_of_ble_eq_true rfl) (rcvD s8 (by decide) rfl) (kX9_errorPosition w) (fun E9 h7 hk => ?_) (fun r2 h1 w => ?_)
  · obtain ⟨rfl, w⟩ := hk
    refine XT_catch (name := "java/util/NoSuchElementException") (i := 2) (j := 1) (ls' := []) [] (0, 8, 11, 43) [] rfl (fun z hz => absurd hz List.not_mem_nil) (by decide) (by decide) gw_of (List.mem_of_getElem? (i := 1245) (by decide +kernel)) (by decide +kernel) (List.mem_of_getElem? (i := 8) rfl) (Or.inl ⟨2, rfl, (show decode cL_errorPosition 11 = .ok (.astore_n 2, 1) by decide +kernel), rfl⟩) (Nat.le_of_ble_eq_true rfl) (fun q hq => absurd hq List.not_mem_nil) ?_
    refine X_iconst (v := (nI 1)) (show decode cL_errorPosition 12 = .ok (.iconst 1, 1) by decide +kernel) (by decide) ?_
    exact X_iret ⟨(show decode cL_errorPosition 13 = .ok (.ireturn, 1) by decide +kernel), .int, rfl, rfl⟩ ⟨_, rfl, w⟩
  · skip
    refine X_i2l (show decode cL_errorPosition 6 = .ok (.i2l, 1) by decide +kernel) ?_
    obtain ⟨s3, w⟩ := w
    obtain ⟨s4, w⟩ := w
    obtain ⟨s5, w⟩ := w
    refine X_last (show decode cL_errorPosition 7 = .ok (.lastore, 1) by decide +kernel) (isA_eq s3) s4 s5 ?_
    have w := w _ rfl
    refine X_goto (tgt := 14) (show decode cL_errorPosition 8 = .ok (.goto 6, 3) by decide +kernel) (by decide) ?_
    refine X_iconst (v := (nI 0)) (show decode cL_errorPosition 14 = .ok (.iconst 0, 1) by decide +kernel) (by decide) ?_
    exact X_iret ⟨(show decode cL_errorPosition 15 = .ok (.ireturn, 1) by decide +kernel), .int, rfl, rfl⟩ ⟨_, rfl, w⟩
set_option maxRecDepth 100000 in
set_option maxHeartbeats 4000000 in
theorem kL_failedCommand {a0 : Nat} {a1 : Nat} {h : AH} {K : Int32 → AH → Prop} (w : wL_failedCommand a0 a1 h K) : Cn mL_failedCommand (cwh mL_failedCommand) 9 1 6 [.ref a0, .ref a1] h (KI K) T0 := by
  refine CnH_of (by decide +kernel) (Nat.le_of_ble_eq_true rfl) ?_
  show X mL_failedCommand 9 (KI K) T0 1 6 0 [(0, .ref a0), (1, .ref a1)] [] h
  unfold wL_failedCommand at w
  refine X_aload_n (j := 1) (show decode cL_failedCommand 0 = .ok (.aload_n 1, 1) by decide +kernel) rfl rfl ?_
  refine X_iconst (v := (nI 0)) (show decode cL_failedCommand 1 = .ok (.iconst 0, 1) by decide +kernel) (by decide) ?_
  refine X_aload_n (j := 0) (show decode cL_failedCommand 2 = .ok (.aload_n 0, 1) by decide +kernel) rfl rfl ?_
  obtain ⟨s8, w⟩ := w
  refine X_vI (rc' := 0) (rs' := 0) (as := []) mv_L_149 (show decode cL_failedCommand 3 = .ok (.invokevirtual 149, 3) by decide +kernel) (by decide) (Nat.le_of_ble_eq_true rfl) (Nat.le_of_ble_eq_true rfl) rfl rfl (Nat.le_of_ble_eq_true rfl) (rcvD s8 (by decide) rfl) (kX9_failedCommand w) (fun E9 h7 hk => ?_) (fun r2 h1 w => ?_)
  · obtain ⟨rfl, w⟩ := hk
    refine XT_catch (name := "java/util/NoSuchElementException") (i := 2) (j := 1) (ls' := []) [] (0, 8, 11, 43) [] rfl (fun z hz => absurd hz List.not_mem_nil) (by decide) (by decide) gw_of (List.mem_of_getElem? (i := 1245) (by decide +kernel)) (by decide +kernel) (List.mem_of_getElem? (i := 8) rfl) (Or.inl ⟨2, rfl, (show decode cL_failedCommand 11 = .ok (.astore_n 2, 1) by decide +kernel), rfl⟩) (Nat.le_of_ble_eq_true rfl) (fun q hq => absurd hq List.not_mem_nil) ?_
    refine X_iconst (v := (nI 1)) (show decode cL_failedCommand 12 = .ok (.iconst 1, 1) by decide +kernel) (by decide) ?_
    exact X_iret ⟨(show decode cL_failedCommand 13 = .ok (.ireturn, 1) by decide +kernel), .int, rfl, rfl⟩ ⟨_, rfl, w⟩
  · skip
    refine X_i2l (show decode cL_failedCommand 6 = .ok (.i2l, 1) by decide +kernel) ?_
    obtain ⟨s3, w⟩ := w
    obtain ⟨s4, w⟩ := w
    obtain ⟨s5, w⟩ := w
    refine X_last (show decode cL_failedCommand 7 = .ok (.lastore, 1) by decide +kernel) (isA_eq s3) s4 s5 ?_
    have w := w _ rfl
    refine X_goto (tgt := 14) (show decode cL_failedCommand 8 = .ok (.goto 6, 3) by decide +kernel) (by decide) ?_
    refine X_iconst (v := (nI 0)) (show decode cL_failedCommand 14 = .ok (.iconst 0, 1) by decide +kernel) (by decide) ?_
    exact X_iret ⟨(show decode cL_failedCommand 15 = .ok (.ireturn, 1) by decide +kernel), .int, rfl, rfl⟩ ⟨_, rfl, w⟩
set_option maxRecDepth 100000 in
set_option maxHeartbeats 4000000 in
theorem kL_undo {a0 : Nat} {a1 : Nat} {h : AH} {K : Int32 → AH → Prop} (w : wL_undo a0 a1 h K) : Cn mL_undo (cwh mL_undo) 9 1 6 [.ref a0, .ref a1] h (KI K) T0 := by
  refine CnH_of (by decide +kernel) (Nat.le_of_ble_eq_true rfl) ?_
  show X mL_undo 9 (KI K) T0 1 6 0 [(0, .ref a0), (1, .ref a1)] [] h
  unfold wL_undo at w
  refine X_aload_n (j := 1) (show decode cL_undo 0 = .ok (.aload_n 1, 1) by decide +kernel) rfl rfl ?_
  refine X_iconst (v := (nI 0)) (show decode cL_undo 1 = .ok (.iconst 0, 1) by decide +kernel) (by decide) ?_
  refine X_aload_n (j := 0) (show decode cL_undo 2 = .ok (.aload_n 0, 1) by decide +kernel) rfl rfl ?_
  obtain ⟨s8, w⟩ := w
  refine X_vI (rc' := 0) (rs' := 0) (as := []) mv_L_152 (show decode cL_undo 3 = .ok (.invokevirtual 152, 3) by decide +kernel) (by decide) (Nat.le_of_ble_eq_true rfl) (Nat.le_of_ble_eq_true rfl) rfl rfl (Nat.le_of_ble_eq_true rfl) (rcvD s8 (by decide) rfl) (kX9_undo w) (fun E9 h7 hk => ?_) (fun r2 h1 w => ?_)
  · obtain ⟨rfl, w⟩ := hk
    refine XT_catch (name := "java/lang/IllegalStateException") (i := 2) (j := 1) (ls' := []) [] (0, 8, 11, 15) [] rfl (fun z hz => absurd hz List.not_mem_nil) (by decide) (by decide) gw_of (List.mem_of_getElem? (i := 1035) (by decide +kernel)) (by decide +kernel) (List.mem_of_getElem? (i := 4) rfl) (Or.inl ⟨2, rfl, (show decode cL_undo 11 = .ok (.astore_n 2, 1) by decide +kernel), rfl⟩) (Nat.le_of_ble_eq_true rfl) (fun q hq => absurd hq List.not_mem_nil) ?_
    refine X_iconst (v := (nI 1)) (show decode cL_undo 12 = .ok (.iconst 1, 1) by decide +kernel) (by decide) ?_
    exact X_iret ⟨(show decode cL_undo 13 = .ok (.ireturn, 1) by decide +kernel), .int, rfl, rfl⟩ ⟨_, rfl, w⟩
  · skip
    refine X_i2l (show decode cL_undo 6 = .ok (.i2l, 1) by decide +kernel) ?_
    obtain ⟨s3, w⟩ := w
    obtain ⟨s4, w⟩ := w
    obtain ⟨s5, w⟩ := w
    refine X_last (show decode cL_undo 7 = .ok (.lastore, 1) by decide +kernel) (isA_eq s3) s4 s5 ?_
    have w := w _ rfl
    refine X_goto (tgt := 14) (show decode cL_undo 8 = .ok (.goto 6, 3) by decide +kernel) (by decide) ?_
    refine X_iconst (v := (nI 0)) (show decode cL_undo 14 = .ok (.iconst 0, 1) by decide +kernel) (by decide) ?_
    exact X_iret ⟨(show decode cL_undo 15 = .ok (.ireturn, 1) by decide +kernel), .int, rfl, rfl⟩ ⟨_, rfl, w⟩
set_option maxRecDepth 100000 in
set_option maxHeartbeats 4000000 in
theorem kL_restore {a0 : Nat} {a1 : Nat} {h : AH} {K : Int32 → AH → Prop} (w : wL_restore a0 a1 h K) : Cn mL_restore (cwh mL_restore) 9 1 6 [.ref a0, .ref a1] h (KI K) T0 := by
  refine CnH_of (by decide +kernel) (Nat.le_of_ble_eq_true rfl) ?_
  show X mL_restore 9 (KI K) T0 1 6 0 [(0, .ref a0), (1, .ref a1)] [] h
  unfold wL_restore at w
  refine X_aload_n (j := 1) (show decode cL_restore 0 = .ok (.aload_n 1, 1) by decide +kernel) rfl rfl ?_
  refine X_iconst (v := (nI 0)) (show decode cL_restore 1 = .ok (.iconst 0, 1) by decide +kernel) (by decide) ?_
  refine X_aload_n (j := 0) (show decode cL_restore 2 = .ok (.aload_n 0, 1) by decide +kernel) rfl rfl ?_
  obtain ⟨s8, w⟩ := w
  refine X_vI (rc' := 0) (rs' := 0) (as := []) mv_L_155 (show decode cL_restore 3 = .ok (.invokevirtual 155, 3) by decide +kernel) (by decide) (Nat.le_of_ble_eq_true rfl) (Nat.le_of_ble_eq_true rfl) rfl rfl (Nat.le_of_ble_eq_true rfl) (rcvD s8 (by decide) rfl) (kX9_restore w) (fun E9 h7 hk => ?_) (fun r2 h1 w => ?_)
  · obtain ⟨rfl, w⟩ := hk
    refine XT_catch (name := "java/lang/IllegalStateException") (i := 2) (j := 1) (ls' := []) [] (0, 8, 11, 15) [] rfl (fun z hz => absurd hz List.not_mem_nil) (by decide) (by decide) gw_of (List.mem_of_getElem? (i := 1035) (by decide +kernel)) (by decide +kernel) (List.mem_of_getElem? (i := 4) rfl) (Or.inl ⟨2, rfl, (show decode cL_restore 11 = .ok (.astore_n 2, 1) by decide +kernel), rfl⟩) (Nat.le_of_ble_eq_true rfl) (fun q hq => absurd hq List.not_mem_nil) ?_
    refine X_iconst (v := (nI 1)) (show decode cL_restore 12 = .ok (.iconst 1, 1) by decide +kernel) (by decide) ?_
    exact X_iret ⟨(show decode cL_restore 13 = .ok (.ireturn, 1) by decide +kernel), .int, rfl, rfl⟩ ⟨_, rfl, w⟩
  · skip
    refine X_i2l (show decode cL_restore 6 = .ok (.i2l, 1) by decide +kernel) ?_
    obtain ⟨s3, w⟩ := w
    obtain ⟨s4, w⟩ := w
    obtain ⟨s5, w⟩ := w
    refine X_last (show decode cL_restore 7 = .ok (.lastore, 1) by decide +kernel) (isA_eq s3) s4 s5 ?_
    have w := w _ rfl
    refine X_goto (tgt := 14) (show decode cL_restore 8 = .ok (.goto 6, 3) by decide +kernel) (by decide) ?_
    refine X_iconst (v := (nI 0)) (show decode cL_restore 14 = .ok (.iconst 0, 1) by decide +kernel) (by decide) ?_
    exact X_iret ⟨(show decode cL_restore 15 = .ok (.ireturn, 1) by decide +kernel), .int, rfl, rfl⟩ ⟨_, rfl, w⟩
set_option maxRecDepth 100000 in
set_option maxHeartbeats 4000000 in
theorem kL_law_L28 {K : Int32 → AH → Prop}    : ∀ (n : Nat) (x0 : Nat) (x1 : Nat) (x2 : Nat) (x3 : Nat) (x4 : Nat) (x5 : Int32) (h : AH), wL_law_L28 K   n x0 x1 x2 x3 x4 x5 h → X mL_law 20 (KI K) T0 (n * 33 + 33) (n * 8198 + 8198) 28 [(0, .ref x0), (1, .ref x1), (2, .ref x2), (3, .ref x3), (4, .ref x4), (5, .int x5)] [] h := by
  intro n
  induction n with
  | zero => intro _ _ _ _ _ _ _ w; exact w.elim
  | succ n ih =>
    intro x0 x1 x2 x3 x4 x5 h w
    rw [wL_law_L28] at w
    refine X_room (rc' := (n * 33 + 66)) (rs' := (n * 8198 + 16396)) (by omega) (by omega) ?_
    refine X_iload (j := 5) (show decode cL_law 28 = .ok (.iload 5, 2) by decide +kernel) rfl ?_
    refine X_aload_n (j := 0) (show decode cL_law 30 = .ok (.aload_n 0, 1) by decide +kernel) rfl rfl ?_
    obtain ⟨s9, w⟩ := w
    refine X_alen (v := nI (ln _ _)) (show decode cL_law 31 = .ok (.arraylength, 1) by decide +kernel) (by decide) (isA_eq s9) rfl ?_
    refine X_iconst (v := (nI 4)) (show decode cL_law 32 = .ok (.iconst 4, 1) by decide +kernel) (by decide) ?_
    refine X_isub (show decode cL_law 33 = .ok (.isub, 1) by decide +kernel) ?_
    refine X_icmp_gt (tgt := 2931) (show decode cL_law 34 = .ok (.if_icmp .gt 2897, 3) by decide +kernel) (by decide) ⟨fun c10 => ?_, fun c10 => ?_⟩
    · have w := w.1 c10
      refine X_iconst (v := (nI 1)) (show decode cL_law 2931 = .ok (.iconst 1, 1) by decide +kernel) (by decide) ?_
      exact X_iret ⟨(show decode cL_law 2932 = .ok (.ireturn, 1) by decide +kernel), .boolean, rfl, (by decide)⟩ ⟨_, rfl, w⟩
    · have w := w.2 c10
      refine X_aload_n (j := 0) (show decode cL_law 37 = .ok (.aload_n 0, 1) by decide +kernel) rfl rfl ?_
      refine X_iload (j := 5) (show decode cL_law 38 = .ok (.iload 5, 2) by decide +kernel) rfl ?_
      obtain ⟨s11, w⟩ := w
      refine X_iald (show decode cL_law 40 = .ok (.iaload, 1) by decide +kernel) (isA_eq s9) s11 ?_
      refine X_bipush (v := (nI 63)) (show decode cL_law 41 = .ok (.bipush 63, 2) by decide +kernel) (by decide) ?_
      refine X_iand (show decode cL_law 43 = .ok (.iand, 1) by decide +kernel) ?_
      by_cases z0 : (mI h x0 x5.toNatClampNeg &&& (nI 63)) = (nI 0)
      · have w := w.1 z0
        refine X_tableIn (tgt := 280) (show decode cL_law 44 = .ok (.tableswitch 2881 0 54 #[236, 292, 372, 440, 496, 552, 615, 683, 739, 795, 851, 864, 920, 976, 1032, 1095, 1151, 1219, 1287, 1367, 1435, 1448, 1473, 1529, 1585, 1648, 1711, 1767, 1823, 1879, 1935, 1991, 2066, 2079, 2092, 2167, 2180, 2193, 2237, 2281, 2294, 2307, 2321, 2386, 2452, 2465, 2478, 2534, 2590, 2648, 2692, 2736, 2780, 2824, 2837], 236) by decide +kernel) (by rw [z0]; decide) (by rw [z0]; decide) (by rw [z0] <;> rfl) (by decide) ?_
        refine X_aload_n (j := 1) (show decode cL_law 280 = .ok (.aload_n 1, 1) by decide +kernel) rfl rfl ?_
        refine X_aload_n (j := 0) (show decode cL_law 281 = .ok (.aload_n 0, 1) by decide +kernel) rfl rfl ?_
        refine X_iload (j := 5) (show decode cL_law 282 = .ok (.iload 5, 2) by decide +kernel) rfl ?_
        refine X_iconst (v := (nI 1)) (show decode cL_law 284 = .ok (.iconst 1, 1) by decide +kernel) (by decide) ?_
        refine X_iadd (show decode cL_law 285 = .ok (.iadd, 1) by decide +kernel) ?_
        obtain ⟨s12, w⟩ := w
        refine X_iald (show decode cL_law 286 = .ok (.iaload, 1) by decide +kernel) (isA_eq s9) s12 ?_
        refine X_aload_n (j := 3) (show decode cL_law 287 = .ok (.aload_n 3, 1) by decide +kernel) rfl rfl ?_
        refine X_sH (rc' := (n * 33 + 65)) (rs' := (n * 8198 + 16390)) (as := [.ref _, .int _, .ref _]) msh_L_162 (show decode cL_law 288 = .ok (.invokestatic 162, 3) by decide +kernel) (by decide) (by omega) (by omega) rfl rfl (Nat.le_of_ble_eq_true rfl) (kL_addBlock w) (fun r14 h13 w => ?_)
        refine X_istore (ls' := [(0, .ref _), (1, .ref _), (2, .ref _), (3, .ref _), (4, .ref _), (5, .int _), (6, .int _)]) (show decode cL_law 291 = .ok (.istore 6, 2) by decide +kernel) (by decide) rfl ?_
        refine X_aload_n (j := 2) (show decode cL_law 293 = .ok (.aload_n 2, 1) by decide +kernel) rfl rfl ?_
        refine X_aload_n (j := 0) (show decode cL_law 294 = .ok (.aload_n 0, 1) by decide +kernel) rfl rfl ?_
        refine X_iload (j := 5) (show decode cL_law 295 = .ok (.iload 5, 2) by decide +kernel) rfl ?_
        refine X_iconst (v := (nI 1)) (show decode cL_law 297 = .ok (.iconst 1, 1) by decide +kernel) (by decide) ?_
        refine X_iadd (show decode cL_law 298 = .ok (.iadd, 1) by decide +kernel) ?_
        obtain ⟨s15, w⟩ := w
        obtain ⟨s16, w⟩ := w
        refine X_iald (show decode cL_law 299 = .ok (.iaload, 1) by decide +kernel) (isA_eq s15) s16 ?_
        obtain ⟨s27, w⟩ := w
        refine X_vI (rc' := (n * 33 + 65)) (rs' := (n * 8198 + 16390)) (as := [.int _]) mv_L_167 (show decode cL_law 300 = .ok (.invokevirtual 167, 3) by decide +kernel) (by decide) (by omega) (by omega) rfl rfl (Nat.le_of_ble_eq_true rfl) (rcvD s27 (by decide) rfl) (kX10_addBlock w) (fun E h hk => hk.elim) (fun r18 h17 w => ?_)
        refine X_istore (ls' := [(0, .ref _), (1, .ref _), (2, .ref _), (3, .ref _), (4, .ref _), (5, .int _), (6, .int _), (7, .int _)]) (show decode cL_law 303 = .ok (.istore 7, 2) by decide +kernel) (by decide) rfl ?_
        refine X_aload_n (j := 2) (show decode cL_law 305 = .ok (.aload_n 2, 1) by decide +kernel) rfl rfl ?_
        obtain ⟨s26, w⟩ := w
        refine X_vI (rc' := (n * 33 + 65)) (rs' := (n * 8198 + 16390)) (as := []) mv_L_168 (show decode cL_law 306 = .ok (.invokevirtual 168, 3) by decide +kernel) (by decide) (by omega) (by omega) rfl rfl (Nat.le_of_ble_eq_true rfl) (rcvD s26 (by decide) rfl) (kX10_thrown w) (fun E h hk => hk.elim) (fun r20 h19 w => ?_)
        refine X_iload (j := 6) (show decode cL_law 309 = .ok (.iload 6, 2) by decide +kernel) rfl ?_
        refine X_icmp_eq (tgt := 316) (show decode cL_law 311 = .ok (.if_icmp .eq 5, 3) by decide +kernel) (by decide) ⟨fun c21 => ?_, fun c21 => ?_⟩
        · have w := w.1 c21
          refine X_iload (j := 6) (show decode cL_law 316 = .ok (.iload 6, 2) by decide +kernel) rfl ?_
          refine X_if_ne (tgt := 333) (show decode cL_law 318 = .ok (.ifCond .ne 15, 3) by decide +kernel) (by decide) ⟨fun c22 => ?_, fun c22 => ?_⟩
          · have w := w.1 c22
            refine X_goto (tgt := 2925) (show decode cL_law 333 = .ok (.goto 2592, 3) by decide +kernel) (by decide) ?_
            refine X_iinc (j := 5) (v := _ + (nI 4)) (ls' := [(0, .ref _), (1, .ref _), (2, .ref _), (3, .ref _), (4, .ref _), (5, .int _), (6, .int _), (7, .int _)]) (show decode cL_law 2925 = .ok (.iinc 5 4, 3) by decide +kernel) rfl rfl (Nat.le_of_ble_eq_true rfl) rfl ?_
            refine X_goto (tgt := 28) (show decode cL_law 2928 = .ok (.goto (-2900), 3) by decide +kernel) (by decide) ?_
            refine X_room (rc' := (n * 33 + 33)) (rs' := (n * 8198 + 8198)) (by omega) (by omega) ?_
            refine X_pick (ls' := [(0, .ref _), (1, .ref _), (2, .ref _), (3, .ref _), (4, .ref _), (5, .int _)]) [0, 1, 2, 3, 4, 5] rfl ?_
            exact ih _ _ _ _ _ _ _ w
          · have w := w.2 c22
            refine X_aload_n (j := 3) (show decode cL_law 321 = .ok (.aload_n 3, 1) by decide +kernel) rfl rfl ?_
            refine X_iconst (v := (nI 0)) (show decode cL_law 322 = .ok (.iconst 0, 1) by decide +kernel) (by decide) ?_
            obtain ⟨s23, w⟩ := w
            obtain ⟨s24, w⟩ := w
            refine X_lald (show decode cL_law 323 = .ok (.laload, 1) by decide +kernel) (isA_eq s23) s24 ?_
            refine X_iload (j := 7) (show decode cL_law 324 = .ok (.iload 7, 2) by decide +kernel) rfl ?_
            refine X_i2l (show decode cL_law 326 = .ok (.i2l, 1) by decide +kernel) ?_
            refine X_lcmp (show decode cL_law 327 = .ok (.lcmp, 1) by decide +kernel) ?_
            refine X_if_eq (tgt := 333) (show decode cL_law 328 = .ok (.ifCond .eq 5, 3) by decide +kernel) (by decide) ⟨fun c25 => ?_, fun c25 => ?_⟩
            · have w := w.1 c25
              refine X_goto (tgt := 2925) (show decode cL_law 333 = .ok (.goto 2592, 3) by decide +kernel) (by decide) ?_
              refine X_iinc (j := 5) (v := _ + (nI 4)) (ls' := [(0, .ref _), (1, .ref _), (2, .ref _), (3, .ref _), (4, .ref _), (5, .int _), (6, .int _), (7, .int _)]) (show decode cL_law 2925 = .ok (.iinc 5 4, 3) by decide +kernel) rfl rfl (Nat.le_of_ble_eq_true rfl) rfl ?_
              refine X_goto (tgt := 28) (show decode cL_law 2928 = .ok (.goto (-2900), 3) by decide +kernel) (by decide) ?_
              refine X_room (rc' := (n * 33 + 33)) (rs' := (n * 8198 + 8198)) (by omega) (by omega) ?_
              refine X_pick (ls' := [(0, .ref _), (1, .ref _), (2, .ref _), (3, .ref _), (4, .ref _), (5, .int _)]) [0, 1, 2, 3, 4, 5] rfl ?_
              exact ih _ _ _ _ _ _ _ w
            · have w := w.2 c25
              refine X_iconst (v := (nI 0)) (show decode cL_law 331 = .ok (.iconst 0, 1) by decide +kernel) (by decide) ?_
              exact X_iret ⟨(show decode cL_law 332 = .ok (.ireturn, 1) by decide +kernel), .boolean, rfl, (by decide)⟩ ⟨_, rfl, w⟩
        · have w := w.2 c21
          refine X_iconst (v := (nI 0)) (show decode cL_law 314 = .ok (.iconst 0, 1) by decide +kernel) (by decide) ?_
          exact X_iret ⟨(show decode cL_law 315 = .ok (.ireturn, 1) by decide +kernel), .boolean, rfl, (by decide)⟩ ⟨_, rfl, w⟩
      by_cases z1 : (mI h x0 x5.toNatClampNeg &&& (nI 63)) = (nI 1)
      · have w := w.2.1 z1
        refine X_tableIn (tgt := 336) (show decode cL_law 44 = .ok (.tableswitch 2881 0 54 #[236, 292, 372, 440, 496, 552, 615, 683, 739, 795, 851, 864, 920, 976, 1032, 1095, 1151, 1219, 1287, 1367, 1435, 1448, 1473, 1529, 1585, 1648, 1711, 1767, 1823, 1879, 1935, 1991, 2066, 2079, 2092, 2167, 2180, 2193, 2237, 2281, 2294, 2307, 2321, 2386, 2452, 2465, 2478, 2534, 2590, 2648, 2692, 2736, 2780, 2824, 2837], 236) by decide +kernel) (by rw [z1]; decide) (by rw [z1]; decide) (by rw [z1] <;> rfl) (by decide) ?_
        refine X_aload_n (j := 1) (show decode cL_law 336 = .ok (.aload_n 1, 1) by decide +kernel) rfl rfl ?_
        refine X_aload_n (j := 0) (show decode cL_law 337 = .ok (.aload_n 0, 1) by decide +kernel) rfl rfl ?_
        refine X_iload (j := 5) (show decode cL_law 338 = .ok (.iload 5, 2) by decide +kernel) rfl ?_
        refine X_iconst (v := (nI 1)) (show decode cL_law 340 = .ok (.iconst 1, 1) by decide +kernel) (by decide) ?_
        refine X_iadd (show decode cL_law 341 = .ok (.iadd, 1) by decide +kernel) ?_
        obtain ⟨s28, w⟩ := w
        refine X_iald (show decode cL_law 342 = .ok (.iaload, 1) by decide +kernel) (isA_eq s9) s28 ?_
        refine X_aload_n (j := 0) (show decode cL_law 343 = .ok (.aload_n 0, 1) by decide +kernel) rfl rfl ?_
        refine X_iload (j := 5) (show decode cL_law 344 = .ok (.iload 5, 2) by decide +kernel) rfl ?_
        refine X_iconst (v := (nI 2)) (show decode cL_law 346 = .ok (.iconst 2, 1) by decide +kernel) (by decide) ?_
        refine X_iadd (show decode cL_law 347 = .ok (.iadd, 1) by decide +kernel) ?_
        obtain ⟨s29, w⟩ := w
        refine X_iald (show decode cL_law 348 = .ok (.iaload, 1) by decide +kernel) (isA_eq s9) s29 ?_
        refine X_aload_n (j := 0) (show decode cL_law 349 = .ok (.aload_n 0, 1) by decide +kernel) rfl rfl ?_
        refine X_iload (j := 5) (show decode cL_law 350 = .ok (.iload 5, 2) by decide +kernel) rfl ?_
        refine X_iconst (v := (nI 3)) (show decode cL_law 352 = .ok (.iconst 3, 1) by decide +kernel) (by decide) ?_
        refine X_iadd (show decode cL_law 353 = .ok (.iadd, 1) by decide +kernel) ?_
        obtain ⟨s30, w⟩ := w
        refine X_iald (show decode cL_law 354 = .ok (.iaload, 1) by decide +kernel) (isA_eq s9) s30 ?_
        refine X_aload_n (j := 3) (show decode cL_law 355 = .ok (.aload_n 3, 1) by decide +kernel) rfl rfl ?_
        refine X_sH (rc' := (n * 33 + 65)) (rs' := (n * 8198 + 16390)) (as := [.ref _, .int _, .int _, .int _, .ref _]) msh_L_171 (show decode cL_law 356 = .ok (.invokestatic 171, 3) by decide +kernel) (by decide) (by omega) (by omega) rfl rfl (Nat.le_of_ble_eq_true rfl) (kL_addPoint w) (fun r32 h31 w => ?_)
        refine X_istore (ls' := [(0, .ref _), (1, .ref _), (2, .ref _), (3, .ref _), (4, .ref _), (5, .int _), (6, .int _)]) (show decode cL_law 359 = .ok (.istore 6, 2) by decide +kernel) (by decide) rfl ?_
        refine X_aload_n (j := 2) (show decode cL_law 361 = .ok (.aload_n 2, 1) by decide +kernel) rfl rfl ?_
        refine X_aload_n (j := 0) (show decode cL_law 362 = .ok (.aload_n 0, 1) by decide +kernel) rfl rfl ?_
        refine X_iload (j := 5) (show decode cL_law 363 = .ok (.iload 5, 2) by decide +kernel) rfl ?_
        refine X_iconst (v := (nI 1)) (show decode cL_law 365 = .ok (.iconst 1, 1) by decide +kernel) (by decide) ?_
        refine X_iadd (show decode cL_law 366 = .ok (.iadd, 1) by decide +kernel) ?_
        obtain ⟨s33, w⟩ := w
        obtain ⟨s34, w⟩ := w
        refine X_iald (show decode cL_law 367 = .ok (.iaload, 1) by decide +kernel) (isA_eq s33) s34 ?_
        refine X_aload_n (j := 0) (show decode cL_law 368 = .ok (.aload_n 0, 1) by decide +kernel) rfl rfl ?_
        refine X_iload (j := 5) (show decode cL_law 369 = .ok (.iload 5, 2) by decide +kernel) rfl ?_
        refine X_iconst (v := (nI 2)) (show decode cL_law 371 = .ok (.iconst 2, 1) by decide +kernel) (by decide) ?_
        refine X_iadd (show decode cL_law 372 = .ok (.iadd, 1) by decide +kernel) ?_
        obtain ⟨s35, w⟩ := w
        refine X_iald (show decode cL_law 373 = .ok (.iaload, 1) by decide +kernel) (isA_eq s33) s35 ?_
        refine X_aload_n (j := 0) (show decode cL_law 374 = .ok (.aload_n 0, 1) by decide +kernel) rfl rfl ?_
        refine X_iload (j := 5) (show decode cL_law 375 = .ok (.iload 5, 2) by decide +kernel) rfl ?_
        refine X_iconst (v := (nI 3)) (show decode cL_law 377 = .ok (.iconst 3, 1) by decide +kernel) (by decide) ?_
        refine X_iadd (show decode cL_law 378 = .ok (.iadd, 1) by decide +kernel) ?_
        obtain ⟨s36, w⟩ := w
        refine X_iald (show decode cL_law 379 = .ok (.iaload, 1) by decide +kernel) (isA_eq s33) s36 ?_
        obtain ⟨s47, w⟩ := w
        refine X_vI (rc' := (n * 33 + 65)) (rs' := (n * 8198 + 16390)) (as := [.int _, .int _, .int _]) mv_L_174 (show decode cL_law 380 = .ok (.invokevirtual 174, 3) by decide +kernel) (by decide) (by omega) (by omega) rfl rfl (Nat.le_of_ble_eq_true rfl) (rcvD s47 (by decide) rfl) (kX10_addPoint w) (fun E h hk => hk.elim) (fun r38 h37 w => ?_)
        refine X_istore (ls' := [(0, .ref _), (1, .ref _), (2, .ref _), (3, .ref _), (4, .ref _), (5, .int _), (6, .int _), (7, .int _)]) (show decode cL_law 383 = .ok (.istore 7, 2) by decide +kernel) (by decide) rfl ?_
        refine X_aload_n (j := 2) (show decode cL_law 385 = .ok (.aload_n 2, 1) by decide +kernel) rfl rfl ?_
        obtain ⟨s46, w⟩ := w
        refine X_vI (rc' := (n * 33 + 65)) (rs' := (n * 8198 + 16390)) (as := []) mv_L_168 (show decode cL_law 386 = .ok (.invokevirtual 168, 3) by decide +kernel) (by decide) (by omega) (by omega) rfl rfl (Nat.le_of_ble_eq_true rfl) (rcvD s46 (by decide) rfl) (kX10_thrown w) (fun E h hk => hk.elim) (fun r40 h39 w => ?_)
        refine X_iload (j := 6) (show decode cL_law 389 = .ok (.iload 6, 2) by decide +kernel) rfl ?_
        refine X_icmp_eq (tgt := 396) (show decode cL_law 391 = .ok (.if_icmp .eq 5, 3) by decide +kernel) (by decide) ⟨fun c41 => ?_, fun c41 => ?_⟩
        · have w := w.1 c41
          refine X_iload (j := 6) (show decode cL_law 396 = .ok (.iload 6, 2) by decide +kernel) rfl ?_
          refine X_if_ne (tgt := 413) (show decode cL_law 398 = .ok (.ifCond .ne 15, 3) by decide +kernel) (by decide) ⟨fun c42 => ?_, fun c42 => ?_⟩
          · have w := w.1 c42
            refine X_goto (tgt := 2925) (show decode cL_law 413 = .ok (.goto 2512, 3) by decide +kernel) (by decide) ?_
            refine X_iinc (j := 5) (v := _ + (nI 4)) (ls' := [(0, .ref _), (1, .ref _), (2, .ref _), (3, .ref _), (4, .ref _), (5, .int _), (6, .int _), (7, .int _)]) (show decode cL_law 2925 = .ok (.iinc 5 4, 3) by decide +kernel) rfl rfl (Nat.le_of_ble_eq_true rfl) rfl ?_
            refine X_goto (tgt := 28) (show decode cL_law 2928 = .ok (.goto (-2900), 3) by decide +kernel) (by decide) ?_
            refine X_room (rc' := (n * 33 + 33)) (rs' := (n * 8198 + 8198)) (by omega) (by omega) ?_
            refine X_pick (ls' := [(0, .ref _), (1, .ref _), (2, .ref _), (3, .ref _), (4, .ref _), (5, .int _)]) [0, 1, 2, 3, 4, 5] rfl ?_
            exact ih _ _ _ _ _ _ _ w
          · have w := w.2 c42
            refine X_aload_n (j := 3) (show decode cL_law 401 = .ok (.aload_n 3, 1) by decide +kernel) rfl rfl ?_
            refine X_iconst (v := (nI 0)) (show decode cL_law 402 = .ok (.iconst 0, 1) by decide +kernel) (by decide) ?_
            obtain ⟨s43, w⟩ := w
            obtain ⟨s44, w⟩ := w
            refine X_lald (show decode cL_law 403 = .ok (.laload, 1) by decide +kernel) (isA_eq s43) s44 ?_
            refine X_iload (j := 7) (show decode cL_law 404 = .ok (.iload 7, 2) by decide +kernel) rfl ?_
            refine X_i2l (show decode cL_law 406 = .ok (.i2l, 1) by decide +kernel) ?_
            refine X_lcmp (show decode cL_law 407 = .ok (.lcmp, 1) by decide +kernel) ?_
            refine X_if_eq (tgt := 413) (show decode cL_law 408 = .ok (.ifCond .eq 5, 3) by decide +kernel) (by decide) ⟨fun c45 => ?_, fun c45 => ?_⟩
            · have w := w.1 c45
              refine X_goto (tgt := 2925) (show decode cL_law 413 = .ok (.goto 2512, 3) by decide +kernel) (by decide) ?_
              refine X_iinc (j := 5) (v := _ + (nI 4)) (ls' := [(0, .ref _), (1, .ref _), (2, .ref _), (3, .ref _), (4, .ref _), (5, .int _), (6, .int _), (7, .int _)]) (show decode cL_law 2925 = .ok (.iinc 5 4, 3) by decide +kernel) rfl rfl (Nat.le_of_ble_eq_true rfl) rfl ?_
              refine X_goto (tgt := 28) (show decode cL_law 2928 = .ok (.goto (-2900), 3) by decide +kernel) (by decide) ?_
              refine X_room (rc' := (n * 33 + 33)) (rs' := (n * 8198 + 8198)) (by omega) (by omega) ?_
              refine X_pick (ls' := [(0, .ref _), (1, .ref _), (2, .ref _), (3, .ref _), (4, .ref _), (5, .int _)]) [0, 1, 2, 3, 4, 5] rfl ?_
              exact ih _ _ _ _ _ _ _ w
            · have w := w.2 c45
              refine X_iconst (v := (nI 0)) (show decode cL_law 411 = .ok (.iconst 0, 1) by decide +kernel) (by decide) ?_
              exact X_iret ⟨(show decode cL_law 412 = .ok (.ireturn, 1) by decide +kernel), .boolean, rfl, (by decide)⟩ ⟨_, rfl, w⟩
        · have w := w.2 c41
          refine X_iconst (v := (nI 0)) (show decode cL_law 394 = .ok (.iconst 0, 1) by decide +kernel) (by decide) ?_
          exact X_iret ⟨(show decode cL_law 395 = .ok (.ireturn, 1) by decide +kernel), .boolean, rfl, (by decide)⟩ ⟨_, rfl, w⟩
      by_cases z2 : (mI h x0 x5.toNatClampNeg &&& (nI 63)) = (nI 2)
      · have w := w.2.2.1 z2
        refine X_tableIn (tgt := 416) (show decode cL_law 44 = .ok (.tableswitch 2881 0 54 #[236, 292, 372, 440, 496, 552, 615, 683, 739, 795, 851, 864, 920, 976, 1032, 1095, 1151, 1219, 1287, 1367, 1435, 1448, 1473, 1529, 1585, 1648, 1711, 1767, 1823, 1879, 1935, 1991, 2066, 2079, 2092, 2167, 2180, 2193, 2237, 2281, 2294, 2307, 2321, 2386, 2452, 2465, 2478, 2534, 2590, 2648, 2692, 2736, 2780, 2824, 2837], 236) by decide +kernel) (by rw [z2]; decide) (by rw [z2]; decide) (by rw [z2] <;> rfl) (by decide) ?_
        refine X_aload_n (j := 1) (show decode cL_law 416 = .ok (.aload_n 1, 1) by decide +kernel) rfl rfl ?_
        refine X_aload_n (j := 0) (show decode cL_law 417 = .ok (.aload_n 0, 1) by decide +kernel) rfl rfl ?_
        refine X_iload (j := 5) (show decode cL_law 418 = .ok (.iload 5, 2) by decide +kernel) rfl ?_
        refine X_iconst (v := (nI 1)) (show decode cL_law 420 = .ok (.iconst 1, 1) by decide +kernel) (by decide) ?_
        refine X_iadd (show decode cL_law 421 = .ok (.iadd, 1) by decide +kernel) ?_
        obtain ⟨s48, w⟩ := w
        refine X_iald (show decode cL_law 422 = .ok (.iaload, 1) by decide +kernel) (isA_eq s9) s48 ?_
        refine X_aload_n (j := 0) (show decode cL_law 423 = .ok (.aload_n 0, 1) by decide +kernel) rfl rfl ?_
        refine X_iload (j := 5) (show decode cL_law 424 = .ok (.iload 5, 2) by decide +kernel) rfl ?_
        refine X_iconst (v := (nI 2)) (show decode cL_law 426 = .ok (.iconst 2, 1) by decide +kernel) (by decide) ?_
        refine X_iadd (show decode cL_law 427 = .ok (.iadd, 1) by decide +kernel) ?_
        obtain ⟨s49, w⟩ := w
        refine X_iald (show decode cL_law 428 = .ok (.iaload, 1) by decide +kernel) (isA_eq s9) s49 ?_
        refine X_aload_n (j := 3) (show decode cL_law 429 = .ok (.aload_n 3, 1) by decide +kernel) rfl rfl ?_
        refine X_sH (rc' := (n * 33 + 65)) (rs' := (n * 8198 + 16390)) (as := [.ref _, .int _, .int _, .ref _]) msh_L_175 (show decode cL_law 430 = .ok (.invokestatic 175, 3) by decide +kernel) (by decide) (by omega) (by omega) rfl rfl (Nat.le_of_ble_eq_true rfl) (kL_addLink w) (fun r51 h50 w => ?_)
        refine X_istore (ls' := [(0, .ref _), (1, .ref _), (2, .ref _), (3, .ref _), (4, .ref _), (5, .int _), (6, .int _)]) (show decode cL_law 433 = .ok (.istore 6, 2) by decide +kernel) (by decide) rfl ?_
        refine X_aload_n (j := 2) (show decode cL_law 435 = .ok (.aload_n 2, 1) by decide +kernel) rfl rfl ?_
        refine X_aload_n (j := 0) (show decode cL_law 436 = .ok (.aload_n 0, 1) by decide +kernel) rfl rfl ?_
        refine X_iload (j := 5) (show decode cL_law 437 = .ok (.iload 5, 2) by decide +kernel) rfl ?_
        refine X_iconst (v := (nI 1)) (show decode cL_law 439 = .ok (.iconst 1, 1) by decide +kernel) (by decide) ?_
        refine X_iadd (show decode cL_law 440 = .ok (.iadd, 1) by decide +kernel) ?_
        obtain ⟨s52, w⟩ := w
        obtain ⟨s53, w⟩ := w
        refine X_iald (show decode cL_law 441 = .ok (.iaload, 1) by decide +kernel) (isA_eq s52) s53 ?_
        refine X_aload_n (j := 0) (show decode cL_law 442 = .ok (.aload_n 0, 1) by decide +kernel) rfl rfl ?_
        refine X_iload (j := 5) (show decode cL_law 443 = .ok (.iload 5, 2) by decide +kernel) rfl ?_
        refine X_iconst (v := (nI 2)) (show decode cL_law 445 = .ok (.iconst 2, 1) by decide +kernel) (by decide) ?_
        refine X_iadd (show decode cL_law 446 = .ok (.iadd, 1) by decide +kernel) ?_
        obtain ⟨s54, w⟩ := w
        refine X_iald (show decode cL_law 447 = .ok (.iaload, 1) by decide +kernel) (isA_eq s52) s54 ?_
        obtain ⟨s65, w⟩ := w
        refine X_vI (rc' := (n * 33 + 65)) (rs' := (n * 8198 + 16390)) (as := [.int _, .int _]) mv_L_178 (show decode cL_law 448 = .ok (.invokevirtual 178, 3) by decide +kernel) (by decide) (by omega) (by omega) rfl rfl (Nat.le_of_ble_eq_true rfl) (rcvD s65 (by decide) rfl) (kX10_addLink w) (fun E h hk => hk.elim) (fun r56 h55 w => ?_)
        refine X_istore (ls' := [(0, .ref _), (1, .ref _), (2, .ref _), (3, .ref _), (4, .ref _), (5, .int _), (6, .int _), (7, .int _)]) (show decode cL_law 451 = .ok (.istore 7, 2) by decide +kernel) (by decide) rfl ?_
        refine X_aload_n (j := 2) (show decode cL_law 453 = .ok (.aload_n 2, 1) by decide +kernel) rfl rfl ?_
        obtain ⟨s64, w⟩ := w
        refine X_vI (rc' := (n * 33 + 65)) (rs' := (n * 8198 + 16390)) (as := []) mv_L_168 (show decode cL_law 454 = .ok (.invokevirtual 168, 3) by decide +kernel) (by decide) (by omega) (by omega) rfl rfl (Nat.le_of_ble_eq_true rfl) (rcvD s64 (by decide) rfl) (kX10_thrown w) (fun E h hk => hk.elim) (fun r58 h57 w => ?_)
        refine X_iload (j := 6) (show decode cL_law 457 = .ok (.iload 6, 2) by decide +kernel) rfl ?_
        refine X_icmp_eq (tgt := 464) (show decode cL_law 459 = .ok (.if_icmp .eq 5, 3) by decide +kernel) (by decide) ⟨fun c59 => ?_, fun c59 => ?_⟩
        · have w := w.1 c59
          refine X_iload (j := 6) (show decode cL_law 464 = .ok (.iload 6, 2) by decide +kernel) rfl ?_
          refine X_if_ne (tgt := 481) (show decode cL_law 466 = .ok (.ifCond .ne 15, 3) by decide +kernel) (by decide) ⟨fun c60 => ?_, fun c60 => ?_⟩
          · have w := w.1 c60
            refine X_goto (tgt := 2925) (show decode cL_law 481 = .ok (.goto 2444, 3) by decide +kernel) (by decide) ?_
            refine X_iinc (j := 5) (v := _ + (nI 4)) (ls' := [(0, .ref _), (1, .ref _), (2, .ref _), (3, .ref _), (4, .ref _), (5, .int _), (6, .int _), (7, .int _)]) (show decode cL_law 2925 = .ok (.iinc 5 4, 3) by decide +kernel) rfl rfl (Nat.le_of_ble_eq_true rfl) rfl ?_
            refine X_goto (tgt := 28) (show decode cL_law 2928 = .ok (.goto (-2900), 3) by decide +kernel) (by decide) ?_
            refine X_room (rc' := (n * 33 + 33)) (rs' := (n * 8198 + 8198)) (by omega) (by omega) ?_
            refine X_pick (ls' := [(0, .ref _), (1, .ref _), (2, .ref _), (3, .ref _), (4, .ref _), (5, .int _)]) [0, 1, 2, 3, 4, 5] rfl ?_
            exact ih _ _ _ _ _ _ _ w
          · have w := w.2 c60
            refine X_aload_n (j := 3) (show decode cL_law 469 = .ok (.aload_n 3, 1) by decide +kernel) rfl rfl ?_
            refine X_iconst (v := (nI 0)) (show decode cL_law 470 = .ok (.iconst 0, 1) by decide +kernel) (by decide) ?_
            obtain ⟨s61, w⟩ := w
            obtain ⟨s62, w⟩ := w
            refine X_lald (show decode cL_law 471 = .ok (.laload, 1) by decide +kernel) (isA_eq s61) s62 ?_
            refine X_iload (j := 7) (show decode cL_law 472 = .ok (.iload 7, 2) by decide +kernel) rfl ?_
            refine X_i2l (show decode cL_law 474 = .ok (.i2l, 1) by decide +kernel) ?_
            refine X_lcmp (show decode cL_law 475 = .ok (.lcmp, 1) by decide +kernel) ?_
            refine X_if_eq (tgt := 481) (show decode cL_law 476 = .ok (.ifCond .eq 5, 3) by decide +kernel) (by decide) ⟨fun c63 => ?_, fun c63 => ?_⟩
            · have w := w.1 c63
              refine X_goto (tgt := 2925) (show decode cL_law 481 = .ok (.goto 2444, 3) by decide +kernel) (by decide) ?_
              refine X_iinc (j := 5) (v := _ + (nI 4)) (ls' := [(0, .ref _), (1, .ref _), (2, .ref _), (3, .ref _), (4, .ref _), (5, .int _), (6, .int _), (7, .int _)]) (show decode cL_law 2925 = .ok (.iinc 5 4, 3) by decide +kernel) rfl rfl (Nat.le_of_ble_eq_true rfl) rfl ?_
              refine X_goto (tgt := 28) (show decode cL_law 2928 = .ok (.goto (-2900), 3) by decide +kernel) (by decide) ?_
              refine X_room (rc' := (n * 33 + 33)) (rs' := (n * 8198 + 8198)) (by omega) (by omega) ?_
              refine X_pick (ls' := [(0, .ref _), (1, .ref _), (2, .ref _), (3, .ref _), (4, .ref _), (5, .int _)]) [0, 1, 2, 3, 4, 5] rfl ?_
              exact ih _ _ _ _ _ _ _ w
            · have w := w.2 c63
              refine X_iconst (v := (nI 0)) (show decode cL_law 479 = .ok (.iconst 0, 1) by decide +kernel) (by decide) ?_
              exact X_iret ⟨(show decode cL_law 480 = .ok (.ireturn, 1) by decide +kernel), .boolean, rfl, (by decide)⟩ ⟨_, rfl, w⟩
        · have w := w.2 c59
          refine X_iconst (v := (nI 0)) (show decode cL_law 462 = .ok (.iconst 0, 1) by decide +kernel) (by decide) ?_
          exact X_iret ⟨(show decode cL_law 463 = .ok (.ireturn, 1) by decide +kernel), .boolean, rfl, (by decide)⟩ ⟨_, rfl, w⟩
      by_cases z3 : (mI h x0 x5.toNatClampNeg &&& (nI 63)) = (nI 3)
      · have w := w.2.2.2.1 z3
        refine X_tableIn (tgt := 484) (show decode cL_law 44 = .ok (.tableswitch 2881 0 54 #[236, 292, 372, 440, 496, 552, 615, 683, 739, 795, 851, 864, 920, 976, 1032, 1095, 1151, 1219, 1287, 1367, 1435, 1448, 1473, 1529, 1585, 1648, 1711, 1767, 1823, 1879, 1935, 1991, 2066, 2079, 2092, 2167, 2180, 2193, 2237, 2281, 2294, 2307, 2321, 2386, 2452, 2465, 2478, 2534, 2590, 2648, 2692, 2736, 2780, 2824, 2837], 236) by decide +kernel) (by rw [z3]; decide) (by rw [z3]; decide) (by rw [z3] <;> rfl) (by decide) ?_
        refine X_aload_n (j := 1) (show decode cL_law 484 = .ok (.aload_n 1, 1) by decide +kernel) rfl rfl ?_
        refine X_aload_n (j := 0) (show decode cL_law 485 = .ok (.aload_n 0, 1) by decide +kernel) rfl rfl ?_
        refine X_iload (j := 5) (show decode cL_law 486 = .ok (.iload 5, 2) by decide +kernel) rfl ?_
        refine X_iconst (v := (nI 1)) (show decode cL_law 488 = .ok (.iconst 1, 1) by decide +kernel) (by decide) ?_
        refine X_iadd (show decode cL_law 489 = .ok (.iadd, 1) by decide +kernel) ?_
        obtain ⟨s66, w⟩ := w
        refine X_iald (show decode cL_law 490 = .ok (.iaload, 1) by decide +kernel) (isA_eq s9) s66 ?_
        refine X_aload_n (j := 3) (show decode cL_law 491 = .ok (.aload_n 3, 1) by decide +kernel) rfl rfl ?_
        refine X_sH (rc' := (n * 33 + 65)) (rs' := (n * 8198 + 16390)) (as := [.ref _, .int _, .ref _]) msh_L_179 (show decode cL_law 492 = .ok (.invokestatic 179, 3) by decide +kernel) (by decide) (by omega) (by omega) rfl rfl (Nat.le_of_ble_eq_true rfl) (kL_shut w) (fun r68 h67 w => ?_)
        refine X_istore (ls' := [(0, .ref _), (1, .ref _), (2, .ref _), (3, .ref _), (4, .ref _), (5, .int _), (6, .int _)]) (show decode cL_law 495 = .ok (.istore 6, 2) by decide +kernel) (by decide) rfl ?_
        refine X_aload_n (j := 2) (show decode cL_law 497 = .ok (.aload_n 2, 1) by decide +kernel) rfl rfl ?_
        refine X_aload_n (j := 0) (show decode cL_law 498 = .ok (.aload_n 0, 1) by decide +kernel) rfl rfl ?_
        refine X_iload (j := 5) (show decode cL_law 499 = .ok (.iload 5, 2) by decide +kernel) rfl ?_
        refine X_iconst (v := (nI 1)) (show decode cL_law 501 = .ok (.iconst 1, 1) by decide +kernel) (by decide) ?_
        refine X_iadd (show decode cL_law 502 = .ok (.iadd, 1) by decide +kernel) ?_
        obtain ⟨s69, w⟩ := w
        obtain ⟨s70, w⟩ := w
        refine X_iald (show decode cL_law 503 = .ok (.iaload, 1) by decide +kernel) (isA_eq s69) s70 ?_
        obtain ⟨s81, w⟩ := w
        refine X_vI (rc' := (n * 33 + 65)) (rs' := (n * 8198 + 16390)) (as := [.int _]) mv_L_181 (show decode cL_law 504 = .ok (.invokevirtual 181, 3) by decide +kernel) (by decide) (by omega) (by omega) rfl rfl (Nat.le_of_ble_eq_true rfl) (rcvD s81 (by decide) rfl) (kX10_shut w) (fun E h hk => hk.elim) (fun r72 h71 w => ?_)
        refine X_istore (ls' := [(0, .ref _), (1, .ref _), (2, .ref _), (3, .ref _), (4, .ref _), (5, .int _), (6, .int _), (7, .int _)]) (show decode cL_law 507 = .ok (.istore 7, 2) by decide +kernel) (by decide) rfl ?_
        refine X_aload_n (j := 2) (show decode cL_law 509 = .ok (.aload_n 2, 1) by decide +kernel) rfl rfl ?_
        obtain ⟨s80, w⟩ := w
        refine X_vI (rc' := (n * 33 + 65)) (rs' := (n * 8198 + 16390)) (as := []) mv_L_168 (show decode cL_law 510 = .ok (.invokevirtual 168, 3) by decide +kernel) (by decide) (by omega) (by omega) rfl rfl (Nat.le_of_ble_eq_true rfl) (rcvD s80 (by decide) rfl) (kX10_thrown w) (fun E h hk => hk.elim) (fun r74 h73 w => ?_)
        refine X_iload (j := 6) (show decode cL_law 513 = .ok (.iload 6, 2) by decide +kernel) rfl ?_
        refine X_icmp_eq (tgt := 520) (show decode cL_law 515 = .ok (.if_icmp .eq 5, 3) by decide +kernel) (by decide) ⟨fun c75 => ?_, fun c75 => ?_⟩
        · have w := w.1 c75
          refine X_iload (j := 6) (show decode cL_law 520 = .ok (.iload 6, 2) by decide +kernel) rfl ?_
          refine X_if_ne (tgt := 537) (show decode cL_law 522 = .ok (.ifCond .ne 15, 3) by decide +kernel) (by decide) ⟨fun c76 => ?_, fun c76 => ?_⟩
          · have w := w.1 c76
            refine X_goto (tgt := 2925) (show decode cL_law 537 = .ok (.goto 2388, 3) by decide +kernel) (by decide) ?_
            refine X_iinc (j := 5) (v := _ + (nI 4)) (ls' := [(0, .ref _), (1, .ref _), (2, .ref _), (3, .ref _), (4, .ref _), (5, .int _), (6, .int _), (7, .int _)]) (show decode cL_law 2925 = .ok (.iinc 5 4, 3) by decide +kernel) rfl rfl (Nat.le_of_ble_eq_true rfl) rfl ?_
            refine X_goto (tgt := 28) (show decode cL_law 2928 = .ok (.goto (-2900), 3) by decide +kernel) (by decide) ?_
            refine X_room (rc' := (n * 33 + 33)) (rs' := (n * 8198 + 8198)) (by omega) (by omega) ?_
            refine X_pick (ls' := [(0, .ref _), (1, .ref _), (2, .ref _), (3, .ref _), (4, .ref _), (5, .int _)]) [0, 1, 2, 3, 4, 5] rfl ?_
            exact ih _ _ _ _ _ _ _ w
          · have w := w.2 c76
            refine X_aload_n (j := 3) (show decode cL_law 525 = .ok (.aload_n 3, 1) by decide +kernel) rfl rfl ?_
            refine X_iconst (v := (nI 0)) (show decode cL_law 526 = .ok (.iconst 0, 1) by decide +kernel) (by decide) ?_
            obtain ⟨s77, w⟩ := w
            obtain ⟨s78, w⟩ := w
            refine X_lald (show decode cL_law 527 = .ok (.laload, 1) by decide +kernel) (isA_eq s77) s78 ?_
            refine X_iload (j := 7) (show decode cL_law 528 = .ok (.iload 7, 2) by decide +kernel) rfl ?_
            refine X_i2l (show decode cL_law 530 = .ok (.i2l, 1) by decide +kernel) ?_
            refine X_lcmp (show decode cL_law 531 = .ok (.lcmp, 1) by decide +kernel) ?_
            refine X_if_eq (tgt := 537) (show decode cL_law 532 = .ok (.ifCond .eq 5, 3) by decide +kernel) (by decide) ⟨fun c79 => ?_, fun c79 => ?_⟩
            · have w := w.1 c79
              refine X_goto (tgt := 2925) (show decode cL_law 537 = .ok (.goto 2388, 3) by decide +kernel) (by decide) ?_
              refine X_iinc (j := 5) (v := _ + (nI 4)) (ls' := [(0, .ref _), (1, .ref _), (2, .ref _), (3, .ref _), (4, .ref _), (5, .int _), (6, .int _), (7, .int _)]) (show decode cL_law 2925 = .ok (.iinc 5 4, 3) by decide +kernel) rfl rfl (Nat.le_of_ble_eq_true rfl) rfl ?_
              refine X_goto (tgt := 28) (show decode cL_law 2928 = .ok (.goto (-2900), 3) by decide +kernel) (by decide) ?_
              refine X_room (rc' := (n * 33 + 33)) (rs' := (n * 8198 + 8198)) (by omega) (by omega) ?_
              refine X_pick (ls' := [(0, .ref _), (1, .ref _), (2, .ref _), (3, .ref _), (4, .ref _), (5, .int _)]) [0, 1, 2, 3, 4, 5] rfl ?_
              exact ih _ _ _ _ _ _ _ w
            · have w := w.2 c79
              refine X_iconst (v := (nI 0)) (show decode cL_law 535 = .ok (.iconst 0, 1) by decide +kernel) (by decide) ?_
              exact X_iret ⟨(show decode cL_law 536 = .ok (.ireturn, 1) by decide +kernel), .boolean, rfl, (by decide)⟩ ⟨_, rfl, w⟩
        · have w := w.2 c75
          refine X_iconst (v := (nI 0)) (show decode cL_law 518 = .ok (.iconst 0, 1) by decide +kernel) (by decide) ?_
          exact X_iret ⟨(show decode cL_law 519 = .ok (.ireturn, 1) by decide +kernel), .boolean, rfl, (by decide)⟩ ⟨_, rfl, w⟩
      by_cases z4 : (mI h x0 x5.toNatClampNeg &&& (nI 63)) = (nI 4)
      · have w := w.2.2.2.2.1 z4
        refine X_tableIn (tgt := 540) (show decode cL_law 44 = .ok (.tableswitch 2881 0 54 #[236, 292, 372, 440, 496, 552, 615, 683, 739, 795, 851, 864, 920, 976, 1032, 1095, 1151, 1219, 1287, 1367, 1435, 1448, 1473, 1529, 1585, 1648, 1711, 1767, 1823, 1879, 1935, 1991, 2066, 2079, 2092, 2167, 2180, 2193, 2237, 2281, 2294, 2307, 2321, 2386, 2452, 2465, 2478, 2534, 2590, 2648, 2692, 2736, 2780, 2824, 2837], 236) by decide +kernel) (by rw [z4]; decide) (by rw [z4]; decide) (by rw [z4] <;> rfl) (by decide) ?_
        refine X_aload_n (j := 1) (show decode cL_law 540 = .ok (.aload_n 1, 1) by decide +kernel) rfl rfl ?_
        refine X_aload_n (j := 0) (show decode cL_law 541 = .ok (.aload_n 0, 1) by decide +kernel) rfl rfl ?_
        refine X_iload (j := 5) (show decode cL_law 542 = .ok (.iload 5, 2) by decide +kernel) rfl ?_
        refine X_iconst (v := (nI 1)) (show decode cL_law 544 = .ok (.iconst 1, 1) by decide +kernel) (by decide) ?_
        refine X_iadd (show decode cL_law 545 = .ok (.iadd, 1) by decide +kernel) ?_
        obtain ⟨s82, w⟩ := w
        refine X_iald (show decode cL_law 546 = .ok (.iaload, 1) by decide +kernel) (isA_eq s9) s82 ?_
        refine X_aload_n (j := 3) (show decode cL_law 547 = .ok (.aload_n 3, 1) by decide +kernel) rfl rfl ?_
        refine X_sH (rc' := (n * 33 + 65)) (rs' := (n * 8198 + 16390)) (as := [.ref _, .int _, .ref _]) msh_L_182 (show decode cL_law 548 = .ok (.invokestatic 182, 3) by decide +kernel) (by decide) (by omega) (by omega) rfl rfl (Nat.le_of_ble_eq_true rfl) (kL_open w) (fun r84 h83 w => ?_)
        refine X_istore (ls' := [(0, .ref _), (1, .ref _), (2, .ref _), (3, .ref _), (4, .ref _), (5, .int _), (6, .int _)]) (show decode cL_law 551 = .ok (.istore 6, 2) by decide +kernel) (by decide) rfl ?_
        refine X_aload_n (j := 2) (show decode cL_law 553 = .ok (.aload_n 2, 1) by decide +kernel) rfl rfl ?_
        refine X_aload_n (j := 0) (show decode cL_law 554 = .ok (.aload_n 0, 1) by decide +kernel) rfl rfl ?_
        refine X_iload (j := 5) (show decode cL_law 555 = .ok (.iload 5, 2) by decide +kernel) rfl ?_
        refine X_iconst (v := (nI 1)) (show decode cL_law 557 = .ok (.iconst 1, 1) by decide +kernel) (by decide) ?_
        refine X_iadd (show decode cL_law 558 = .ok (.iadd, 1) by decide +kernel) ?_
        obtain ⟨s85, w⟩ := w
        obtain ⟨s86, w⟩ := w
        refine X_iald (show decode cL_law 559 = .ok (.iaload, 1) by decide +kernel) (isA_eq s85) s86 ?_
        obtain ⟨s97, w⟩ := w
        refine X_vI (rc' := (n * 33 + 65)) (rs' := (n * 8198 + 16390)) (as := [.int _]) mv_L_184 (show decode cL_law 560 = .ok (.invokevirtual 184, 3) by decide +kernel) (by decide) (by omega) (by omega) rfl rfl (Nat.le_of_ble_eq_true rfl) (rcvD s97 (by decide) rfl) (kX10_open w) (fun E h hk => hk.elim) (fun r88 h87 w => ?_)
        refine X_istore (ls' := [(0, .ref _), (1, .ref _), (2, .ref _), (3, .ref _), (4, .ref _), (5, .int _), (6, .int _), (7, .int _)]) (show decode cL_law 563 = .ok (.istore 7, 2) by decide +kernel) (by decide) rfl ?_
        refine X_aload_n (j := 2) (show decode cL_law 565 = .ok (.aload_n 2, 1) by decide +kernel) rfl rfl ?_
        obtain ⟨s96, w⟩ := w
        refine X_vI (rc' := (n * 33 + 65)) (rs' := (n * 8198 + 16390)) (as := []) mv_L_168 (show decode cL_law 566 = .ok (.invokevirtual 168, 3) by decide +kernel) (by decide) (by omega) (by omega) rfl rfl (Nat.le_of_ble_eq_true rfl) (rcvD s96 (by decide) rfl) (kX10_thrown w) (fun E h hk => hk.elim) (fun r90 h89 w => ?_)
        refine X_iload (j := 6) (show decode cL_law 569 = .ok (.iload 6, 2) by decide +kernel) rfl ?_
        refine X_icmp_eq (tgt := 576) (show decode cL_law 571 = .ok (.if_icmp .eq 5, 3) by decide +kernel) (by decide) ⟨fun c91 => ?_, fun c91 => ?_⟩
        · have w := w.1 c91
          refine X_iload (j := 6) (show decode cL_law 576 = .ok (.iload 6, 2) by decide +kernel) rfl ?_
          refine X_if_ne (tgt := 593) (show decode cL_law 578 = .ok (.ifCond .ne 15, 3) by decide +kernel) (by decide) ⟨fun c92 => ?_, fun c92 => ?_⟩
          · have w := w.1 c92
            refine X_goto (tgt := 2925) (show decode cL_law 593 = .ok (.goto 2332, 3) by decide +kernel) (by decide) ?_
            refine X_iinc (j := 5) (v := _ + (nI 4)) (ls' := [(0, .ref _), (1, .ref _), (2, .ref _), (3, .ref _), (4, .ref _), (5, .int _), (6, .int _), (7, .int _)]) (show decode cL_law 2925 = .ok (.iinc 5 4, 3) by decide +kernel) rfl rfl (Nat.le_of_ble_eq_true rfl) rfl ?_
            refine X_goto (tgt := 28) (show decode cL_law 2928 = .ok (.goto (-2900), 3) by decide +kernel) (by decide) ?_
            refine X_room (rc' := (n * 33 + 33)) (rs' := (n * 8198 + 8198)) (by omega) (by omega) ?_
            refine X_pick (ls' := [(0, .ref _), (1, .ref _), (2, .ref _), (3, .ref _), (4, .ref _), (5, .int _)]) [0, 1, 2, 3, 4, 5] rfl ?_
            exact ih _ _ _ _ _ _ _ w
          · have w := w.2 c92
            refine X_aload_n (j := 3) (show decode cL_law 581 = .ok (.aload_n 3, 1) by decide +kernel) rfl rfl ?_
            refine X_iconst (v := (nI 0)) (show decode cL_law 582 = .ok (.iconst 0, 1) by decide +kernel) (by decide) ?_
            obtain ⟨s93, w⟩ := w
            obtain ⟨s94, w⟩ := w
            refine X_lald (show decode cL_law 583 = .ok (.laload, 1) by decide +kernel) (isA_eq s93) s94 ?_
            refine X_iload (j := 7) (show decode cL_law 584 = .ok (.iload 7, 2) by decide +kernel) rfl ?_
            refine X_i2l (show decode cL_law 586 = .ok (.i2l, 1) by decide +kernel) ?_
            refine X_lcmp (show decode cL_law 587 = .ok (.lcmp, 1) by decide +kernel) ?_
            refine X_if_eq (tgt := 593) (show decode cL_law 588 = .ok (.ifCond .eq 5, 3) by decide +kernel) (by decide) ⟨fun c95 => ?_, fun c95 => ?_⟩
            · have w := w.1 c95
              refine X_goto (tgt := 2925) (show decode cL_law 593 = .ok (.goto 2332, 3) by decide +kernel) (by decide) ?_
              refine X_iinc (j := 5) (v := _ + (nI 4)) (ls' := [(0, .ref _), (1, .ref _), (2, .ref _), (3, .ref _), (4, .ref _), (5, .int _), (6, .int _), (7, .int _)]) (show decode cL_law 2925 = .ok (.iinc 5 4, 3) by decide +kernel) rfl rfl (Nat.le_of_ble_eq_true rfl) rfl ?_
              refine X_goto (tgt := 28) (show decode cL_law 2928 = .ok (.goto (-2900), 3) by decide +kernel) (by decide) ?_
              refine X_room (rc' := (n * 33 + 33)) (rs' := (n * 8198 + 8198)) (by omega) (by omega) ?_
              refine X_pick (ls' := [(0, .ref _), (1, .ref _), (2, .ref _), (3, .ref _), (4, .ref _), (5, .int _)]) [0, 1, 2, 3, 4, 5] rfl ?_
              exact ih _ _ _ _ _ _ _ w
            · have w := w.2 c95
              refine X_iconst (v := (nI 0)) (show decode cL_law 591 = .ok (.iconst 0, 1) by decide +kernel) (by decide) ?_
              exact X_iret ⟨(show decode cL_law 592 = .ok (.ireturn, 1) by decide +kernel), .boolean, rfl, (by decide)⟩ ⟨_, rfl, w⟩
        · have w := w.2 c91
          refine X_iconst (v := (nI 0)) (show decode cL_law 574 = .ok (.iconst 0, 1) by decide +kernel) (by decide) ?_
          exact X_iret ⟨(show decode cL_law 575 = .ok (.ireturn, 1) by decide +kernel), .boolean, rfl, (by decide)⟩ ⟨_, rfl, w⟩
      by_cases z5 : (mI h x0 x5.toNatClampNeg &&& (nI 63)) = (nI 5)
      · have w := w.2.2.2.2.2.1 z5
        refine X_tableIn (tgt := 596) (show decode cL_law 44 = .ok (.tableswitch 2881 0 54 #[236, 292, 372, 440, 496, 552, 615, 683, 739, 795, 851, 864, 920, 976, 1032, 1095, 1151, 1219, 1287, 1367, 1435, 1448, 1473, 1529, 1585, 1648, 1711, 1767, 1823, 1879, 1935, 1991, 2066, 2079, 2092, 2167, 2180, 2193, 2237, 2281, 2294, 2307, 2321, 2386, 2452, 2465, 2478, 2534, 2590, 2648, 2692, 2736, 2780, 2824, 2837], 236) by decide +kernel) (by rw [z5]; decide) (by rw [z5]; decide) (by rw [z5] <;> rfl) (by decide) ?_
        refine X_aload_n (j := 1) (show decode cL_law 596 = .ok (.aload_n 1, 1) by decide +kernel) rfl rfl ?_
        refine X_aload_n (j := 0) (show decode cL_law 597 = .ok (.aload_n 0, 1) by decide +kernel) rfl rfl ?_
        refine X_iload (j := 5) (show decode cL_law 598 = .ok (.iload 5, 2) by decide +kernel) rfl ?_
        refine X_iconst (v := (nI 1)) (show decode cL_law 600 = .ok (.iconst 1, 1) by decide +kernel) (by decide) ?_
        refine X_iadd (show decode cL_law 601 = .ok (.iadd, 1) by decide +kernel) ?_
        obtain ⟨s98, w⟩ := w
        refine X_iald (show decode cL_law 602 = .ok (.iaload, 1) by decide +kernel) (isA_eq s9) s98 ?_
        refine X_aload_n (j := 3) (show decode cL_law 603 = .ok (.aload_n 3, 1) by decide +kernel) rfl rfl ?_
        refine X_sH (rc' := (n * 33 + 65)) (rs' := (n * 8198 + 16390)) (as := [.ref _, .int _, .ref _]) msh_L_185 (show decode cL_law 604 = .ok (.invokestatic 185, 3) by decide +kernel) (by decide) (by omega) (by omega) rfl rfl (Nat.le_of_ble_eq_true rfl) (kL_throwPoint w) (fun r100 h99 w => ?_)
        refine X_istore (ls' := [(0, .ref _), (1, .ref _), (2, .ref _), (3, .ref _), (4, .ref _), (5, .int _), (6, .int _)]) (show decode cL_law 607 = .ok (.istore 6, 2) by decide +kernel) (by decide) rfl ?_
        refine X_aload_n (j := 2) (show decode cL_law 609 = .ok (.aload_n 2, 1) by decide +kernel) rfl rfl ?_
        refine X_aload_n (j := 0) (show decode cL_law 610 = .ok (.aload_n 0, 1) by decide +kernel) rfl rfl ?_
        refine X_iload (j := 5) (show decode cL_law 611 = .ok (.iload 5, 2) by decide +kernel) rfl ?_
        refine X_iconst (v := (nI 1)) (show decode cL_law 613 = .ok (.iconst 1, 1) by decide +kernel) (by decide) ?_
        refine X_iadd (show decode cL_law 614 = .ok (.iadd, 1) by decide +kernel) ?_
        obtain ⟨s101, w⟩ := w
        obtain ⟨s102, w⟩ := w
        refine X_iald (show decode cL_law 615 = .ok (.iaload, 1) by decide +kernel) (isA_eq s101) s102 ?_
        obtain ⟨s115, w⟩ := w
        refine X_vI (rc' := (n * 33 + 65)) (rs' := (n * 8198 + 16390)) (as := [.int _]) mv_L_187 (show decode cL_law 616 = .ok (.invokevirtual 187, 3) by decide +kernel) (by decide) (by omega) (by omega) rfl rfl (Nat.le_of_ble_eq_true rfl) (rcvD s115 (by decide) rfl) (kX10_throwPoint w) (fun E h hk => hk.elim) (fun r104 h103 w => ?_)
        refine X_istore (ls' := [(0, .ref _), (1, .ref _), (2, .ref _), (3, .ref _), (4, .ref _), (5, .int _), (6, .int _), (7, .int _)]) (show decode cL_law 619 = .ok (.istore 7, 2) by decide +kernel) (by decide) rfl ?_
        refine X_aload_n (j := 2) (show decode cL_law 621 = .ok (.aload_n 2, 1) by decide +kernel) rfl rfl ?_
        obtain ⟨s114, w⟩ := w
        refine X_vI (rc' := (n * 33 + 65)) (rs' := (n * 8198 + 16390)) (as := []) mv_L_168 (show decode cL_law 622 = .ok (.invokevirtual 168, 3) by decide +kernel) (by decide) (by omega) (by omega) rfl rfl (Nat.le_of_ble_eq_true rfl) (rcvD s114 (by decide) rfl) (kX10_thrown w) (fun E h hk => hk.elim) (fun r106 h105 w => ?_)
        refine X_iload (j := 6) (show decode cL_law 625 = .ok (.iload 6, 2) by decide +kernel) rfl ?_
        refine X_icmp_eq (tgt := 632) (show decode cL_law 627 = .ok (.if_icmp .eq 5, 3) by decide +kernel) (by decide) ⟨fun c107 => ?_, fun c107 => ?_⟩
        · have w := w.1 c107
          refine X_iload (j := 6) (show decode cL_law 632 = .ok (.iload 6, 2) by decide +kernel) rfl ?_
          refine X_if_ne (tgt := 656) (show decode cL_law 634 = .ok (.ifCond .ne 22, 3) by decide +kernel) (by decide) ⟨fun c108 => ?_, fun c108 => ?_⟩
          · have w := w.1 c108
            refine X_goto (tgt := 2925) (show decode cL_law 656 = .ok (.goto 2269, 3) by decide +kernel) (by decide) ?_
            refine X_iinc (j := 5) (v := _ + (nI 4)) (ls' := [(0, .ref _), (1, .ref _), (2, .ref _), (3, .ref _), (4, .ref _), (5, .int _), (6, .int _), (7, .int _)]) (show decode cL_law 2925 = .ok (.iinc 5 4, 3) by decide +kernel) rfl rfl (Nat.le_of_ble_eq_true rfl) rfl ?_
            refine X_goto (tgt := 28) (show decode cL_law 2928 = .ok (.goto (-2900), 3) by decide +kernel) (by decide) ?_
            refine X_room (rc' := (n * 33 + 33)) (rs' := (n * 8198 + 8198)) (by omega) (by omega) ?_
            refine X_pick (ls' := [(0, .ref _), (1, .ref _), (2, .ref _), (3, .ref _), (4, .ref _), (5, .int _)]) [0, 1, 2, 3, 4, 5] rfl ?_
            exact ih _ _ _ _ _ _ _ w
          · have w := w.2 c108
            refine X_aload_n (j := 3) (show decode cL_law 637 = .ok (.aload_n 3, 1) by decide +kernel) rfl rfl ?_
            refine X_iconst (v := (nI 0)) (show decode cL_law 638 = .ok (.iconst 0, 1) by decide +kernel) (by decide) ?_
            obtain ⟨s109, w⟩ := w
            obtain ⟨s110, w⟩ := w
            refine X_lald (show decode cL_law 639 = .ok (.laload, 1) by decide +kernel) (isA_eq s109) s110 ?_
            refine X_iload (j := 7) (show decode cL_law 640 = .ok (.iload 7, 2) by decide +kernel) rfl ?_
            refine X_if_eq (tgt := 649) (show decode cL_law 642 = .ok (.ifCond .eq 7, 3) by decide +kernel) (by decide) ⟨fun c111 => ?_, fun c111 => ?_⟩
            · have w := w.1 c111
              refine X_lconst (v := 0) (show decode cL_law 649 = .ok (.lconst 0, 1) by decide +kernel) (by decide) ?_
              refine X_lcmp (show decode cL_law 650 = .ok (.lcmp, 1) by decide +kernel) ?_
              refine X_if_eq (tgt := 656) (show decode cL_law 651 = .ok (.ifCond .eq 5, 3) by decide +kernel) (by decide) ⟨fun c112 => ?_, fun c112 => ?_⟩
              · have w := w.1 c112
                refine X_goto (tgt := 2925) (show decode cL_law 656 = .ok (.goto 2269, 3) by decide +kernel) (by decide) ?_
                refine X_iinc (j := 5) (v := _ + (nI 4)) (ls' := [(0, .ref _), (1, .ref _), (2, .ref _), (3, .ref _), (4, .ref _), (5, .int _), (6, .int _), (7, .int _)]) (show decode cL_law 2925 = .ok (.iinc 5 4, 3) by decide +kernel) rfl rfl (Nat.le_of_ble_eq_true rfl) rfl ?_
                refine X_goto (tgt := 28) (show decode cL_law 2928 = .ok (.goto (-2900), 3) by decide +kernel) (by decide) ?_
                refine X_room (rc' := (n * 33 + 33)) (rs' := (n * 8198 + 8198)) (by omega) (by omega) ?_
                refine X_pick (ls' := [(0, .ref _), (1, .ref _), (2, .ref _), (3, .ref _), (4, .ref _), (5, .int _)]) [0, 1, 2, 3, 4, 5] rfl ?_
                exact ih _ _ _ _ _ _ _ w
              · have w := w.2 c112
                refine X_iconst (v := (nI 0)) (show decode cL_law 654 = .ok (.iconst 0, 1) by decide +kernel) (by decide) ?_
                exact X_iret ⟨(show decode cL_law 655 = .ok (.ireturn, 1) by decide +kernel), .boolean, rfl, (by decide)⟩ ⟨_, rfl, w⟩
            · have w := w.2 c111
              refine X_lconst (v := 1) (show decode cL_law 645 = .ok (.lconst 1, 1) by decide +kernel) (by decide) ?_
              refine X_goto (tgt := 650) (show decode cL_law 646 = .ok (.goto 4, 3) by decide +kernel) (by decide) ?_
              refine X_lcmp (show decode cL_law 650 = .ok (.lcmp, 1) by decide +kernel) ?_
              refine X_if_eq (tgt := 656) (show decode cL_law 651 = .ok (.ifCond .eq 5, 3) by decide +kernel) (by decide) ⟨fun c113 => ?_, fun c113 => ?_⟩
              · have w := w.1 c113
                refine X_goto (tgt := 2925) (show decode cL_law 656 = .ok (.goto 2269, 3) by decide +kernel) (by decide) ?_
                refine X_iinc (j := 5) (v := _ + (nI 4)) (ls' := [(0, .ref _), (1, .ref _), (2, .ref _), (3, .ref _), (4, .ref _), (5, .int _), (6, .int _), (7, .int _)]) (show decode cL_law 2925 = .ok (.iinc 5 4, 3) by decide +kernel) rfl rfl (Nat.le_of_ble_eq_true rfl) rfl ?_
                refine X_goto (tgt := 28) (show decode cL_law 2928 = .ok (.goto (-2900), 3) by decide +kernel) (by decide) ?_
                refine X_room (rc' := (n * 33 + 33)) (rs' := (n * 8198 + 8198)) (by omega) (by omega) ?_
                refine X_pick (ls' := [(0, .ref _), (1, .ref _), (2, .ref _), (3, .ref _), (4, .ref _), (5, .int _)]) [0, 1, 2, 3, 4, 5] rfl ?_
                exact ih _ _ _ _ _ _ _ w
              · have w := w.2 c113
                refine X_iconst (v := (nI 0)) (show decode cL_law 654 = .ok (.iconst 0, 1) by decide +kernel) (by decide) ?_
                exact X_iret ⟨(show decode cL_law 655 = .ok (.ireturn, 1) by decide +kernel), .boolean, rfl, (by decide)⟩ ⟨_, rfl, w⟩
        · have w := w.2 c107
          refine X_iconst (v := (nI 0)) (show decode cL_law 630 = .ok (.iconst 0, 1) by decide +kernel) (by decide) ?_
          exact X_iret ⟨(show decode cL_law 631 = .ok (.ireturn, 1) by decide +kernel), .boolean, rfl, (by decide)⟩ ⟨_, rfl, w⟩
      by_cases z6 : (mI h x0 x5.toNatClampNeg &&& (nI 63)) = (nI 6)
      · have w := w.2.2.2.2.2.2.1 z6
        refine X_tableIn (tgt := 659) (show decode cL_law 44 = .ok (.tableswitch 2881 0 54 #[236, 292, 372, 440, 496, 552, 615, 683, 739, 795, 851, 864, 920, 976, 1032, 1095, 1151, 1219, 1287, 1367, 1435, 1448, 1473, 1529, 1585, 1648, 1711, 1767, 1823, 1879, 1935, 1991, 2066, 2079, 2092, 2167, 2180, 2193, 2237, 2281, 2294, 2307, 2321, 2386, 2452, 2465, 2478, 2534, 2590, 2648, 2692, 2736, 2780, 2824, 2837], 236) by decide +kernel) (by rw [z6]; decide) (by rw [z6]; decide) (by rw [z6] <;> rfl) (by decide) ?_
        refine X_aload_n (j := 1) (show decode cL_law 659 = .ok (.aload_n 1, 1) by decide +kernel) rfl rfl ?_
        refine X_aload_n (j := 0) (show decode cL_law 660 = .ok (.aload_n 0, 1) by decide +kernel) rfl rfl ?_
        refine X_iload (j := 5) (show decode cL_law 661 = .ok (.iload 5, 2) by decide +kernel) rfl ?_
        refine X_iconst (v := (nI 1)) (show decode cL_law 663 = .ok (.iconst 1, 1) by decide +kernel) (by decide) ?_
        refine X_iadd (show decode cL_law 664 = .ok (.iadd, 1) by decide +kernel) ?_
        obtain ⟨s116, w⟩ := w
        refine X_iald (show decode cL_law 665 = .ok (.iaload, 1) by decide +kernel) (isA_eq s9) s116 ?_
        refine X_aload_n (j := 0) (show decode cL_law 666 = .ok (.aload_n 0, 1) by decide +kernel) rfl rfl ?_
        refine X_iload (j := 5) (show decode cL_law 667 = .ok (.iload 5, 2) by decide +kernel) rfl ?_
        refine X_iconst (v := (nI 2)) (show decode cL_law 669 = .ok (.iconst 2, 1) by decide +kernel) (by decide) ?_
        refine X_iadd (show decode cL_law 670 = .ok (.iadd, 1) by decide +kernel) ?_
        obtain ⟨s117, w⟩ := w
        refine X_iald (show decode cL_law 671 = .ok (.iaload, 1) by decide +kernel) (isA_eq s9) s117 ?_
        refine X_aload_n (j := 3) (show decode cL_law 672 = .ok (.aload_n 3, 1) by decide +kernel) rfl rfl ?_
        refine X_sH (rc' := (n * 33 + 65)) (rs' := (n * 8198 + 16390)) (as := [.ref _, .int _, .int _, .ref _]) msh_L_188 (show decode cL_law 673 = .ok (.invokestatic 188, 3) by decide +kernel) (by decide) (by omega) (by omega) rfl rfl (Nat.le_of_ble_eq_true rfl) (kL_addTrain w) (fun r119 h118 w => ?_)
        refine X_istore (ls' := [(0, .ref _), (1, .ref _), (2, .ref _), (3, .ref _), (4, .ref _), (5, .int _), (6, .int _)]) (show decode cL_law 676 = .ok (.istore 6, 2) by decide +kernel) (by decide) rfl ?_
        refine X_aload_n (j := 2) (show decode cL_law 678 = .ok (.aload_n 2, 1) by decide +kernel) rfl rfl ?_
        refine X_aload_n (j := 0) (show decode cL_law 679 = .ok (.aload_n 0, 1) by decide +kernel) rfl rfl ?_
        refine X_iload (j := 5) (show decode cL_law 680 = .ok (.iload 5, 2) by decide +kernel) rfl ?_
        refine X_iconst (v := (nI 1)) (show decode cL_law 682 = .ok (.iconst 1, 1) by decide +kernel) (by decide) ?_
        refine X_iadd (show decode cL_law 683 = .ok (.iadd, 1) by decide +kernel) ?_
        obtain ⟨s120, w⟩ := w
        obtain ⟨s121, w⟩ := w
        refine X_iald (show decode cL_law 684 = .ok (.iaload, 1) by decide +kernel) (isA_eq s120) s121 ?_
        refine X_aload_n (j := 0) (show decode cL_law 685 = .ok (.aload_n 0, 1) by decide +kernel) rfl rfl ?_
        refine X_iload (j := 5) (show decode cL_law 686 = .ok (.iload 5, 2) by decide +kernel) rfl ?_
        refine X_iconst (v := (nI 2)) (show decode cL_law 688 = .ok (.iconst 2, 1) by decide +kernel) (by decide) ?_
        refine X_iadd (show decode cL_law 689 = .ok (.iadd, 1) by decide +kernel) ?_
        obtain ⟨s122, w⟩ := w
        refine X_iald (show decode cL_law 690 = .ok (.iaload, 1) by decide +kernel) (isA_eq s120) s122 ?_
        obtain ⟨s133, w⟩ := w
        refine X_vI (rc' := (n * 33 + 65)) (rs' := (n * 8198 + 16390)) (as := [.int _, .int _]) mv_L_190 (show decode cL_law 691 = .ok (.invokevirtual 190, 3) by decide +kernel) (by decide) (by omega) (by omega) rfl rfl (Nat.le_of_ble_eq_true rfl) (rcvD s133 (by decide) rfl) (kX10_addTrain w) (fun E h hk => hk.elim) (fun r124 h123 w => ?_)
        refine X_istore (ls' := [(0, .ref _), (1, .ref _), (2, .ref _), (3, .ref _), (4, .ref _), (5, .int _), (6, .int _), (7, .int _)]) (show decode cL_law 694 = .ok (.istore 7, 2) by decide +kernel) (by decide) rfl ?_
        refine X_aload_n (j := 2) (show decode cL_law 696 = .ok (.aload_n 2, 1) by decide +kernel) rfl rfl ?_
        obtain ⟨s132, w⟩ := w
        refine X_vI (rc' := (n * 33 + 65)) (rs' := (n * 8198 + 16390)) (as := []) mv_L_168 (show decode cL_law 697 = .ok (.invokevirtual 168, 3) by decide +kernel) (by decide) (by omega) (by omega) rfl rfl (Nat.le_of_ble_eq_true rfl) (rcvD s132 (by decide) rfl) (kX10_thrown w) (fun E h hk => hk.elim) (fun r126 h125 w => ?_)
        refine X_iload (j := 6) (show decode cL_law 700 = .ok (.iload 6, 2) by decide +kernel) rfl ?_
        refine X_icmp_eq (tgt := 707) (show decode cL_law 702 = .ok (.if_icmp .eq 5, 3) by decide +kernel) (by decide) ⟨fun c127 => ?_, fun c127 => ?_⟩
        · have w := w.1 c127
          refine X_iload (j := 6) (show decode cL_law 707 = .ok (.iload 6, 2) by decide +kernel) rfl ?_
          refine X_if_ne (tgt := 724) (show decode cL_law 709 = .ok (.ifCond .ne 15, 3) by decide +kernel) (by decide) ⟨fun c128 => ?_, fun c128 => ?_⟩
          · have w := w.1 c128
            refine X_goto (tgt := 2925) (show decode cL_law 724 = .ok (.goto 2201, 3) by decide +kernel) (by decide) ?_
            refine X_iinc (j := 5) (v := _ + (nI 4)) (ls' := [(0, .ref _), (1, .ref _), (2, .ref _), (3, .ref _), (4, .ref _), (5, .int _), (6, .int _), (7, .int _)]) (show decode cL_law 2925 = .ok (.iinc 5 4, 3) by decide +kernel) rfl rfl (Nat.le_of_ble_eq_true rfl) rfl ?_
            refine X_goto (tgt := 28) (show decode cL_law 2928 = .ok (.goto (-2900), 3) by decide +kernel) (by decide) ?_
            refine X_room (rc' := (n * 33 + 33)) (rs' := (n * 8198 + 8198)) (by omega) (by omega) ?_
            refine X_pick (ls' := [(0, .ref _), (1, .ref _), (2, .ref _), (3, .ref _), (4, .ref _), (5, .int _)]) [0, 1, 2, 3, 4, 5] rfl ?_
            exact ih _ _ _ _ _ _ _ w
          · have w := w.2 c128
            refine X_aload_n (j := 3) (show decode cL_law 712 = .ok (.aload_n 3, 1) by decide +kernel) rfl rfl ?_
            refine X_iconst (v := (nI 0)) (show decode cL_law 713 = .ok (.iconst 0, 1) by decide +kernel) (by decide) ?_
            obtain ⟨s129, w⟩ := w
            obtain ⟨s130, w⟩ := w
            refine X_lald (show decode cL_law 714 = .ok (.laload, 1) by decide +kernel) (isA_eq s129) s130 ?_
            refine X_iload (j := 7) (show decode cL_law 715 = .ok (.iload 7, 2) by decide +kernel) rfl ?_
            refine X_i2l (show decode cL_law 717 = .ok (.i2l, 1) by decide +kernel) ?_
            refine X_lcmp (show decode cL_law 718 = .ok (.lcmp, 1) by decide +kernel) ?_
            refine X_if_eq (tgt := 724) (show decode cL_law 719 = .ok (.ifCond .eq 5, 3) by decide +kernel) (by decide) ⟨fun c131 => ?_, fun c131 => ?_⟩
            · have w := w.1 c131
              refine X_goto (tgt := 2925) (show decode cL_law 724 = .ok (.goto 2201, 3) by decide +kernel) (by decide) ?_
              refine X_iinc (j := 5) (v := _ + (nI 4)) (ls' := [(0, .ref _), (1, .ref _), (2, .ref _), (3, .ref _), (4, .ref _), (5, .int _), (6, .int _), (7, .int _)]) (show decode cL_law 2925 = .ok (.iinc 5 4, 3) by decide +kernel) rfl rfl (Nat.le_of_ble_eq_true rfl) rfl ?_
              refine X_goto (tgt := 28) (show decode cL_law 2928 = .ok (.goto (-2900), 3) by decide +kernel) (by decide) ?_
              refine X_room (rc' := (n * 33 + 33)) (rs' := (n * 8198 + 8198)) (by omega) (by omega) ?_
              refine X_pick (ls' := [(0, .ref _), (1, .ref _), (2, .ref _), (3, .ref _), (4, .ref _), (5, .int _)]) [0, 1, 2, 3, 4, 5] rfl ?_
              exact ih _ _ _ _ _ _ _ w
            · have w := w.2 c131
              refine X_iconst (v := (nI 0)) (show decode cL_law 722 = .ok (.iconst 0, 1) by decide +kernel) (by decide) ?_
              exact X_iret ⟨(show decode cL_law 723 = .ok (.ireturn, 1) by decide +kernel), .boolean, rfl, (by decide)⟩ ⟨_, rfl, w⟩
        · have w := w.2 c127
          refine X_iconst (v := (nI 0)) (show decode cL_law 705 = .ok (.iconst 0, 1) by decide +kernel) (by decide) ?_
          exact X_iret ⟨(show decode cL_law 706 = .ok (.ireturn, 1) by decide +kernel), .boolean, rfl, (by decide)⟩ ⟨_, rfl, w⟩
      by_cases z7 : (mI h x0 x5.toNatClampNeg &&& (nI 63)) = (nI 7)
      · have w := w.2.2.2.2.2.2.2.1 z7
        refine X_tableIn (tgt := 727) (show decode cL_law 44 = .ok (.tableswitch 2881 0 54 #[236, 292, 372, 440, 496, 552, 615, 683, 739, 795, 851, 864, 920, 976, 1032, 1095, 1151, 1219, 1287, 1367, 1435, 1448, 1473, 1529, 1585, 1648, 1711, 1767, 1823, 1879, 1935, 1991, 2066, 2079, 2092, 2167, 2180, 2193, 2237, 2281, 2294, 2307, 2321, 2386, 2452, 2465, 2478, 2534, 2590, 2648, 2692, 2736, 2780, 2824, 2837], 236) by decide +kernel) (by rw [z7]; decide) (by rw [z7]; decide) (by rw [z7] <;> rfl) (by decide) ?_
        refine X_aload_n (j := 1) (show decode cL_law 727 = .ok (.aload_n 1, 1) by decide +kernel) rfl rfl ?_
        refine X_aload_n (j := 0) (show decode cL_law 728 = .ok (.aload_n 0, 1) by decide +kernel) rfl rfl ?_
        refine X_iload (j := 5) (show decode cL_law 729 = .ok (.iload 5, 2) by decide +kernel) rfl ?_
        refine X_iconst (v := (nI 1)) (show decode cL_law 731 = .ok (.iconst 1, 1) by decide +kernel) (by decide) ?_
        refine X_iadd (show decode cL_law 732 = .ok (.iadd, 1) by decide +kernel) ?_
        obtain ⟨s134, w⟩ := w
        refine X_iald (show decode cL_law 733 = .ok (.iaload, 1) by decide +kernel) (isA_eq s9) s134 ?_
        refine X_aload_n (j := 3) (show decode cL_law 734 = .ok (.aload_n 3, 1) by decide +kernel) rfl rfl ?_
        refine X_sH (rc' := (n * 33 + 65)) (rs' := (n * 8198 + 16390)) (as := [.ref _, .int _, .ref _]) msh_L_191 (show decode cL_law 735 = .ok (.invokestatic 191, 3) by decide +kernel) (by decide) (by omega) (by omega) rfl rfl (Nat.le_of_ble_eq_true rfl) (kL_setRoute w) (fun r136 h135 w => ?_)
        refine X_istore (ls' := [(0, .ref _), (1, .ref _), (2, .ref _), (3, .ref _), (4, .ref _), (5, .int _), (6, .int _)]) (show decode cL_law 738 = .ok (.istore 6, 2) by decide +kernel) (by decide) rfl ?_
        refine X_aload_n (j := 2) (show decode cL_law 740 = .ok (.aload_n 2, 1) by decide +kernel) rfl rfl ?_
        refine X_aload_n (j := 0) (show decode cL_law 741 = .ok (.aload_n 0, 1) by decide +kernel) rfl rfl ?_
        refine X_iload (j := 5) (show decode cL_law 742 = .ok (.iload 5, 2) by decide +kernel) rfl ?_
        refine X_iconst (v := (nI 1)) (show decode cL_law 744 = .ok (.iconst 1, 1) by decide +kernel) (by decide) ?_
        refine X_iadd (show decode cL_law 745 = .ok (.iadd, 1) by decide +kernel) ?_
        obtain ⟨s137, w⟩ := w
        obtain ⟨s138, w⟩ := w
        refine X_iald (show decode cL_law 746 = .ok (.iaload, 1) by decide +kernel) (isA_eq s137) s138 ?_
        obtain ⟨s149, w⟩ := w
        refine X_vI (rc' := (n * 33 + 65)) (rs' := (n * 8198 + 16390)) (as := [.int _]) mv_L_193 (show decode cL_law 747 = .ok (.invokevirtual 193, 3) by decide +kernel) (by decide) (by omega) (by omega) rfl rfl (Nat.le_of_ble_eq_true rfl) (rcvD s149 (by decide) rfl) (kX10_setRoute w) (fun E h hk => hk.elim) (fun r140 h139 w => ?_)
        refine X_istore (ls' := [(0, .ref _), (1, .ref _), (2, .ref _), (3, .ref _), (4, .ref _), (5, .int _), (6, .int _), (7, .int _)]) (show decode cL_law 750 = .ok (.istore 7, 2) by decide +kernel) (by decide) rfl ?_
        refine X_aload_n (j := 2) (show decode cL_law 752 = .ok (.aload_n 2, 1) by decide +kernel) rfl rfl ?_
        obtain ⟨s148, w⟩ := w
        refine X_vI (rc' := (n * 33 + 65)) (rs' := (n * 8198 + 16390)) (as := []) mv_L_168 (show decode cL_law 753 = .ok (.invokevirtual 168, 3) by decide +kernel) (by decide) (by omega) (by omega) rfl rfl (Nat.le_of_ble_eq_true rfl) (rcvD s148 (by decide) rfl) (kX10_thrown w) (fun E h hk => hk.elim) (fun r142 h141 w => ?_)
        refine X_iload (j := 6) (show decode cL_law 756 = .ok (.iload 6, 2) by decide +kernel) rfl ?_
        refine X_icmp_eq (tgt := 763) (show decode cL_law 758 = .ok (.if_icmp .eq 5, 3) by decide +kernel) (by decide) ⟨fun c143 => ?_, fun c143 => ?_⟩
        · have w := w.1 c143
          refine X_iload (j := 6) (show decode cL_law 763 = .ok (.iload 6, 2) by decide +kernel) rfl ?_
          refine X_if_ne (tgt := 780) (show decode cL_law 765 = .ok (.ifCond .ne 15, 3) by decide +kernel) (by decide) ⟨fun c144 => ?_, fun c144 => ?_⟩
          · have w := w.1 c144
            refine X_goto (tgt := 2925) (show decode cL_law 780 = .ok (.goto 2145, 3) by decide +kernel) (by decide) ?_
            refine X_iinc (j := 5) (v := _ + (nI 4)) (ls' := [(0, .ref _), (1, .ref _), (2, .ref _), (3, .ref _), (4, .ref _), (5, .int _), (6, .int _), (7, .int _)]) (show decode cL_law 2925 = .ok (.iinc 5 4, 3) by decide +kernel) rfl rfl (Nat.le_of_ble_eq_true rfl) rfl ?_
            refine X_goto (tgt := 28) (show decode cL_law 2928 = .ok (.goto (-2900), 3) by decide +kernel) (by decide) ?_
            refine X_room (rc' := (n * 33 + 33)) (rs' := (n * 8198 + 8198)) (by omega) (by omega) ?_
            refine X_pick (ls' := [(0, .ref _), (1, .ref _), (2, .ref _), (3, .ref _), (4, .ref _), (5, .int _)]) [0, 1, 2, 3, 4, 5] rfl ?_
            exact ih _ _ _ _ _ _ _ w
          · have w := w.2 c144
            refine X_aload_n (j := 3) (show decode cL_law 768 = .ok (.aload_n 3, 1) by decide +kernel) rfl rfl ?_
            refine X_iconst (v := (nI 0)) (show decode cL_law 769 = .ok (.iconst 0, 1) by decide +kernel) (by decide) ?_
            obtain ⟨s145, w⟩ := w
            obtain ⟨s146, w⟩ := w
            refine X_lald (show decode cL_law 770 = .ok (.laload, 1) by decide +kernel) (isA_eq s145) s146 ?_
            refine X_iload (j := 7) (show decode cL_law 771 = .ok (.iload 7, 2) by decide +kernel) rfl ?_
            refine X_i2l (show decode cL_law 773 = .ok (.i2l, 1) by decide +kernel) ?_
            refine X_lcmp (show decode cL_law 774 = .ok (.lcmp, 1) by decide +kernel) ?_
            refine X_if_eq (tgt := 780) (show decode cL_law 775 = .ok (.ifCond .eq 5, 3) by decide +kernel) (by decide) ⟨fun c147 => ?_, fun c147 => ?_⟩
            · have w := w.1 c147
              refine X_goto (tgt := 2925) (show decode cL_law 780 = .ok (.goto 2145, 3) by decide +kernel) (by decide) ?_
              refine X_iinc (j := 5) (v := _ + (nI 4)) (ls' := [(0, .ref _), (1, .ref _), (2, .ref _), (3, .ref _), (4, .ref _), (5, .int _), (6, .int _), (7, .int _)]) (show decode cL_law 2925 = .ok (.iinc 5 4, 3) by decide +kernel) rfl rfl (Nat.le_of_ble_eq_true rfl) rfl ?_
              refine X_goto (tgt := 28) (show decode cL_law 2928 = .ok (.goto (-2900), 3) by decide +kernel) (by decide) ?_
              refine X_room (rc' := (n * 33 + 33)) (rs' := (n * 8198 + 8198)) (by omega) (by omega) ?_
              refine X_pick (ls' := [(0, .ref _), (1, .ref _), (2, .ref _), (3, .ref _), (4, .ref _), (5, .int _)]) [0, 1, 2, 3, 4, 5] rfl ?_
              exact ih _ _ _ _ _ _ _ w
            · have w := w.2 c147
              refine X_iconst (v := (nI 0)) (show decode cL_law 778 = .ok (.iconst 0, 1) by decide +kernel) (by decide) ?_
              exact X_iret ⟨(show decode cL_law 779 = .ok (.ireturn, 1) by decide +kernel), .boolean, rfl, (by decide)⟩ ⟨_, rfl, w⟩
        · have w := w.2 c143
          refine X_iconst (v := (nI 0)) (show decode cL_law 761 = .ok (.iconst 0, 1) by decide +kernel) (by decide) ?_
          exact X_iret ⟨(show decode cL_law 762 = .ok (.ireturn, 1) by decide +kernel), .boolean, rfl, (by decide)⟩ ⟨_, rfl, w⟩
      by_cases z8 : (mI h x0 x5.toNatClampNeg &&& (nI 63)) = (nI 8)
      · have w := w.2.2.2.2.2.2.2.2.1 z8
        refine X_tableIn (tgt := 783) (show decode cL_law 44 = .ok (.tableswitch 2881 0 54 #[236, 292, 372, 440, 496, 552, 615, 683, 739, 795, 851, 864, 920, 976, 1032, 1095, 1151, 1219, 1287, 1367, 1435, 1448, 1473, 1529, 1585, 1648, 1711, 1767, 1823, 1879, 1935, 1991, 2066, 2079, 2092, 2167, 2180, 2193, 2237, 2281, 2294, 2307, 2321, 2386, 2452, 2465, 2478, 2534, 2590, 2648, 2692, 2736, 2780, 2824, 2837], 236) by decide +kernel) (by rw [z8]; decide) (by rw [z8]; decide) (by rw [z8] <;> rfl) (by decide) ?_
        refine X_aload_n (j := 1) (show decode cL_law 783 = .ok (.aload_n 1, 1) by decide +kernel) rfl rfl ?_
        refine X_aload_n (j := 0) (show decode cL_law 784 = .ok (.aload_n 0, 1) by decide +kernel) rfl rfl ?_
        refine X_iload (j := 5) (show decode cL_law 785 = .ok (.iload 5, 2) by decide +kernel) rfl ?_
        refine X_iconst (v := (nI 1)) (show decode cL_law 787 = .ok (.iconst 1, 1) by decide +kernel) (by decide) ?_
        refine X_iadd (show decode cL_law 788 = .ok (.iadd, 1) by decide +kernel) ?_
        obtain ⟨s150, w⟩ := w
        refine X_iald (show decode cL_law 789 = .ok (.iaload, 1) by decide +kernel) (isA_eq s9) s150 ?_
        refine X_aload_n (j := 3) (show decode cL_law 790 = .ok (.aload_n 3, 1) by decide +kernel) rfl rfl ?_
        refine X_sH (rc' := (n * 33 + 65)) (rs' := (n * 8198 + 16390)) (as := [.ref _, .int _, .ref _]) msh_L_194 (show decode cL_law 791 = .ok (.invokestatic 194, 3) by decide +kernel) (by decide) (by omega) (by omega) rfl rfl (Nat.le_of_ble_eq_true rfl) (kL_releaseRoute w) (fun r152 h151 w => ?_)
        refine X_istore (ls' := [(0, .ref _), (1, .ref _), (2, .ref _), (3, .ref _), (4, .ref _), (5, .int _), (6, .int _)]) (show decode cL_law 794 = .ok (.istore 6, 2) by decide +kernel) (by decide) rfl ?_
        refine X_aload_n (j := 2) (show decode cL_law 796 = .ok (.aload_n 2, 1) by decide +kernel) rfl rfl ?_
        refine X_aload_n (j := 0) (show decode cL_law 797 = .ok (.aload_n 0, 1) by decide +kernel) rfl rfl ?_
        refine X_iload (j := 5) (show decode cL_law 798 = .ok (.iload 5, 2) by decide +kernel) rfl ?_
        refine X_iconst (v := (nI 1)) (show decode cL_law 800 = .ok (.iconst 1, 1) by decide +kernel) (by decide) ?_
        refine X_iadd (show decode cL_law 801 = .ok (.iadd, 1) by decide +kernel) ?_
        obtain ⟨s153, w⟩ := w
        obtain ⟨s154, w⟩ := w
        refine X_iald (show decode cL_law 802 = .ok (.iaload, 1) by decide +kernel) (isA_eq s153) s154 ?_
        obtain ⟨s165, w⟩ := w
        refine X_vI (rc' := (n * 33 + 65)) (rs' := (n * 8198 + 16390)) (as := [.int _]) mv_L_196 (show decode cL_law 803 = .ok (.invokevirtual 196, 3) by decide +kernel) (by decide) (by omega) (by omega) rfl rfl (Nat.le_of_ble_eq_true rfl) (rcvD s165 (by decide) rfl) (kX10_releaseRoute w) (fun E h hk => hk.elim) (fun r156 h155 w => ?_)
        refine X_istore (ls' := [(0, .ref _), (1, .ref _), (2, .ref _), (3, .ref _), (4, .ref _), (5, .int _), (6, .int _), (7, .int _)]) (show decode cL_law 806 = .ok (.istore 7, 2) by decide +kernel) (by decide) rfl ?_
        refine X_aload_n (j := 2) (show decode cL_law 808 = .ok (.aload_n 2, 1) by decide +kernel) rfl rfl ?_
        obtain ⟨s164, w⟩ := w
        refine X_vI (rc' := (n * 33 + 65)) (rs' := (n * 8198 + 16390)) (as := []) mv_L_168 (show decode cL_law 809 = .ok (.invokevirtual 168, 3) by decide +kernel) (by decide) (by omega) (by omega) rfl rfl (Nat.le_of_ble_eq_true rfl) (rcvD s164 (by decide) rfl) (kX10_thrown w) (fun E h hk => hk.elim) (fun r158 h157 w => ?_)
        refine X_iload (j := 6) (show decode cL_law 812 = .ok (.iload 6, 2) by decide +kernel) rfl ?_
        refine X_icmp_eq (tgt := 819) (show decode cL_law 814 = .ok (.if_icmp .eq 5, 3) by decide +kernel) (by decide) ⟨fun c159 => ?_, fun c159 => ?_⟩
        · have w := w.1 c159
          refine X_iload (j := 6) (show decode cL_law 819 = .ok (.iload 6, 2) by decide +kernel) rfl ?_
          refine X_if_ne (tgt := 836) (show decode cL_law 821 = .ok (.ifCond .ne 15, 3) by decide +kernel) (by decide) ⟨fun c160 => ?_, fun c160 => ?_⟩
          · have w := w.1 c160
            refine X_goto (tgt := 2925) (show decode cL_law 836 = .ok (.goto 2089, 3) by decide +kernel) (by decide) ?_
            refine X_iinc (j := 5) (v := _ + (nI 4)) (ls' := [(0, .ref _), (1, .ref _), (2, .ref _), (3, .ref _), (4, .ref _), (5, .int _), (6, .int _), (7, .int _)]) (show decode cL_law 2925 = .ok (.iinc 5 4, 3) by decide +kernel) rfl rfl (Nat.le_of_ble_eq_true rfl) rfl ?_
            refine X_goto (tgt := 28) (show decode cL_law 2928 = .ok (.goto (-2900), 3) by decide +kernel) (by decide) ?_
            refine X_room (rc' := (n * 33 + 33)) (rs' := (n * 8198 + 8198)) (by omega) (by omega) ?_
            refine X_pick (ls' := [(0, .ref _), (1, .ref _), (2, .ref _), (3, .ref _), (4, .ref _), (5, .int _)]) [0, 1, 2, 3, 4, 5] rfl ?_
            exact ih _ _ _ _ _ _ _ w
          · have w := w.2 c160
            refine X_aload_n (j := 3) (show decode cL_law 824 = .ok (.aload_n 3, 1) by decide +kernel) rfl rfl ?_
            refine X_iconst (v := (nI 0)) (show decode cL_law 825 = .ok (.iconst 0, 1) by decide +kernel) (by decide) ?_
            obtain ⟨s161, w⟩ := w
            obtain ⟨s162, w⟩ := w
            refine X_lald (show decode cL_law 826 = .ok (.laload, 1) by decide +kernel) (isA_eq s161) s162 ?_
            refine X_iload (j := 7) (show decode cL_law 827 = .ok (.iload 7, 2) by decide +kernel) rfl ?_
            refine X_i2l (show decode cL_law 829 = .ok (.i2l, 1) by decide +kernel) ?_
            refine X_lcmp (show decode cL_law 830 = .ok (.lcmp, 1) by decide +kernel) ?_
            refine X_if_eq (tgt := 836) (show decode cL_law 831 = .ok (.ifCond .eq 5, 3) by decide +kernel) (by decide) ⟨fun c163 => ?_, fun c163 => ?_⟩
            · have w := w.1 c163
              refine X_goto (tgt := 2925) (show decode cL_law 836 = .ok (.goto 2089, 3) by decide +kernel) (by decide) ?_
              refine X_iinc (j := 5) (v := _ + (nI 4)) (ls' := [(0, .ref _), (1, .ref _), (2, .ref _), (3, .ref _), (4, .ref _), (5, .int _), (6, .int _), (7, .int _)]) (show decode cL_law 2925 = .ok (.iinc 5 4, 3) by decide +kernel) rfl rfl (Nat.le_of_ble_eq_true rfl) rfl ?_
              refine X_goto (tgt := 28) (show decode cL_law 2928 = .ok (.goto (-2900), 3) by decide +kernel) (by decide) ?_
              refine X_room (rc' := (n * 33 + 33)) (rs' := (n * 8198 + 8198)) (by omega) (by omega) ?_
              refine X_pick (ls' := [(0, .ref _), (1, .ref _), (2, .ref _), (3, .ref _), (4, .ref _), (5, .int _)]) [0, 1, 2, 3, 4, 5] rfl ?_
              exact ih _ _ _ _ _ _ _ w
            · have w := w.2 c163
              refine X_iconst (v := (nI 0)) (show decode cL_law 834 = .ok (.iconst 0, 1) by decide +kernel) (by decide) ?_
              exact X_iret ⟨(show decode cL_law 835 = .ok (.ireturn, 1) by decide +kernel), .boolean, rfl, (by decide)⟩ ⟨_, rfl, w⟩
        · have w := w.2 c159
          refine X_iconst (v := (nI 0)) (show decode cL_law 817 = .ok (.iconst 0, 1) by decide +kernel) (by decide) ?_
          exact X_iret ⟨(show decode cL_law 818 = .ok (.ireturn, 1) by decide +kernel), .boolean, rfl, (by decide)⟩ ⟨_, rfl, w⟩
      by_cases z9 : (mI h x0 x5.toNatClampNeg &&& (nI 63)) = (nI 9)
      · have w := w.2.2.2.2.2.2.2.2.2.1 z9
        refine X_tableIn (tgt := 839) (show decode cL_law 44 = .ok (.tableswitch 2881 0 54 #[236, 292, 372, 440, 496, 552, 615, 683, 739, 795, 851, 864, 920, 976, 1032, 1095, 1151, 1219, 1287, 1367, 1435, 1448, 1473, 1529, 1585, 1648, 1711, 1767, 1823, 1879, 1935, 1991, 2066, 2079, 2092, 2167, 2180, 2193, 2237, 2281, 2294, 2307, 2321, 2386, 2452, 2465, 2478, 2534, 2590, 2648, 2692, 2736, 2780, 2824, 2837], 236) by decide +kernel) (by rw [z9]; decide) (by rw [z9]; decide) (by rw [z9] <;> rfl) (by decide) ?_
        refine X_aload_n (j := 1) (show decode cL_law 839 = .ok (.aload_n 1, 1) by decide +kernel) rfl rfl ?_
        refine X_aload_n (j := 0) (show decode cL_law 840 = .ok (.aload_n 0, 1) by decide +kernel) rfl rfl ?_
        refine X_iload (j := 5) (show decode cL_law 841 = .ok (.iload 5, 2) by decide +kernel) rfl ?_
        refine X_iconst (v := (nI 1)) (show decode cL_law 843 = .ok (.iconst 1, 1) by decide +kernel) (by decide) ?_
        refine X_iadd (show decode cL_law 844 = .ok (.iadd, 1) by decide +kernel) ?_
        obtain ⟨s166, w⟩ := w
        refine X_iald (show decode cL_law 845 = .ok (.iaload, 1) by decide +kernel) (isA_eq s9) s166 ?_
        refine X_aload_n (j := 3) (show decode cL_law 846 = .ok (.aload_n 3, 1) by decide +kernel) rfl rfl ?_
        refine X_sH (rc' := (n * 33 + 65)) (rs' := (n * 8198 + 16390)) (as := [.ref _, .int _, .ref _]) msh_L_197 (show decode cL_law 847 = .ok (.invokestatic 197, 3) by decide +kernel) (by decide) (by omega) (by omega) rfl rfl (Nat.le_of_ble_eq_true rfl) (kL_pass w) (fun r168 h167 w => ?_)
        refine X_istore (ls' := [(0, .ref _), (1, .ref _), (2, .ref _), (3, .ref _), (4, .ref _), (5, .int _), (6, .int _)]) (show decode cL_law 850 = .ok (.istore 6, 2) by decide +kernel) (by decide) rfl ?_
        refine X_aload_n (j := 2) (show decode cL_law 852 = .ok (.aload_n 2, 1) by decide +kernel) rfl rfl ?_
        refine X_aload_n (j := 0) (show decode cL_law 853 = .ok (.aload_n 0, 1) by decide +kernel) rfl rfl ?_
        refine X_iload (j := 5) (show decode cL_law 854 = .ok (.iload 5, 2) by decide +kernel) rfl ?_
        refine X_iconst (v := (nI 1)) (show decode cL_law 856 = .ok (.iconst 1, 1) by decide +kernel) (by decide) ?_
        refine X_iadd (show decode cL_law 857 = .ok (.iadd, 1) by decide +kernel) ?_
        obtain ⟨s169, w⟩ := w
        obtain ⟨s170, w⟩ := w
        refine X_iald (show decode cL_law 858 = .ok (.iaload, 1) by decide +kernel) (isA_eq s169) s170 ?_
        obtain ⟨s181, w⟩ := w
        refine X_vI (rc' := (n * 33 + 65)) (rs' := (n * 8198 + 16390)) (as := [.int _]) mv_L_199 (show decode cL_law 859 = .ok (.invokevirtual 199, 3) by decide +kernel) (by decide) (by omega) (by omega) rfl rfl (Nat.le_of_ble_eq_true rfl) (rcvD s181 (by decide) rfl) (kX10_pass w) (fun E h hk => hk.elim) (fun r172 h171 w => ?_)
        refine X_istore (ls' := [(0, .ref _), (1, .ref _), (2, .ref _), (3, .ref _), (4, .ref _), (5, .int _), (6, .int _), (7, .int _)]) (show decode cL_law 862 = .ok (.istore 7, 2) by decide +kernel) (by decide) rfl ?_
        refine X_aload_n (j := 2) (show decode cL_law 864 = .ok (.aload_n 2, 1) by decide +kernel) rfl rfl ?_
        obtain ⟨s180, w⟩ := w
        refine X_vI (rc' := (n * 33 + 65)) (rs' := (n * 8198 + 16390)) (as := []) mv_L_168 (show decode cL_law 865 = .ok (.invokevirtual 168, 3) by decide +kernel) (by decide) (by omega) (by omega) rfl rfl (Nat.le_of_ble_eq_true rfl) (rcvD s180 (by decide) rfl) (kX10_thrown w) (fun E h hk => hk.elim) (fun r174 h173 w => ?_)
        refine X_iload (j := 6) (show decode cL_law 868 = .ok (.iload 6, 2) by decide +kernel) rfl ?_
        refine X_icmp_eq (tgt := 875) (show decode cL_law 870 = .ok (.if_icmp .eq 5, 3) by decide +kernel) (by decide) ⟨fun c175 => ?_, fun c175 => ?_⟩
        · have w := w.1 c175
          refine X_iload (j := 6) (show decode cL_law 875 = .ok (.iload 6, 2) by decide +kernel) rfl ?_
          refine X_if_ne (tgt := 892) (show decode cL_law 877 = .ok (.ifCond .ne 15, 3) by decide +kernel) (by decide) ⟨fun c176 => ?_, fun c176 => ?_⟩
          · have w := w.1 c176
            refine X_goto (tgt := 2925) (show decode cL_law 892 = .ok (.goto 2033, 3) by decide +kernel) (by decide) ?_
            refine X_iinc (j := 5) (v := _ + (nI 4)) (ls' := [(0, .ref _), (1, .ref _), (2, .ref _), (3, .ref _), (4, .ref _), (5, .int _), (6, .int _), (7, .int _)]) (show decode cL_law 2925 = .ok (.iinc 5 4, 3) by decide +kernel) rfl rfl (Nat.le_of_ble_eq_true rfl) rfl ?_
            refine X_goto (tgt := 28) (show decode cL_law 2928 = .ok (.goto (-2900), 3) by decide +kernel) (by decide) ?_
            refine X_room (rc' := (n * 33 + 33)) (rs' := (n * 8198 + 8198)) (by omega) (by omega) ?_
            refine X_pick (ls' := [(0, .ref _), (1, .ref _), (2, .ref _), (3, .ref _), (4, .ref _), (5, .int _)]) [0, 1, 2, 3, 4, 5] rfl ?_
            exact ih _ _ _ _ _ _ _ w
          · have w := w.2 c176
            refine X_aload_n (j := 3) (show decode cL_law 880 = .ok (.aload_n 3, 1) by decide +kernel) rfl rfl ?_
            refine X_iconst (v := (nI 0)) (show decode cL_law 881 = .ok (.iconst 0, 1) by decide +kernel) (by decide) ?_
            obtain ⟨s177, w⟩ := w
            obtain ⟨s178, w⟩ := w
            refine X_lald (show decode cL_law 882 = .ok (.laload, 1) by decide +kernel) (isA_eq s177) s178 ?_
            refine X_iload (j := 7) (show decode cL_law 883 = .ok (.iload 7, 2) by decide +kernel) rfl ?_
            refine X_i2l (show decode cL_law 885 = .ok (.i2l, 1) by decide +kernel) ?_
            refine X_lcmp (show decode cL_law 886 = .ok (.lcmp, 1) by decide +kernel) ?_
            refine X_if_eq (tgt := 892) (show decode cL_law 887 = .ok (.ifCond .eq 5, 3) by decide +kernel) (by decide) ⟨fun c179 => ?_, fun c179 => ?_⟩
            · have w := w.1 c179
              refine X_goto (tgt := 2925) (show decode cL_law 892 = .ok (.goto 2033, 3) by decide +kernel) (by decide) ?_
              refine X_iinc (j := 5) (v := _ + (nI 4)) (ls' := [(0, .ref _), (1, .ref _), (2, .ref _), (3, .ref _), (4, .ref _), (5, .int _), (6, .int _), (7, .int _)]) (show decode cL_law 2925 = .ok (.iinc 5 4, 3) by decide +kernel) rfl rfl (Nat.le_of_ble_eq_true rfl) rfl ?_
              refine X_goto (tgt := 28) (show decode cL_law 2928 = .ok (.goto (-2900), 3) by decide +kernel) (by decide) ?_
              refine X_room (rc' := (n * 33 + 33)) (rs' := (n * 8198 + 8198)) (by omega) (by omega) ?_
              refine X_pick (ls' := [(0, .ref _), (1, .ref _), (2, .ref _), (3, .ref _), (4, .ref _), (5, .int _)]) [0, 1, 2, 3, 4, 5] rfl ?_
              exact ih _ _ _ _ _ _ _ w
            · have w := w.2 c179
              refine X_iconst (v := (nI 0)) (show decode cL_law 890 = .ok (.iconst 0, 1) by decide +kernel) (by decide) ?_
              exact X_iret ⟨(show decode cL_law 891 = .ok (.ireturn, 1) by decide +kernel), .boolean, rfl, (by decide)⟩ ⟨_, rfl, w⟩
        · have w := w.2 c175
          refine X_iconst (v := (nI 0)) (show decode cL_law 873 = .ok (.iconst 0, 1) by decide +kernel) (by decide) ?_
          exact X_iret ⟨(show decode cL_law 874 = .ok (.ireturn, 1) by decide +kernel), .boolean, rfl, (by decide)⟩ ⟨_, rfl, w⟩
      by_cases z10 : (mI h x0 x5.toNatClampNeg &&& (nI 63)) = (nI 10)
      · have w := w.2.2.2.2.2.2.2.2.2.2.1 z10
        refine X_tableIn (tgt := 895) (show decode cL_law 44 = .ok (.tableswitch 2881 0 54 #[236, 292, 372, 440, 496, 552, 615, 683, 739, 795, 851, 864, 920, 976, 1032, 1095, 1151, 1219, 1287, 1367, 1435, 1448, 1473, 1529, 1585, 1648, 1711, 1767, 1823, 1879, 1935, 1991, 2066, 2079, 2092, 2167, 2180, 2193, 2237, 2281, 2294, 2307, 2321, 2386, 2452, 2465, 2478, 2534, 2590, 2648, 2692, 2736, 2780, 2824, 2837], 236) by decide +kernel) (by rw [z10]; decide) (by rw [z10]; decide) (by rw [z10] <;> rfl) (by decide) ?_
        refine X_aload_n (j := 1) (show decode cL_law 895 = .ok (.aload_n 1, 1) by decide +kernel) rfl rfl ?_
        obtain ⟨s188, w⟩ := w
        refine X_vI (rc' := (n * 33 + 66)) (rs' := (n * 8198 + 16396)) (as := []) mv_L_200 (show decode cL_law 896 = .ok (.invokevirtual 200, 3) by decide +kernel) (by decide) (by omega) (by omega) rfl rfl (Nat.le_of_ble_eq_true rfl) (rcvD s188 (by decide) rfl) (kX9_blocks w) (fun E h hk => hk.elim) (fun r183 h182 w => ?_)
        refine X_aload_n (j := 2) (show decode cL_law 899 = .ok (.aload_n 2, 1) by decide +kernel) rfl rfl ?_
        obtain ⟨s187, w⟩ := w
        refine X_vI (rc' := (n * 33 + 66)) (rs' := (n * 8198 + 16396)) (as := []) mv_L_203 (show decode cL_law 900 = .ok (.invokevirtual 203, 3) by decide +kernel) (by decide) (by omega) (by omega) rfl rfl (Nat.le_of_ble_eq_true rfl) (rcvD s187 (by decide) rfl) (kX10_blocks w) (fun E h hk => hk.elim) (fun r185 h184 w => ?_)
        refine X_icmp_eq (tgt := 2925) (show decode cL_law 903 = .ok (.if_icmp .eq 2022, 3) by decide +kernel) (by decide) ⟨fun c186 => ?_, fun c186 => ?_⟩
        · have w := w.1 c186
          refine X_iinc (j := 5) (v := _ + (nI 4)) (ls' := [(0, .ref _), (1, .ref _), (2, .ref _), (3, .ref _), (4, .ref _), (5, .int _)]) (show decode cL_law 2925 = .ok (.iinc 5 4, 3) by decide +kernel) rfl rfl (Nat.le_of_ble_eq_true rfl) rfl ?_
          refine X_goto (tgt := 28) (show decode cL_law 2928 = .ok (.goto (-2900), 3) by decide +kernel) (by decide) ?_
          refine X_room (rc' := (n * 33 + 33)) (rs' := (n * 8198 + 8198)) (by omega) (by omega) ?_
          exact ih _ _ _ _ _ _ _ w
        · have w := w.2 c186
          refine X_iconst (v := (nI 0)) (show decode cL_law 906 = .ok (.iconst 0, 1) by decide +kernel) (by decide) ?_
          exact X_iret ⟨(show decode cL_law 907 = .ok (.ireturn, 1) by decide +kernel), .boolean, rfl, (by decide)⟩ ⟨_, rfl, w⟩
      by_cases z11 : (mI h x0 x5.toNatClampNeg &&& (nI 63)) = (nI 11)
      · have w := w.2.2.2.2.2.2.2.2.2.2.2.1 z11
        refine X_tableIn (tgt := 908) (show decode cL_law 44 = .ok (.tableswitch 2881 0 54 #[236, 292, 372, 440, 496, 552, 615, 683, 739, 795, 851, 864, 920, 976, 1032, 1095, 1151, 1219, 1287, 1367, 1435, 1448, 1473, 1529, 1585, 1648, 1711, 1767, 1823, 1879, 1935, 1991, 2066, 2079, 2092, 2167, 2180, 2193, 2237, 2281, 2294, 2307, 2321, 2386, 2452, 2465, 2478, 2534, 2590, 2648, 2692, 2736, 2780, 2824, 2837], 236) by decide +kernel) (by rw [z11]; decide) (by rw [z11]; decide) (by rw [z11] <;> rfl) (by decide) ?_
        refine X_aload_n (j := 1) (show decode cL_law 908 = .ok (.aload_n 1, 1) by decide +kernel) rfl rfl ?_
        refine X_aload_n (j := 0) (show decode cL_law 909 = .ok (.aload_n 0, 1) by decide +kernel) rfl rfl ?_
        refine X_iload (j := 5) (show decode cL_law 910 = .ok (.iload 5, 2) by decide +kernel) rfl ?_
        refine X_iconst (v := (nI 1)) (show decode cL_law 912 = .ok (.iconst 1, 1) by decide +kernel) (by decide) ?_
        refine X_iadd (show decode cL_law 913 = .ok (.iadd, 1) by decide +kernel) ?_
        obtain ⟨s189, w⟩ := w
        refine X_iald (show decode cL_law 914 = .ok (.iaload, 1) by decide +kernel) (isA_eq s9) s189 ?_
        refine X_aload_n (j := 3) (show decode cL_law 915 = .ok (.aload_n 3, 1) by decide +kernel) rfl rfl ?_
        refine X_sH (rc' := (n * 33 + 65)) (rs' := (n * 8198 + 16390)) (as := [.ref _, .int _, .ref _]) msh_L_204 (show decode cL_law 916 = .ok (.invokestatic 204, 3) by decide +kernel) (by decide) (by omega) (by omega) rfl rfl (Nat.le_of_ble_eq_true rfl) (kL_blockLength w) (fun r191 h190 w => ?_)
        refine X_istore (ls' := [(0, .ref _), (1, .ref _), (2, .ref _), (3, .ref _), (4, .ref _), (5, .int _), (6, .int _)]) (show decode cL_law 919 = .ok (.istore 6, 2) by decide +kernel) (by decide) rfl ?_
        refine X_aload_n (j := 2) (show decode cL_law 921 = .ok (.aload_n 2, 1) by decide +kernel) rfl rfl ?_
        refine X_aload_n (j := 0) (show decode cL_law 922 = .ok (.aload_n 0, 1) by decide +kernel) rfl rfl ?_
        refine X_iload (j := 5) (show decode cL_law 923 = .ok (.iload 5, 2) by decide +kernel) rfl ?_
        refine X_iconst (v := (nI 1)) (show decode cL_law 925 = .ok (.iconst 1, 1) by decide +kernel) (by decide) ?_
        refine X_iadd (show decode cL_law 926 = .ok (.iadd, 1) by decide +kernel) ?_
        obtain ⟨s192, w⟩ := w
        obtain ⟨s193, w⟩ := w
        refine X_iald (show decode cL_law 927 = .ok (.iaload, 1) by decide +kernel) (isA_eq s192) s193 ?_
        obtain ⟨s204, w⟩ := w
        refine X_vI (rc' := (n * 33 + 65)) (rs' := (n * 8198 + 16390)) (as := [.int _]) mv_L_206 (show decode cL_law 928 = .ok (.invokevirtual 206, 3) by decide +kernel) (by decide) (by omega) (by omega) rfl rfl (Nat.le_of_ble_eq_true rfl) (rcvD s204 (by decide) rfl) (kX10_blockLength w) (fun E h hk => hk.elim) (fun r195 h194 w => ?_)
        refine X_istore (ls' := [(0, .ref _), (1, .ref _), (2, .ref _), (3, .ref _), (4, .ref _), (5, .int _), (6, .int _), (7, .int _)]) (show decode cL_law 931 = .ok (.istore 7, 2) by decide +kernel) (by decide) rfl ?_
        refine X_aload_n (j := 2) (show decode cL_law 933 = .ok (.aload_n 2, 1) by decide +kernel) rfl rfl ?_
        obtain ⟨s203, w⟩ := w
        refine X_vI (rc' := (n * 33 + 65)) (rs' := (n * 8198 + 16390)) (as := []) mv_L_168 (show decode cL_law 934 = .ok (.invokevirtual 168, 3) by decide +kernel) (by decide) (by omega) (by omega) rfl rfl (Nat.le_of_ble_eq_true rfl) (rcvD s203 (by decide) rfl) (kX10_thrown w) (fun E h hk => hk.elim) (fun r197 h196 w => ?_)
        refine X_iload (j := 6) (show decode cL_law 937 = .ok (.iload 6, 2) by decide +kernel) rfl ?_
        refine X_icmp_eq (tgt := 944) (show decode cL_law 939 = .ok (.if_icmp .eq 5, 3) by decide +kernel) (by decide) ⟨fun c198 => ?_, fun c198 => ?_⟩
        · have w := w.1 c198
          refine X_iload (j := 6) (show decode cL_law 944 = .ok (.iload 6, 2) by decide +kernel) rfl ?_
          refine X_if_ne (tgt := 961) (show decode cL_law 946 = .ok (.ifCond .ne 15, 3) by decide +kernel) (by decide) ⟨fun c199 => ?_, fun c199 => ?_⟩
          · have w := w.1 c199
            refine X_goto (tgt := 2925) (show decode cL_law 961 = .ok (.goto 1964, 3) by decide +kernel) (by decide) ?_
            refine X_iinc (j := 5) (v := _ + (nI 4)) (ls' := [(0, .ref _), (1, .ref _), (2, .ref _), (3, .ref _), (4, .ref _), (5, .int _), (6, .int _), (7, .int _)]) (show decode cL_law 2925 = .ok (.iinc 5 4, 3) by decide +kernel) rfl rfl (Nat.le_of_ble_eq_true rfl) rfl ?_
            refine X_goto (tgt := 28) (show decode cL_law 2928 = .ok (.goto (-2900), 3) by decide +kernel) (by decide) ?_
            refine X_room (rc' := (n * 33 + 33)) (rs' := (n * 8198 + 8198)) (by omega) (by omega) ?_
            refine X_pick (ls' := [(0, .ref _), (1, .ref _), (2, .ref _), (3, .ref _), (4, .ref _), (5, .int _)]) [0, 1, 2, 3, 4, 5] rfl ?_
            exact ih _ _ _ _ _ _ _ w
          · have w := w.2 c199
            refine X_aload_n (j := 3) (show decode cL_law 949 = .ok (.aload_n 3, 1) by decide +kernel) rfl rfl ?_
            refine X_iconst (v := (nI 0)) (show decode cL_law 950 = .ok (.iconst 0, 1) by decide +kernel) (by decide) ?_
            obtain ⟨s200, w⟩ := w
            obtain ⟨s201, w⟩ := w
            refine X_lald (show decode cL_law 951 = .ok (.laload, 1) by decide +kernel) (isA_eq s200) s201 ?_
            refine X_iload (j := 7) (show decode cL_law 952 = .ok (.iload 7, 2) by decide +kernel) rfl ?_
            refine X_i2l (show decode cL_law 954 = .ok (.i2l, 1) by decide +kernel) ?_
            refine X_lcmp (show decode cL_law 955 = .ok (.lcmp, 1) by decide +kernel) ?_
            refine X_if_eq (tgt := 961) (show decode cL_law 956 = .ok (.ifCond .eq 5, 3) by decide +kernel) (by decide) ⟨fun c202 => ?_, fun c202 => ?_⟩
            · have w := w.1 c202
              refine X_goto (tgt := 2925) (show decode cL_law 961 = .ok (.goto 1964, 3) by decide +kernel) (by decide) ?_
              refine X_iinc (j := 5) (v := _ + (nI 4)) (ls' := [(0, .ref _), (1, .ref _), (2, .ref _), (3, .ref _), (4, .ref _), (5, .int _), (6, .int _), (7, .int _)]) (show decode cL_law 2925 = .ok (.iinc 5 4, 3) by decide +kernel) rfl rfl (Nat.le_of_ble_eq_true rfl) rfl ?_
              refine X_goto (tgt := 28) (show decode cL_law 2928 = .ok (.goto (-2900), 3) by decide +kernel) (by decide) ?_
              refine X_room (rc' := (n * 33 + 33)) (rs' := (n * 8198 + 8198)) (by omega) (by omega) ?_
              refine X_pick (ls' := [(0, .ref _), (1, .ref _), (2, .ref _), (3, .ref _), (4, .ref _), (5, .int _)]) [0, 1, 2, 3, 4, 5] rfl ?_
              exact ih _ _ _ _ _ _ _ w
            · have w := w.2 c202
              refine X_iconst (v := (nI 0)) (show decode cL_law 959 = .ok (.iconst 0, 1) by decide +kernel) (by decide) ?_
              exact X_iret ⟨(show decode cL_law 960 = .ok (.ireturn, 1) by decide +kernel), .boolean, rfl, (by decide)⟩ ⟨_, rfl, w⟩
        · have w := w.2 c198
          refine X_iconst (v := (nI 0)) (show decode cL_law 942 = .ok (.iconst 0, 1) by decide +kernel) (by decide) ?_
          exact X_iret ⟨(show decode cL_law 943 = .ok (.ireturn, 1) by decide +kernel), .boolean, rfl, (by decide)⟩ ⟨_, rfl, w⟩
      by_cases z12 : (mI h x0 x5.toNatClampNeg &&& (nI 63)) = (nI 12)
      · have w := w.2.2.2.2.2.2.2.2.2.2.2.2.1 z12
        refine X_tableIn (tgt := 964) (show decode cL_law 44 = .ok (.tableswitch 2881 0 54 #[236, 292, 372, 440, 496, 552, 615, 683, 739, 795, 851, 864, 920, 976, 1032, 1095, 1151, 1219, 1287, 1367, 1435, 1448, 1473, 1529, 1585, 1648, 1711, 1767, 1823, 1879, 1935, 1991, 2066, 2079, 2092, 2167, 2180, 2193, 2237, 2281, 2294, 2307, 2321, 2386, 2452, 2465, 2478, 2534, 2590, 2648, 2692, 2736, 2780, 2824, 2837], 236) by decide +kernel) (by rw [z12]; decide) (by rw [z12]; decide) (by rw [z12] <;> rfl) (by decide) ?_
        refine X_aload_n (j := 1) (show decode cL_law 964 = .ok (.aload_n 1, 1) by decide +kernel) rfl rfl ?_
        refine X_aload_n (j := 0) (show decode cL_law 965 = .ok (.aload_n 0, 1) by decide +kernel) rfl rfl ?_
        refine X_iload (j := 5) (show decode cL_law 966 = .ok (.iload 5, 2) by decide +kernel) rfl ?_
        refine X_iconst (v := (nI 1)) (show decode cL_law 968 = .ok (.iconst 1, 1) by decide +kernel) (by decide) ?_
        refine X_iadd (show decode cL_law 969 = .ok (.iadd, 1) by decide +kernel) ?_
        obtain ⟨s205, w⟩ := w
        refine X_iald (show decode cL_law 970 = .ok (.iaload, 1) by decide +kernel) (isA_eq s9) s205 ?_
        refine X_aload_n (j := 3) (show decode cL_law 971 = .ok (.aload_n 3, 1) by decide +kernel) rfl rfl ?_
        refine X_sH (rc' := (n * 33 + 65)) (rs' := (n * 8198 + 16390)) (as := [.ref _, .int _, .ref _]) msh_L_207 (show decode cL_law 972 = .ok (.invokestatic 207, 3) by decide +kernel) (by decide) (by omega) (by omega) rfl rfl (Nat.le_of_ble_eq_true rfl) (kL_blockState w) (fun r207 h206 w => ?_)
        refine X_istore (ls' := [(0, .ref _), (1, .ref _), (2, .ref _), (3, .ref _), (4, .ref _), (5, .int _), (6, .int _)]) (show decode cL_law 975 = .ok (.istore 6, 2) by decide +kernel) (by decide) rfl ?_
        refine X_aload_n (j := 2) (show decode cL_law 977 = .ok (.aload_n 2, 1) by decide +kernel) rfl rfl ?_
        refine X_aload_n (j := 0) (show decode cL_law 978 = .ok (.aload_n 0, 1) by decide +kernel) rfl rfl ?_
        refine X_iload (j := 5) (show decode cL_law 979 = .ok (.iload 5, 2) by decide +kernel) rfl ?_
        refine X_iconst (v := (nI 1)) (show decode cL_law 981 = .ok (.iconst 1, 1) by decide +kernel) (by decide) ?_
        refine X_iadd (show decode cL_law 982 = .ok (.iadd, 1) by decide +kernel) ?_
        obtain ⟨s208, w⟩ := w
        obtain ⟨s209, w⟩ := w
        refine X_iald (show decode cL_law 983 = .ok (.iaload, 1) by decide +kernel) (isA_eq s208) s209 ?_
        obtain ⟨s220, w⟩ := w
        refine X_vI (rc' := (n * 33 + 65)) (rs' := (n * 8198 + 16390)) (as := [.int _]) mv_L_209 (show decode cL_law 984 = .ok (.invokevirtual 209, 3) by decide +kernel) (by decide) (by omega) (by omega) rfl rfl (Nat.le_of_ble_eq_true rfl) (rcvD s220 (by decide) rfl) (kX10_blockState w) (fun E h hk => hk.elim) (fun r211 h210 w => ?_)
        refine X_istore (ls' := [(0, .ref _), (1, .ref _), (2, .ref _), (3, .ref _), (4, .ref _), (5, .int _), (6, .int _), (7, .int _)]) (show decode cL_law 987 = .ok (.istore 7, 2) by decide +kernel) (by decide) rfl ?_
        refine X_aload_n (j := 2) (show decode cL_law 989 = .ok (.aload_n 2, 1) by decide +kernel) rfl rfl ?_
        obtain ⟨s219, w⟩ := w
        refine X_vI (rc' := (n * 33 + 65)) (rs' := (n * 8198 + 16390)) (as := []) mv_L_168 (show decode cL_law 990 = .ok (.invokevirtual 168, 3) by decide +kernel) (by decide) (by omega) (by omega) rfl rfl (Nat.le_of_ble_eq_true rfl) (rcvD s219 (by decide) rfl) (kX10_thrown w) (fun E h hk => hk.elim) (fun r213 h212 w => ?_)
        refine X_iload (j := 6) (show decode cL_law 993 = .ok (.iload 6, 2) by decide +kernel) rfl ?_
        refine X_icmp_eq (tgt := 1000) (show decode cL_law 995 = .ok (.if_icmp .eq 5, 3) by decide +kernel) (by decide) ⟨fun c214 => ?_, fun c214 => ?_⟩
        · have w := w.1 c214
          refine X_iload (j := 6) (show decode cL_law 1000 = .ok (.iload 6, 2) by decide +kernel) rfl ?_
          refine X_if_ne (tgt := 1017) (show decode cL_law 1002 = .ok (.ifCond .ne 15, 3) by decide +kernel) (by decide) ⟨fun c215 => ?_, fun c215 => ?_⟩
          · have w := w.1 c215
            refine X_goto (tgt := 2925) (show decode cL_law 1017 = .ok (.goto 1908, 3) by decide +kernel) (by decide) ?_
            refine X_iinc (j := 5) (v := _ + (nI 4)) (ls' := [(0, .ref _), (1, .ref _), (2, .ref _), (3, .ref _), (4, .ref _), (5, .int _), (6, .int _), (7, .int _)]) (show decode cL_law 2925 = .ok (.iinc 5 4, 3) by decide +kernel) rfl rfl (Nat.le_of_ble_eq_true rfl) rfl ?_
            refine X_goto (tgt := 28) (show decode cL_law 2928 = .ok (.goto (-2900), 3) by decide +kernel) (by decide) ?_
            refine X_room (rc' := (n * 33 + 33)) (rs' := (n * 8198 + 8198)) (by omega) (by omega) ?_
            refine X_pick (ls' := [(0, .ref _), (1, .ref _), (2, .ref _), (3, .ref _), (4, .ref _), (5, .int _)]) [0, 1, 2, 3, 4, 5] rfl ?_
            exact ih _ _ _ _ _ _ _ w
          · have w := w.2 c215
            refine X_aload_n (j := 3) (show decode cL_law 1005 = .ok (.aload_n 3, 1) by decide +kernel) rfl rfl ?_
            refine X_iconst (v := (nI 0)) (show decode cL_law 1006 = .ok (.iconst 0, 1) by decide +kernel) (by decide) ?_
            obtain ⟨s216, w⟩ := w
            obtain ⟨s217, w⟩ := w
            refine X_lald (show decode cL_law 1007 = .ok (.laload, 1) by decide +kernel) (isA_eq s216) s217 ?_
            refine X_iload (j := 7) (show decode cL_law 1008 = .ok (.iload 7, 2) by decide +kernel) rfl ?_
            refine X_i2l (show decode cL_law 1010 = .ok (.i2l, 1) by decide +kernel) ?_
            refine X_lcmp (show decode cL_law 1011 = .ok (.lcmp, 1) by decide +kernel) ?_
            refine X_if_eq (tgt := 1017) (show decode cL_law 1012 = .ok (.ifCond .eq 5, 3) by decide +kernel) (by decide) ⟨fun c218 => ?_, fun c218 => ?_⟩
            · have w := w.1 c218
              refine X_goto (tgt := 2925) (show decode cL_law 1017 = .ok (.goto 1908, 3) by decide +kernel) (by decide) ?_
              refine X_iinc (j := 5) (v := _ + (nI 4)) (ls' := [(0, .ref _), (1, .ref _), (2, .ref _), (3, .ref _), (4, .ref _), (5, .int _), (6, .int _), (7, .int _)]) (show decode cL_law 2925 = .ok (.iinc 5 4, 3) by decide +kernel) rfl rfl (Nat.le_of_ble_eq_true rfl) rfl ?_
              refine X_goto (tgt := 28) (show decode cL_law 2928 = .ok (.goto (-2900), 3) by decide +kernel) (by decide) ?_
              refine X_room (rc' := (n * 33 + 33)) (rs' := (n * 8198 + 8198)) (by omega) (by omega) ?_
              refine X_pick (ls' := [(0, .ref _), (1, .ref _), (2, .ref _), (3, .ref _), (4, .ref _), (5, .int _)]) [0, 1, 2, 3, 4, 5] rfl ?_
              exact ih _ _ _ _ _ _ _ w
            · have w := w.2 c218
              refine X_iconst (v := (nI 0)) (show decode cL_law 1015 = .ok (.iconst 0, 1) by decide +kernel) (by decide) ?_
              exact X_iret ⟨(show decode cL_law 1016 = .ok (.ireturn, 1) by decide +kernel), .boolean, rfl, (by decide)⟩ ⟨_, rfl, w⟩
        · have w := w.2 c214
          refine X_iconst (v := (nI 0)) (show decode cL_law 998 = .ok (.iconst 0, 1) by decide +kernel) (by decide) ?_
          exact X_iret ⟨(show decode cL_law 999 = .ok (.ireturn, 1) by decide +kernel), .boolean, rfl, (by decide)⟩ ⟨_, rfl, w⟩
      by_cases z13 : (mI h x0 x5.toNatClampNeg &&& (nI 63)) = (nI 13)
      · have w := w.2.2.2.2.2.2.2.2.2.2.2.2.2.1 z13
        refine X_tableIn (tgt := 1020) (show decode cL_law 44 = .ok (.tableswitch 2881 0 54 #[236, 292, 372, 440, 496, 552, 615, 683, 739, 795, 851, 864, 920, 976, 1032, 1095, 1151, 1219, 1287, 1367, 1435, 1448, 1473, 1529, 1585, 1648, 1711, 1767, 1823, 1879, 1935, 1991, 2066, 2079, 2092, 2167, 2180, 2193, 2237, 2281, 2294, 2307, 2321, 2386, 2452, 2465, 2478, 2534, 2590, 2648, 2692, 2736, 2780, 2824, 2837], 236) by decide +kernel) (by rw [z13]; decide) (by rw [z13]; decide) (by rw [z13] <;> rfl) (by decide) ?_
        refine X_aload_n (j := 1) (show decode cL_law 1020 = .ok (.aload_n 1, 1) by decide +kernel) rfl rfl ?_
        refine X_aload_n (j := 0) (show decode cL_law 1021 = .ok (.aload_n 0, 1) by decide +kernel) rfl rfl ?_
        refine X_iload (j := 5) (show decode cL_law 1022 = .ok (.iload 5, 2) by decide +kernel) rfl ?_
        refine X_iconst (v := (nI 1)) (show decode cL_law 1024 = .ok (.iconst 1, 1) by decide +kernel) (by decide) ?_
        refine X_iadd (show decode cL_law 1025 = .ok (.iadd, 1) by decide +kernel) ?_
        obtain ⟨s221, w⟩ := w
        refine X_iald (show decode cL_law 1026 = .ok (.iaload, 1) by decide +kernel) (isA_eq s9) s221 ?_
        refine X_aload_n (j := 3) (show decode cL_law 1027 = .ok (.aload_n 3, 1) by decide +kernel) rfl rfl ?_
        refine X_sH (rc' := (n * 33 + 64)) (rs' := (n * 8198 + 16384)) (as := [.ref _, .int _, .ref _]) msh_L_210 (show decode cL_law 1028 = .ok (.invokestatic 210, 3) by decide +kernel) (by decide) (by omega) (by omega) rfl rfl (Nat.le_of_ble_eq_true rfl) (kL_trainAt w) (fun r223 h222 w => ?_)
        refine X_istore (ls' := [(0, .ref _), (1, .ref _), (2, .ref _), (3, .ref _), (4, .ref _), (5, .int _), (6, .int _)]) (show decode cL_law 1031 = .ok (.istore 6, 2) by decide +kernel) (by decide) rfl ?_
        refine X_aload_n (j := 2) (show decode cL_law 1033 = .ok (.aload_n 2, 1) by decide +kernel) rfl rfl ?_
        refine X_aload_n (j := 0) (show decode cL_law 1034 = .ok (.aload_n 0, 1) by decide +kernel) rfl rfl ?_
        refine X_iload (j := 5) (show decode cL_law 1035 = .ok (.iload 5, 2) by decide +kernel) rfl ?_
        refine X_iconst (v := (nI 1)) (show decode cL_law 1037 = .ok (.iconst 1, 1) by decide +kernel) (by decide) ?_
        refine X_iadd (show decode cL_law 1038 = .ok (.iadd, 1) by decide +kernel) ?_
        obtain ⟨s224, w⟩ := w
        obtain ⟨s225, w⟩ := w
        refine X_iald (show decode cL_law 1039 = .ok (.iaload, 1) by decide +kernel) (isA_eq s224) s225 ?_
        obtain ⟨s236, w⟩ := w
        refine X_vI (rc' := (n * 33 + 64)) (rs' := (n * 8198 + 16384)) (as := [.int _]) mv_L_212 (show decode cL_law 1040 = .ok (.invokevirtual 212, 3) by decide +kernel) (by decide) (by omega) (by omega) rfl rfl (Nat.le_of_ble_eq_true rfl) (rcvD s236 (by decide) rfl) (kX10_trainAt w) (fun E h hk => hk.elim) (fun r227 h226 w => ?_)
        refine X_istore (ls' := [(0, .ref _), (1, .ref _), (2, .ref _), (3, .ref _), (4, .ref _), (5, .int _), (6, .int _), (7, .int _)]) (show decode cL_law 1043 = .ok (.istore 7, 2) by decide +kernel) (by decide) rfl ?_
        refine X_aload_n (j := 2) (show decode cL_law 1045 = .ok (.aload_n 2, 1) by decide +kernel) rfl rfl ?_
        obtain ⟨s235, w⟩ := w
        refine X_vI (rc' := (n * 33 + 64)) (rs' := (n * 8198 + 16384)) (as := []) mv_L_168 (show decode cL_law 1046 = .ok (.invokevirtual 168, 3) by decide +kernel) (by decide) (by omega) (by omega) rfl rfl (Nat.le_of_ble_eq_true rfl) (rcvD s235 (by decide) rfl) (kX10_thrown w) (fun E h hk => hk.elim) (fun r229 h228 w => ?_)
        refine X_iload (j := 6) (show decode cL_law 1049 = .ok (.iload 6, 2) by decide +kernel) rfl ?_
        refine X_icmp_eq (tgt := 1056) (show decode cL_law 1051 = .ok (.if_icmp .eq 5, 3) by decide +kernel) (by decide) ⟨fun c230 => ?_, fun c230 => ?_⟩
        · have w := w.1 c230
          refine X_iload (j := 6) (show decode cL_law 1056 = .ok (.iload 6, 2) by decide +kernel) rfl ?_
          refine X_if_ne (tgt := 1073) (show decode cL_law 1058 = .ok (.ifCond .ne 15, 3) by decide +kernel) (by decide) ⟨fun c231 => ?_, fun c231 => ?_⟩
          · have w := w.1 c231
            refine X_goto (tgt := 2925) (show decode cL_law 1073 = .ok (.goto 1852, 3) by decide +kernel) (by decide) ?_
            refine X_iinc (j := 5) (v := _ + (nI 4)) (ls' := [(0, .ref _), (1, .ref _), (2, .ref _), (3, .ref _), (4, .ref _), (5, .int _), (6, .int _), (7, .int _)]) (show decode cL_law 2925 = .ok (.iinc 5 4, 3) by decide +kernel) rfl rfl (Nat.le_of_ble_eq_true rfl) rfl ?_
            refine X_goto (tgt := 28) (show decode cL_law 2928 = .ok (.goto (-2900), 3) by decide +kernel) (by decide) ?_
            refine X_room (rc' := (n * 33 + 33)) (rs' := (n * 8198 + 8198)) (by omega) (by omega) ?_
            refine X_pick (ls' := [(0, .ref _), (1, .ref _), (2, .ref _), (3, .ref _), (4, .ref _), (5, .int _)]) [0, 1, 2, 3, 4, 5] rfl ?_
            exact ih _ _ _ _ _ _ _ w
          · have w := w.2 c231
            refine X_aload_n (j := 3) (show decode cL_law 1061 = .ok (.aload_n 3, 1) by decide +kernel) rfl rfl ?_
            refine X_iconst (v := (nI 0)) (show decode cL_law 1062 = .ok (.iconst 0, 1) by decide +kernel) (by decide) ?_
            obtain ⟨s232, w⟩ := w
            obtain ⟨s233, w⟩ := w
            refine X_lald (show decode cL_law 1063 = .ok (.laload, 1) by decide +kernel) (isA_eq s232) s233 ?_
            refine X_iload (j := 7) (show decode cL_law 1064 = .ok (.iload 7, 2) by decide +kernel) rfl ?_
            refine X_i2l (show decode cL_law 1066 = .ok (.i2l, 1) by decide +kernel) ?_
            refine X_lcmp (show decode cL_law 1067 = .ok (.lcmp, 1) by decide +kernel) ?_
            refine X_if_eq (tgt := 1073) (show decode cL_law 1068 = .ok (.ifCond .eq 5, 3) by decide +kernel) (by decide) ⟨fun c234 => ?_, fun c234 => ?_⟩
            · have w := w.1 c234
              refine X_goto (tgt := 2925) (show decode cL_law 1073 = .ok (.goto 1852, 3) by decide +kernel) (by decide) ?_
              refine X_iinc (j := 5) (v := _ + (nI 4)) (ls' := [(0, .ref _), (1, .ref _), (2, .ref _), (3, .ref _), (4, .ref _), (5, .int _), (6, .int _), (7, .int _)]) (show decode cL_law 2925 = .ok (.iinc 5 4, 3) by decide +kernel) rfl rfl (Nat.le_of_ble_eq_true rfl) rfl ?_
              refine X_goto (tgt := 28) (show decode cL_law 2928 = .ok (.goto (-2900), 3) by decide +kernel) (by decide) ?_
              refine X_room (rc' := (n * 33 + 33)) (rs' := (n * 8198 + 8198)) (by omega) (by omega) ?_
              refine X_pick (ls' := [(0, .ref _), (1, .ref _), (2, .ref _), (3, .ref _), (4, .ref _), (5, .int _)]) [0, 1, 2, 3, 4, 5] rfl ?_
              exact ih _ _ _ _ _ _ _ w
            · have w := w.2 c234
              refine X_iconst (v := (nI 0)) (show decode cL_law 1071 = .ok (.iconst 0, 1) by decide +kernel) (by decide) ?_
              exact X_iret ⟨(show decode cL_law 1072 = .ok (.ireturn, 1) by decide +kernel), .boolean, rfl, (by decide)⟩ ⟨_, rfl, w⟩
        · have w := w.2 c230
          refine X_iconst (v := (nI 0)) (show decode cL_law 1054 = .ok (.iconst 0, 1) by decide +kernel) (by decide) ?_
          exact X_iret ⟨(show decode cL_law 1055 = .ok (.ireturn, 1) by decide +kernel), .boolean, rfl, (by decide)⟩ ⟨_, rfl, w⟩
      by_cases z14 : (mI h x0 x5.toNatClampNeg &&& (nI 63)) = (nI 14)
      · have w := w.2.2.2.2.2.2.2.2.2.2.2.2.2.2.1 z14
        refine X_tableIn (tgt := 1076) (show decode cL_law 44 = .ok (.tableswitch 2881 0 54 #[236, 292, 372, 440, 496, 552, 615, 683, 739, 795, 851, 864, 920, 976, 1032, 1095, 1151, 1219, 1287, 1367, 1435, 1448, 1473, 1529, 1585, 1648, 1711, 1767, 1823, 1879, 1935, 1991, 2066, 2079, 2092, 2167, 2180, 2193, 2237, 2281, 2294, 2307, 2321, 2386, 2452, 2465, 2478, 2534, 2590, 2648, 2692, 2736, 2780, 2824, 2837], 236) by decide +kernel) (by rw [z14]; decide) (by rw [z14]; decide) (by rw [z14] <;> rfl) (by decide) ?_
        refine X_aload_n (j := 1) (show decode cL_law 1076 = .ok (.aload_n 1, 1) by decide +kernel) rfl rfl ?_
        refine X_aload_n (j := 0) (show decode cL_law 1077 = .ok (.aload_n 0, 1) by decide +kernel) rfl rfl ?_
        refine X_iload (j := 5) (show decode cL_law 1078 = .ok (.iload 5, 2) by decide +kernel) rfl ?_
        refine X_iconst (v := (nI 1)) (show decode cL_law 1080 = .ok (.iconst 1, 1) by decide +kernel) (by decide) ?_
        refine X_iadd (show decode cL_law 1081 = .ok (.iadd, 1) by decide +kernel) ?_
        obtain ⟨s237, w⟩ := w
        refine X_iald (show decode cL_law 1082 = .ok (.iaload, 1) by decide +kernel) (isA_eq s9) s237 ?_
        refine X_aload_n (j := 3) (show decode cL_law 1083 = .ok (.aload_n 3, 1) by decide +kernel) rfl rfl ?_
        refine X_sH (rc' := (n * 33 + 65)) (rs' := (n * 8198 + 16390)) (as := [.ref _, .int _, .ref _]) msh_L_213 (show decode cL_law 1084 = .ok (.invokestatic 213, 3) by decide +kernel) (by decide) (by omega) (by omega) rfl rfl (Nat.le_of_ble_eq_true rfl) (kL_liesLeft w) (fun r239 h238 w => ?_)
        refine X_istore (ls' := [(0, .ref _), (1, .ref _), (2, .ref _), (3, .ref _), (4, .ref _), (5, .int _), (6, .int _)]) (show decode cL_law 1087 = .ok (.istore 6, 2) by decide +kernel) (by decide) rfl ?_
        refine X_aload_n (j := 2) (show decode cL_law 1089 = .ok (.aload_n 2, 1) by decide +kernel) rfl rfl ?_
        refine X_aload_n (j := 0) (show decode cL_law 1090 = .ok (.aload_n 0, 1) by decide +kernel) rfl rfl ?_
        refine X_iload (j := 5) (show decode cL_law 1091 = .ok (.iload 5, 2) by decide +kernel) rfl ?_
        refine X_iconst (v := (nI 1)) (show decode cL_law 1093 = .ok (.iconst 1, 1) by decide +kernel) (by decide) ?_
        refine X_iadd (show decode cL_law 1094 = .ok (.iadd, 1) by decide +kernel) ?_
        obtain ⟨s240, w⟩ := w
        obtain ⟨s241, w⟩ := w
        refine X_iald (show decode cL_law 1095 = .ok (.iaload, 1) by decide +kernel) (isA_eq s240) s241 ?_
        obtain ⟨s254, w⟩ := w
        refine X_vI (rc' := (n * 33 + 65)) (rs' := (n * 8198 + 16390)) (as := [.int _]) mv_L_215 (show decode cL_law 1096 = .ok (.invokevirtual 215, 3) by decide +kernel) (by decide) (by omega) (by omega) rfl rfl (Nat.le_of_ble_eq_true rfl) (rcvD s254 (by decide) rfl) (kX10_liesLeft w) (fun E h hk => hk.elim) (fun r243 h242 w => ?_)
        refine X_istore (ls' := [(0, .ref _), (1, .ref _), (2, .ref _), (3, .ref _), (4, .ref _), (5, .int _), (6, .int _), (7, .int _)]) (show decode cL_law 1099 = .ok (.istore 7, 2) by decide +kernel) (by decide) rfl ?_
        refine X_aload_n (j := 2) (show decode cL_law 1101 = .ok (.aload_n 2, 1) by decide +kernel) rfl rfl ?_
        obtain ⟨s253, w⟩ := w
        refine X_vI (rc' := (n * 33 + 65)) (rs' := (n * 8198 + 16390)) (as := []) mv_L_168 (show decode cL_law 1102 = .ok (.invokevirtual 168, 3) by decide +kernel) (by decide) (by omega) (by omega) rfl rfl (Nat.le_of_ble_eq_true rfl) (rcvD s253 (by decide) rfl) (kX10_thrown w) (fun E h hk => hk.elim) (fun r245 h244 w => ?_)
        refine X_iload (j := 6) (show decode cL_law 1105 = .ok (.iload 6, 2) by decide +kernel) rfl ?_
        refine X_icmp_eq (tgt := 1112) (show decode cL_law 1107 = .ok (.if_icmp .eq 5, 3) by decide +kernel) (by decide) ⟨fun c246 => ?_, fun c246 => ?_⟩
        · have w := w.1 c246
          refine X_iload (j := 6) (show decode cL_law 1112 = .ok (.iload 6, 2) by decide +kernel) rfl ?_
          refine X_if_ne (tgt := 1136) (show decode cL_law 1114 = .ok (.ifCond .ne 22, 3) by decide +kernel) (by decide) ⟨fun c247 => ?_, fun c247 => ?_⟩
          · have w := w.1 c247
            refine X_goto (tgt := 2925) (show decode cL_law 1136 = .ok (.goto 1789, 3) by decide +kernel) (by decide) ?_
            refine X_iinc (j := 5) (v := _ + (nI 4)) (ls' := [(0, .ref _), (1, .ref _), (2, .ref _), (3, .ref _), (4, .ref _), (5, .int _), (6, .int _), (7, .int _)]) (show decode cL_law 2925 = .ok (.iinc 5 4, 3) by decide +kernel) rfl rfl (Nat.le_of_ble_eq_true rfl) rfl ?_
            refine X_goto (tgt := 28) (show decode cL_law 2928 = .ok (.goto (-2900), 3) by decide +kernel) (by decide) ?_
            refine X_room (rc' := (n * 33 + 33)) (rs' := (n * 8198 + 8198)) (by omega) (by omega) ?_
            refine X_pick (ls' := [(0, .ref _), (1, .ref _), (2, .ref _), (3, .ref _), (4, .ref _), (5, .int _)]) [0, 1, 2, 3, 4, 5] rfl ?_
            exact ih _ _ _ _ _ _ _ w
          · have w := w.2 c247
            refine X_aload_n (j := 3) (show decode cL_law 1117 = .ok (.aload_n 3, 1) by decide +kernel) rfl rfl ?_
            refine X_iconst (v := (nI 0)) (show decode cL_law 1118 = .ok (.iconst 0, 1) by decide +kernel) (by decide) ?_
            obtain ⟨s248, w⟩ := w
            obtain ⟨s249, w⟩ := w
            refine X_lald (show decode cL_law 1119 = .ok (.laload, 1) by decide +kernel) (isA_eq s248) s249 ?_
            refine X_iload (j := 7) (show decode cL_law 1120 = .ok (.iload 7, 2) by decide +kernel) rfl ?_
            refine X_if_eq (tgt := 1129) (show decode cL_law 1122 = .ok (.ifCond .eq 7, 3) by decide +kernel) (by decide) ⟨fun c250 => ?_, fun c250 => ?_⟩
            · have w := w.1 c250
              refine X_lconst (v := 0) (show decode cL_law 1129 = .ok (.lconst 0, 1) by decide +kernel) (by decide) ?_
              refine X_lcmp (show decode cL_law 1130 = .ok (.lcmp, 1) by decide +kernel) ?_
              refine X_if_eq (tgt := 1136) (show decode cL_law 1131 = .ok (.ifCond .eq 5, 3) by decide +kernel) (by decide) ⟨fun c251 => ?_, fun c251 => ?_⟩
              · have w := w.1 c251
                refine X_goto (tgt := 2925) (show decode cL_law 1136 = .ok (.goto 1789, 3) by decide +kernel) (by decide) ?_
                refine X_iinc (j := 5) (v := _ + (nI 4)) (ls' := [(0, .ref _), (1, .ref _), (2, .ref _), (3, .ref _), (4, .ref _), (5, .int _), (6, .int _), (7, .int _)]) (show decode cL_law 2925 = .ok (.iinc 5 4, 3) by decide +kernel) rfl rfl (Nat.le_of_ble_eq_true rfl) rfl ?_
                refine X_goto (tgt := 28) (show decode cL_law 2928 = .ok (.goto (-2900), 3) by decide +kernel) (by decide) ?_
                refine X_room (rc' := (n * 33 + 33)) (rs' := (n * 8198 + 8198)) (by omega) (by omega) ?_
                refine X_pick (ls' := [(0, .ref _), (1, .ref _), (2, .ref _), (3, .ref _), (4, .ref _), (5, .int _)]) [0, 1, 2, 3, 4, 5] rfl ?_
                exact ih _ _ _ _ _ _ _ w
              · have w := w.2 c251
                refine X_iconst (v := (nI 0)) (show decode cL_law 1134 = .ok (.iconst 0, 1) by decide +kernel) (by decide) ?_
                exact X_iret ⟨(show decode cL_law 1135 = .ok (.ireturn, 1) by decide +kernel), .boolean, rfl, (by decide)⟩ ⟨_, rfl, w⟩
            · have w := w.2 c250
              refine X_lconst (v := 1) (show decode cL_law 1125 = .ok (.lconst 1, 1) by decide +kernel) (by decide) ?_
              refine X_goto (tgt := 1130) (show decode cL_law 1126 = .ok (.goto 4, 3) by decide +kernel) (by decide) ?_
              refine X_lcmp (show decode cL_law 1130 = .ok (.lcmp, 1) by decide +kernel) ?_
              refine X_if_eq (tgt := 1136) (show decode cL_law 1131 = .ok (.ifCond .eq 5, 3) by decide +kernel) (by decide) ⟨fun c252 => ?_, fun c252 => ?_⟩
              · have w := w.1 c252
                refine X_goto (tgt := 2925) (show decode cL_law 1136 = .ok (.goto 1789, 3) by decide +kernel) (by decide) ?_
                refine X_iinc (j := 5) (v := _ + (nI 4)) (ls' := [(0, .ref _), (1, .ref _), (2, .ref _), (3, .ref _), (4, .ref _), (5, .int _), (6, .int _), (7, .int _)]) (show decode cL_law 2925 = .ok (.iinc 5 4, 3) by decide +kernel) rfl rfl (Nat.le_of_ble_eq_true rfl) rfl ?_
                refine X_goto (tgt := 28) (show decode cL_law 2928 = .ok (.goto (-2900), 3) by decide +kernel) (by decide) ?_
                refine X_room (rc' := (n * 33 + 33)) (rs' := (n * 8198 + 8198)) (by omega) (by omega) ?_
                refine X_pick (ls' := [(0, .ref _), (1, .ref _), (2, .ref _), (3, .ref _), (4, .ref _), (5, .int _)]) [0, 1, 2, 3, 4, 5] rfl ?_
                exact ih _ _ _ _ _ _ _ w
              · have w := w.2 c252
                refine X_iconst (v := (nI 0)) (show decode cL_law 1134 = .ok (.iconst 0, 1) by decide +kernel) (by decide) ?_
                exact X_iret ⟨(show decode cL_law 1135 = .ok (.ireturn, 1) by decide +kernel), .boolean, rfl, (by decide)⟩ ⟨_, rfl, w⟩
        · have w := w.2 c246
          refine X_iconst (v := (nI 0)) (show decode cL_law 1110 = .ok (.iconst 0, 1) by decide +kernel) (by decide) ?_
          exact X_iret ⟨(show decode cL_law 1111 = .ok (.ireturn, 1) by decide +kernel), .boolean, rfl, (by decide)⟩ ⟨_, rfl, w⟩
      by_cases z15 : (mI h x0 x5.toNatClampNeg &&& (nI 63)) = (nI 15)
      · have w := w.2.2.2.2.2.2.2.2.2.2.2.2.2.2.2.1 z15
        refine X_tableIn (tgt := 1139) (show decode cL_law 44 = .ok (.tableswitch 2881 0 54 #[236, 292, 372, 440, 496, 552, 615, 683, 739, 795, 851, 864, 920, 976, 1032, 1095, 1151, 1219, 1287, 1367, 1435, 1448, 1473, 1529, 1585, 1648, 1711, 1767, 1823, 1879, 1935, 1991, 2066, 2079, 2092, 2167, 2180, 2193, 2237, 2281, 2294, 2307, 2321, 2386, 2452, 2465, 2478, 2534, 2590, 2648, 2692, 2736, 2780, 2824, 2837], 236) by decide +kernel) (by rw [z15]; decide) (by rw [z15]; decide) (by rw [z15] <;> rfl) (by decide) ?_
        refine X_aload_n (j := 1) (show decode cL_law 1139 = .ok (.aload_n 1, 1) by decide +kernel) rfl rfl ?_
        refine X_aload_n (j := 0) (show decode cL_law 1140 = .ok (.aload_n 0, 1) by decide +kernel) rfl rfl ?_
        refine X_iload (j := 5) (show decode cL_law 1141 = .ok (.iload 5, 2) by decide +kernel) rfl ?_
        refine X_iconst (v := (nI 1)) (show decode cL_law 1143 = .ok (.iconst 1, 1) by decide +kernel) (by decide) ?_
        refine X_iadd (show decode cL_law 1144 = .ok (.iadd, 1) by decide +kernel) ?_
        obtain ⟨s255, w⟩ := w
        refine X_iald (show decode cL_law 1145 = .ok (.iaload, 1) by decide +kernel) (isA_eq s9) s255 ?_
        refine X_aload_n (j := 3) (show decode cL_law 1146 = .ok (.aload_n 3, 1) by decide +kernel) rfl rfl ?_
        refine X_sH (rc' := (n * 33 + 64)) (rs' := (n * 8198 + 16384)) (as := [.ref _, .int _, .ref _]) msh_L_216 (show decode cL_law 1147 = .ok (.invokestatic 216, 3) by decide +kernel) (by decide) (by omega) (by omega) rfl rfl (Nat.le_of_ble_eq_true rfl) (kL_lockedBy w) (fun r257 h256 w => ?_)
        refine X_istore (ls' := [(0, .ref _), (1, .ref _), (2, .ref _), (3, .ref _), (4, .ref _), (5, .int _), (6, .int _)]) (show decode cL_law 1150 = .ok (.istore 6, 2) by decide +kernel) (by decide) rfl ?_
        refine X_aload_n (j := 2) (show decode cL_law 1152 = .ok (.aload_n 2, 1) by decide +kernel) rfl rfl ?_
        refine X_aload_n (j := 0) (show decode cL_law 1153 = .ok (.aload_n 0, 1) by decide +kernel) rfl rfl ?_
        refine X_iload (j := 5) (show decode cL_law 1154 = .ok (.iload 5, 2) by decide +kernel) rfl ?_
        refine X_iconst (v := (nI 1)) (show decode cL_law 1156 = .ok (.iconst 1, 1) by decide +kernel) (by decide) ?_
        refine X_iadd (show decode cL_law 1157 = .ok (.iadd, 1) by decide +kernel) ?_
        obtain ⟨s258, w⟩ := w
        obtain ⟨s259, w⟩ := w
        refine X_iald (show decode cL_law 1158 = .ok (.iaload, 1) by decide +kernel) (isA_eq s258) s259 ?_
        obtain ⟨s270, w⟩ := w
        refine X_vI (rc' := (n * 33 + 64)) (rs' := (n * 8198 + 16384)) (as := [.int _]) mv_L_218 (show decode cL_law 1159 = .ok (.invokevirtual 218, 3) by decide +kernel) (by decide) (by omega) (by omega) rfl rfl (Nat.le_of_ble_eq_true rfl) (rcvD s270 (by decide) rfl) (kX10_lockedBy w) (fun E h hk => hk.elim) (fun r261 h260 w => ?_)
        refine X_istore (ls' := [(0, .ref _), (1, .ref _), (2, .ref _), (3, .ref _), (4, .ref _), (5, .int _), (6, .int _), (7, .int _)]) (show decode cL_law 1162 = .ok (.istore 7, 2) by decide +kernel) (by decide) rfl ?_
        refine X_aload_n (j := 2) (show decode cL_law 1164 = .ok (.aload_n 2, 1) by decide +kernel) rfl rfl ?_
        obtain ⟨s269, w⟩ := w
        refine X_vI (rc' := (n * 33 + 64)) (rs' := (n * 8198 + 16384)) (as := []) mv_L_168 (show decode cL_law 1165 = .ok (.invokevirtual 168, 3) by decide +kernel) (by decide) (by omega) (by omega) rfl rfl (Nat.le_of_ble_eq_true rfl) (rcvD s269 (by decide) rfl) (kX10_thrown w) (fun E h hk => hk.elim) (fun r263 h262 w => ?_)
        refine X_iload (j := 6) (show decode cL_law 1168 = .ok (.iload 6, 2) by decide +kernel) rfl ?_
        refine X_icmp_eq (tgt := 1175) (show decode cL_law 1170 = .ok (.if_icmp .eq 5, 3) by decide +kernel) (by decide) ⟨fun c264 => ?_, fun c264 => ?_⟩
        · have w := w.1 c264
          refine X_iload (j := 6) (show decode cL_law 1175 = .ok (.iload 6, 2) by decide +kernel) rfl ?_
          refine X_if_ne (tgt := 1192) (show decode cL_law 1177 = .ok (.ifCond .ne 15, 3) by decide +kernel) (by decide) ⟨fun c265 => ?_, fun c265 => ?_⟩
          · have w := w.1 c265
            refine X_goto (tgt := 2925) (show decode cL_law 1192 = .ok (.goto 1733, 3) by decide +kernel) (by decide) ?_
            refine X_iinc (j := 5) (v := _ + (nI 4)) (ls' := [(0, .ref _), (1, .ref _), (2, .ref _), (3, .ref _), (4, .ref _), (5, .int _), (6, .int _), (7, .int _)]) (show decode cL_law 2925 = .ok (.iinc 5 4, 3) by decide +kernel) rfl rfl (Nat.le_of_ble_eq_true rfl) rfl ?_
            refine X_goto (tgt := 28) (show decode cL_law 2928 = .ok (.goto (-2900), 3) by decide +kernel) (by decide) ?_
            refine X_room (rc' := (n * 33 + 33)) (rs' := (n * 8198 + 8198)) (by omega) (by omega) ?_
            refine X_pick (ls' := [(0, .ref _), (1, .ref _), (2, .ref _), (3, .ref _), (4, .ref _), (5, .int _)]) [0, 1, 2, 3, 4, 5] rfl ?_
            exact ih _ _ _ _ _ _ _ w
          · have w := w.2 c265
            refine X_aload_n (j := 3) (show decode cL_law 1180 = .ok (.aload_n 3, 1) by decide +kernel) rfl rfl ?_
            refine X_iconst (v := (nI 0)) (show decode cL_law 1181 = .ok (.iconst 0, 1) by decide +kernel) (by decide) ?_
            obtain ⟨s266, w⟩ := w
            obtain ⟨s267, w⟩ := w
            refine X_lald (show decode cL_law 1182 = .ok (.laload, 1) by decide +kernel) (isA_eq s266) s267 ?_
            refine X_iload (j := 7) (show decode cL_law 1183 = .ok (.iload 7, 2) by decide +kernel) rfl ?_
            refine X_i2l (show decode cL_law 1185 = .ok (.i2l, 1) by decide +kernel) ?_
            refine X_lcmp (show decode cL_law 1186 = .ok (.lcmp, 1) by decide +kernel) ?_
            refine X_if_eq (tgt := 1192) (show decode cL_law 1187 = .ok (.ifCond .eq 5, 3) by decide +kernel) (by decide) ⟨fun c268 => ?_, fun c268 => ?_⟩
            · have w := w.1 c268
              refine X_goto (tgt := 2925) (show decode cL_law 1192 = .ok (.goto 1733, 3) by decide +kernel) (by decide) ?_
              refine X_iinc (j := 5) (v := _ + (nI 4)) (ls' := [(0, .ref _), (1, .ref _), (2, .ref _), (3, .ref _), (4, .ref _), (5, .int _), (6, .int _), (7, .int _)]) (show decode cL_law 2925 = .ok (.iinc 5 4, 3) by decide +kernel) rfl rfl (Nat.le_of_ble_eq_true rfl) rfl ?_
              refine X_goto (tgt := 28) (show decode cL_law 2928 = .ok (.goto (-2900), 3) by decide +kernel) (by decide) ?_
              refine X_room (rc' := (n * 33 + 33)) (rs' := (n * 8198 + 8198)) (by omega) (by omega) ?_
              refine X_pick (ls' := [(0, .ref _), (1, .ref _), (2, .ref _), (3, .ref _), (4, .ref _), (5, .int _)]) [0, 1, 2, 3, 4, 5] rfl ?_
              exact ih _ _ _ _ _ _ _ w
            · have w := w.2 c268
              refine X_iconst (v := (nI 0)) (show decode cL_law 1190 = .ok (.iconst 0, 1) by decide +kernel) (by decide) ?_
              exact X_iret ⟨(show decode cL_law 1191 = .ok (.ireturn, 1) by decide +kernel), .boolean, rfl, (by decide)⟩ ⟨_, rfl, w⟩
        · have w := w.2 c264
          refine X_iconst (v := (nI 0)) (show decode cL_law 1173 = .ok (.iconst 0, 1) by decide +kernel) (by decide) ?_
          exact X_iret ⟨(show decode cL_law 1174 = .ok (.ireturn, 1) by decide +kernel), .boolean, rfl, (by decide)⟩ ⟨_, rfl, w⟩
      by_cases z16 : (mI h x0 x5.toNatClampNeg &&& (nI 63)) = (nI 16)
      · have w := w.2.2.2.2.2.2.2.2.2.2.2.2.2.2.2.2.1 z16
        refine X_tableIn (tgt := 1195) (show decode cL_law 44 = .ok (.tableswitch 2881 0 54 #[236, 292, 372, 440, 496, 552, 615, 683, 739, 795, 851, 864, 920, 976, 1032, 1095, 1151, 1219, 1287, 1367, 1435, 1448, 1473, 1529, 1585, 1648, 1711, 1767, 1823, 1879, 1935, 1991, 2066, 2079, 2092, 2167, 2180, 2193, 2237, 2281, 2294, 2307, 2321, 2386, 2452, 2465, 2478, 2534, 2590, 2648, 2692, 2736, 2780, 2824, 2837], 236) by decide +kernel) (by rw [z16]; decide) (by rw [z16]; decide) (by rw [z16] <;> rfl) (by decide) ?_
        refine X_aload_n (j := 1) (show decode cL_law 1195 = .ok (.aload_n 1, 1) by decide +kernel) rfl rfl ?_
        refine X_aload_n (j := 0) (show decode cL_law 1196 = .ok (.aload_n 0, 1) by decide +kernel) rfl rfl ?_
        refine X_iload (j := 5) (show decode cL_law 1197 = .ok (.iload 5, 2) by decide +kernel) rfl ?_
        refine X_iconst (v := (nI 1)) (show decode cL_law 1199 = .ok (.iconst 1, 1) by decide +kernel) (by decide) ?_
        refine X_iadd (show decode cL_law 1200 = .ok (.iadd, 1) by decide +kernel) ?_
        obtain ⟨s271, w⟩ := w
        refine X_iald (show decode cL_law 1201 = .ok (.iaload, 1) by decide +kernel) (isA_eq s9) s271 ?_
        refine X_aload_n (j := 0) (show decode cL_law 1202 = .ok (.aload_n 0, 1) by decide +kernel) rfl rfl ?_
        refine X_iload (j := 5) (show decode cL_law 1203 = .ok (.iload 5, 2) by decide +kernel) rfl ?_
        refine X_iconst (v := (nI 2)) (show decode cL_law 1205 = .ok (.iconst 2, 1) by decide +kernel) (by decide) ?_
        refine X_iadd (show decode cL_law 1206 = .ok (.iadd, 1) by decide +kernel) ?_
        obtain ⟨s272, w⟩ := w
        refine X_iald (show decode cL_law 1207 = .ok (.iaload, 1) by decide +kernel) (isA_eq s9) s272 ?_
        refine X_aload_n (j := 3) (show decode cL_law 1208 = .ok (.aload_n 3, 1) by decide +kernel) rfl rfl ?_
        refine X_sH (rc' := (n * 33 + 63)) (rs' := (n * 8198 + 16378)) (as := [.ref _, .int _, .int _, .ref _]) msh_L_219 (show decode cL_law 1209 = .ok (.invokestatic 219, 3) by decide +kernel) (by decide) (by omega) (by omega) rfl rfl (Nat.le_of_ble_eq_true rfl) (kL_routeLength w) (fun r274 h273 w => ?_)
        refine X_istore (ls' := [(0, .ref _), (1, .ref _), (2, .ref _), (3, .ref _), (4, .ref _), (5, .int _), (6, .int _)]) (show decode cL_law 1212 = .ok (.istore 6, 2) by decide +kernel) (by decide) rfl ?_
        refine X_aload_n (j := 2) (show decode cL_law 1214 = .ok (.aload_n 2, 1) by decide +kernel) rfl rfl ?_
        refine X_aload_n (j := 0) (show decode cL_law 1215 = .ok (.aload_n 0, 1) by decide +kernel) rfl rfl ?_
        refine X_iload (j := 5) (show decode cL_law 1216 = .ok (.iload 5, 2) by decide +kernel) rfl ?_
        refine X_iconst (v := (nI 1)) (show decode cL_law 1218 = .ok (.iconst 1, 1) by decide +kernel) (by decide) ?_
        refine X_iadd (show decode cL_law 1219 = .ok (.iadd, 1) by decide +kernel) ?_
        obtain ⟨s275, w⟩ := w
        obtain ⟨s276, w⟩ := w
        refine X_iald (show decode cL_law 1220 = .ok (.iaload, 1) by decide +kernel) (isA_eq s275) s276 ?_
        refine X_aload_n (j := 0) (show decode cL_law 1221 = .ok (.aload_n 0, 1) by decide +kernel) rfl rfl ?_
        refine X_iload (j := 5) (show decode cL_law 1222 = .ok (.iload 5, 2) by decide +kernel) rfl ?_
        refine X_iconst (v := (nI 2)) (show decode cL_law 1224 = .ok (.iconst 2, 1) by decide +kernel) (by decide) ?_
        refine X_iadd (show decode cL_law 1225 = .ok (.iadd, 1) by decide +kernel) ?_
        obtain ⟨s277, w⟩ := w
        refine X_iald (show decode cL_law 1226 = .ok (.iaload, 1) by decide +kernel) (isA_eq s275) s277 ?_
        obtain ⟨s288, w⟩ := w
        refine X_vI (rc' := (n * 33 + 63)) (rs' := (n * 8198 + 16378)) (as := [.int _, .int _]) mv_L_221 (show decode cL_law 1227 = .ok (.invokevirtual 221, 3) by decide +kernel) (by decide) (by omega) (by omega) rfl rfl (Nat.le_of_ble_eq_true rfl) (rcvD s288 (by decide) rfl) (kX10_routeLength w) (fun E h hk => hk.elim) (fun r279 h278 w => ?_)
        refine X_istore (ls' := [(0, .ref _), (1, .ref _), (2, .ref _), (3, .ref _), (4, .ref _), (5, .int _), (6, .int _), (7, .int _)]) (show decode cL_law 1230 = .ok (.istore 7, 2) by decide +kernel) (by decide) rfl ?_
        refine X_aload_n (j := 2) (show decode cL_law 1232 = .ok (.aload_n 2, 1) by decide +kernel) rfl rfl ?_
        obtain ⟨s287, w⟩ := w
        refine X_vI (rc' := (n * 33 + 63)) (rs' := (n * 8198 + 16378)) (as := []) mv_L_168 (show decode cL_law 1233 = .ok (.invokevirtual 168, 3) by decide +kernel) (by decide) (by omega) (by omega) rfl rfl (Nat.le_of_ble_eq_true rfl) (rcvD s287 (by decide) rfl) (kX10_thrown w) (fun E h hk => hk.elim) (fun r281 h280 w => ?_)
        refine X_iload (j := 6) (show decode cL_law 1236 = .ok (.iload 6, 2) by decide +kernel) rfl ?_
        refine X_icmp_eq (tgt := 1243) (show decode cL_law 1238 = .ok (.if_icmp .eq 5, 3) by decide +kernel) (by decide) ⟨fun c282 => ?_, fun c282 => ?_⟩
        · have w := w.1 c282
          refine X_iload (j := 6) (show decode cL_law 1243 = .ok (.iload 6, 2) by decide +kernel) rfl ?_
          refine X_if_ne (tgt := 1260) (show decode cL_law 1245 = .ok (.ifCond .ne 15, 3) by decide +kernel) (by decide) ⟨fun c283 => ?_, fun c283 => ?_⟩
          · have w := w.1 c283
            refine X_goto (tgt := 2925) (show decode cL_law 1260 = .ok (.goto 1665, 3) by decide +kernel) (by decide) ?_
            refine X_iinc (j := 5) (v := _ + (nI 4)) (ls' := [(0, .ref _), (1, .ref _), (2, .ref _), (3, .ref _), (4, .ref _), (5, .int _), (6, .int _), (7, .int _)]) (show decode cL_law 2925 = .ok (.iinc 5 4, 3) by decide +kernel) rfl rfl (Nat.le_of_ble_eq_true rfl) rfl ?_
            refine X_goto (tgt := 28) (show decode cL_law 2928 = .ok (.goto (-2900), 3) by decide +kernel) (by decide) ?_
            refine X_room (rc' := (n * 33 + 33)) (rs' := (n * 8198 + 8198)) (by omega) (by omega) ?_
            refine X_pick (ls' := [(0, .ref _), (1, .ref _), (2, .ref _), (3, .ref _), (4, .ref _), (5, .int _)]) [0, 1, 2, 3, 4, 5] rfl ?_
            exact ih _ _ _ _ _ _ _ w
          · have w := w.2 c283
            refine X_aload_n (j := 3) (show decode cL_law 1248 = .ok (.aload_n 3, 1) by decide +kernel) rfl rfl ?_
            refine X_iconst (v := (nI 0)) (show decode cL_law 1249 = .ok (.iconst 0, 1) by decide +kernel) (by decide) ?_
            obtain ⟨s284, w⟩ := w
            obtain ⟨s285, w⟩ := w
            refine X_lald (show decode cL_law 1250 = .ok (.laload, 1) by decide +kernel) (isA_eq s284) s285 ?_
            refine X_iload (j := 7) (show decode cL_law 1251 = .ok (.iload 7, 2) by decide +kernel) rfl ?_
            refine X_i2l (show decode cL_law 1253 = .ok (.i2l, 1) by decide +kernel) ?_
            refine X_lcmp (show decode cL_law 1254 = .ok (.lcmp, 1) by decide +kernel) ?_
            refine X_if_eq (tgt := 1260) (show decode cL_law 1255 = .ok (.ifCond .eq 5, 3) by decide +kernel) (by decide) ⟨fun c286 => ?_, fun c286 => ?_⟩
            · have w := w.1 c286
              refine X_goto (tgt := 2925) (show decode cL_law 1260 = .ok (.goto 1665, 3) by decide +kernel) (by decide) ?_
              refine X_iinc (j := 5) (v := _ + (nI 4)) (ls' := [(0, .ref _), (1, .ref _), (2, .ref _), (3, .ref _), (4, .ref _), (5, .int _), (6, .int _), (7, .int _)]) (show decode cL_law 2925 = .ok (.iinc 5 4, 3) by decide +kernel) rfl rfl (Nat.le_of_ble_eq_true rfl) rfl ?_
              refine X_goto (tgt := 28) (show decode cL_law 2928 = .ok (.goto (-2900), 3) by decide +kernel) (by decide) ?_
              refine X_room (rc' := (n * 33 + 33)) (rs' := (n * 8198 + 8198)) (by omega) (by omega) ?_
              refine X_pick (ls' := [(0, .ref _), (1, .ref _), (2, .ref _), (3, .ref _), (4, .ref _), (5, .int _)]) [0, 1, 2, 3, 4, 5] rfl ?_
              exact ih _ _ _ _ _ _ _ w
            · have w := w.2 c286
              refine X_iconst (v := (nI 0)) (show decode cL_law 1258 = .ok (.iconst 0, 1) by decide +kernel) (by decide) ?_
              exact X_iret ⟨(show decode cL_law 1259 = .ok (.ireturn, 1) by decide +kernel), .boolean, rfl, (by decide)⟩ ⟨_, rfl, w⟩
        · have w := w.2 c282
          refine X_iconst (v := (nI 0)) (show decode cL_law 1241 = .ok (.iconst 0, 1) by decide +kernel) (by decide) ?_
          exact X_iret ⟨(show decode cL_law 1242 = .ok (.ireturn, 1) by decide +kernel), .boolean, rfl, (by decide)⟩ ⟨_, rfl, w⟩
      by_cases z17 : (mI h x0 x5.toNatClampNeg &&& (nI 63)) = (nI 17)
      · have w := w.2.2.2.2.2.2.2.2.2.2.2.2.2.2.2.2.2.1 z17
        refine X_tableIn (tgt := 1263) (show decode cL_law 44 = .ok (.tableswitch 2881 0 54 #[236, 292, 372, 440, 496, 552, 615, 683, 739, 795, 851, 864, 920, 976, 1032, 1095, 1151, 1219, 1287, 1367, 1435, 1448, 1473, 1529, 1585, 1648, 1711, 1767, 1823, 1879, 1935, 1991, 2066, 2079, 2092, 2167, 2180, 2193, 2237, 2281, 2294, 2307, 2321, 2386, 2452, 2465, 2478, 2534, 2590, 2648, 2692, 2736, 2780, 2824, 2837], 236) by decide +kernel) (by rw [z17]; decide) (by rw [z17]; decide) (by rw [z17] <;> rfl) (by decide) ?_
        refine X_aload_n (j := 1) (show decode cL_law 1263 = .ok (.aload_n 1, 1) by decide +kernel) rfl rfl ?_
        refine X_aload_n (j := 0) (show decode cL_law 1264 = .ok (.aload_n 0, 1) by decide +kernel) rfl rfl ?_
        refine X_iload (j := 5) (show decode cL_law 1265 = .ok (.iload 5, 2) by decide +kernel) rfl ?_
        refine X_iconst (v := (nI 1)) (show decode cL_law 1267 = .ok (.iconst 1, 1) by decide +kernel) (by decide) ?_
        refine X_iadd (show decode cL_law 1268 = .ok (.iadd, 1) by decide +kernel) ?_
        obtain ⟨s289, w⟩ := w
        refine X_iald (show decode cL_law 1269 = .ok (.iaload, 1) by decide +kernel) (isA_eq s9) s289 ?_
        refine X_aload_n (j := 0) (show decode cL_law 1270 = .ok (.aload_n 0, 1) by decide +kernel) rfl rfl ?_
        refine X_iload (j := 5) (show decode cL_law 1271 = .ok (.iload 5, 2) by decide +kernel) rfl ?_
        refine X_iconst (v := (nI 2)) (show decode cL_law 1273 = .ok (.iconst 2, 1) by decide +kernel) (by decide) ?_
        refine X_iadd (show decode cL_law 1274 = .ok (.iadd, 1) by decide +kernel) ?_
        obtain ⟨s290, w⟩ := w
        refine X_iald (show decode cL_law 1275 = .ok (.iaload, 1) by decide +kernel) (isA_eq s9) s290 ?_
        refine X_aload_n (j := 3) (show decode cL_law 1276 = .ok (.aload_n 3, 1) by decide +kernel) rfl rfl ?_
        refine X_sH (rc' := (n * 33 + 63)) (rs' := (n * 8198 + 16378)) (as := [.ref _, .int _, .int _, .ref _]) msh_L_222 (show decode cL_law 1277 = .ok (.invokestatic 222, 3) by decide +kernel) (by decide) (by omega) (by omega) rfl rfl (Nat.le_of_ble_eq_true rfl) (kL_routeLengthByPaths w) (fun r292 h291 w => ?_)
        refine X_istore (ls' := [(0, .ref _), (1, .ref _), (2, .ref _), (3, .ref _), (4, .ref _), (5, .int _), (6, .int _)]) (show decode cL_law 1280 = .ok (.istore 6, 2) by decide +kernel) (by decide) rfl ?_
        refine X_aload_n (j := 2) (show decode cL_law 1282 = .ok (.aload_n 2, 1) by decide +kernel) rfl rfl ?_
        refine X_aload_n (j := 0) (show decode cL_law 1283 = .ok (.aload_n 0, 1) by decide +kernel) rfl rfl ?_
        refine X_iload (j := 5) (show decode cL_law 1284 = .ok (.iload 5, 2) by decide +kernel) rfl ?_
        refine X_iconst (v := (nI 1)) (show decode cL_law 1286 = .ok (.iconst 1, 1) by decide +kernel) (by decide) ?_
        refine X_iadd (show decode cL_law 1287 = .ok (.iadd, 1) by decide +kernel) ?_
        obtain ⟨s293, w⟩ := w
        obtain ⟨s294, w⟩ := w
        refine X_iald (show decode cL_law 1288 = .ok (.iaload, 1) by decide +kernel) (isA_eq s293) s294 ?_
        refine X_aload_n (j := 0) (show decode cL_law 1289 = .ok (.aload_n 0, 1) by decide +kernel) rfl rfl ?_
        refine X_iload (j := 5) (show decode cL_law 1290 = .ok (.iload 5, 2) by decide +kernel) rfl ?_
        refine X_iconst (v := (nI 2)) (show decode cL_law 1292 = .ok (.iconst 2, 1) by decide +kernel) (by decide) ?_
        refine X_iadd (show decode cL_law 1293 = .ok (.iadd, 1) by decide +kernel) ?_
        obtain ⟨s295, w⟩ := w
        refine X_iald (show decode cL_law 1294 = .ok (.iaload, 1) by decide +kernel) (isA_eq s293) s295 ?_
        obtain ⟨s306, w⟩ := w
        refine X_vI (rc' := (n * 33 + 63)) (rs' := (n * 8198 + 16378)) (as := [.int _, .int _]) mv_L_224 (show decode cL_law 1295 = .ok (.invokevirtual 224, 3) by decide +kernel) (by decide) (by omega) (by omega) rfl rfl (Nat.le_of_ble_eq_true rfl) (rcvD s306 (by decide) rfl) (kX10_routeLengthByPaths w) (fun E h hk => hk.elim) (fun r297 h296 w => ?_)
        refine X_istore (ls' := [(0, .ref _), (1, .ref _), (2, .ref _), (3, .ref _), (4, .ref _), (5, .int _), (6, .int _), (7, .int _)]) (show decode cL_law 1298 = .ok (.istore 7, 2) by decide +kernel) (by decide) rfl ?_
        refine X_aload_n (j := 2) (show decode cL_law 1300 = .ok (.aload_n 2, 1) by decide +kernel) rfl rfl ?_
        obtain ⟨s305, w⟩ := w
        refine X_vI (rc' := (n * 33 + 63)) (rs' := (n * 8198 + 16378)) (as := []) mv_L_168 (show decode cL_law 1301 = .ok (.invokevirtual 168, 3) by decide +kernel) (by decide) (by omega) (by omega) rfl rfl (Nat.le_of_ble_eq_true rfl) (rcvD s305 (by decide) rfl) (kX10_thrown w) (fun E h hk => hk.elim) (fun r299 h298 w => ?_)
        refine X_iload (j := 6) (show decode cL_law 1304 = .ok (.iload 6, 2) by decide +kernel) rfl ?_
        refine X_icmp_eq (tgt := 1311) (show decode cL_law 1306 = .ok (.if_icmp .eq 5, 3) by decide +kernel) (by decide) ⟨fun c300 => ?_, fun c300 => ?_⟩
        · have w := w.1 c300
          refine X_iload (j := 6) (show decode cL_law 1311 = .ok (.iload 6, 2) by decide +kernel) rfl ?_
          refine X_if_ne (tgt := 1328) (show decode cL_law 1313 = .ok (.ifCond .ne 15, 3) by decide +kernel) (by decide) ⟨fun c301 => ?_, fun c301 => ?_⟩
          · have w := w.1 c301
            refine X_goto (tgt := 2925) (show decode cL_law 1328 = .ok (.goto 1597, 3) by decide +kernel) (by decide) ?_
            refine X_iinc (j := 5) (v := _ + (nI 4)) (ls' := [(0, .ref _), (1, .ref _), (2, .ref _), (3, .ref _), (4, .ref _), (5, .int _), (6, .int _), (7, .int _)]) (show decode cL_law 2925 = .ok (.iinc 5 4, 3) by decide +kernel) rfl rfl (Nat.le_of_ble_eq_true rfl) rfl ?_
            refine X_goto (tgt := 28) (show decode cL_law 2928 = .ok (.goto (-2900), 3) by decide +kernel) (by decide) ?_
            refine X_room (rc' := (n * 33 + 33)) (rs' := (n * 8198 + 8198)) (by omega) (by omega) ?_
            refine X_pick (ls' := [(0, .ref _), (1, .ref _), (2, .ref _), (3, .ref _), (4, .ref _), (5, .int _)]) [0, 1, 2, 3, 4, 5] rfl ?_
            exact ih _ _ _ _ _ _ _ w
          · have w := w.2 c301
            refine X_aload_n (j := 3) (show decode cL_law 1316 = .ok (.aload_n 3, 1) by decide +kernel) rfl rfl ?_
            refine X_iconst (v := (nI 0)) (show decode cL_law 1317 = .ok (.iconst 0, 1) by decide +kernel) (by decide) ?_
            obtain ⟨s302, w⟩ := w
            obtain ⟨s303, w⟩ := w
            refine X_lald (show decode cL_law 1318 = .ok (.laload, 1) by decide +kernel) (isA_eq s302) s303 ?_
            refine X_iload (j := 7) (show decode cL_law 1319 = .ok (.iload 7, 2) by decide +kernel) rfl ?_
            refine X_i2l (show decode cL_law 1321 = .ok (.i2l, 1) by decide +kernel) ?_
            refine X_lcmp (show decode cL_law 1322 = .ok (.lcmp, 1) by decide +kernel) ?_
            refine X_if_eq (tgt := 1328) (show decode cL_law 1323 = .ok (.ifCond .eq 5, 3) by decide +kernel) (by decide) ⟨fun c304 => ?_, fun c304 => ?_⟩
            · have w := w.1 c304
              refine X_goto (tgt := 2925) (show decode cL_law 1328 = .ok (.goto 1597, 3) by decide +kernel) (by decide) ?_
              refine X_iinc (j := 5) (v := _ + (nI 4)) (ls' := [(0, .ref _), (1, .ref _), (2, .ref _), (3, .ref _), (4, .ref _), (5, .int _), (6, .int _), (7, .int _)]) (show decode cL_law 2925 = .ok (.iinc 5 4, 3) by decide +kernel) rfl rfl (Nat.le_of_ble_eq_true rfl) rfl ?_
              refine X_goto (tgt := 28) (show decode cL_law 2928 = .ok (.goto (-2900), 3) by decide +kernel) (by decide) ?_
              refine X_room (rc' := (n * 33 + 33)) (rs' := (n * 8198 + 8198)) (by omega) (by omega) ?_
              refine X_pick (ls' := [(0, .ref _), (1, .ref _), (2, .ref _), (3, .ref _), (4, .ref _), (5, .int _)]) [0, 1, 2, 3, 4, 5] rfl ?_
              exact ih _ _ _ _ _ _ _ w
            · have w := w.2 c304
              refine X_iconst (v := (nI 0)) (show decode cL_law 1326 = .ok (.iconst 0, 1) by decide +kernel) (by decide) ?_
              exact X_iret ⟨(show decode cL_law 1327 = .ok (.ireturn, 1) by decide +kernel), .boolean, rfl, (by decide)⟩ ⟨_, rfl, w⟩
        · have w := w.2 c300
          refine X_iconst (v := (nI 0)) (show decode cL_law 1309 = .ok (.iconst 0, 1) by decide +kernel) (by decide) ?_
          exact X_iret ⟨(show decode cL_law 1310 = .ok (.ireturn, 1) by decide +kernel), .boolean, rfl, (by decide)⟩ ⟨_, rfl, w⟩
      by_cases z18 : (mI h x0 x5.toNatClampNeg &&& (nI 63)) = (nI 18)
      · have w := w.2.2.2.2.2.2.2.2.2.2.2.2.2.2.2.2.2.2.1 z18
        refine X_tableIn (tgt := 1331) (show decode cL_law 44 = .ok (.tableswitch 2881 0 54 #[236, 292, 372, 440, 496, 552, 615, 683, 739, 795, 851, 864, 920, 976, 1032, 1095, 1151, 1219, 1287, 1367, 1435, 1448, 1473, 1529, 1585, 1648, 1711, 1767, 1823, 1879, 1935, 1991, 2066, 2079, 2092, 2167, 2180, 2193, 2237, 2281, 2294, 2307, 2321, 2386, 2452, 2465, 2478, 2534, 2590, 2648, 2692, 2736, 2780, 2824, 2837], 236) by decide +kernel) (by rw [z18]; decide) (by rw [z18]; decide) (by rw [z18] <;> rfl) (by decide) ?_
        refine X_aload_n (j := 1) (show decode cL_law 1331 = .ok (.aload_n 1, 1) by decide +kernel) rfl rfl ?_
        refine X_aload_n (j := 0) (show decode cL_law 1332 = .ok (.aload_n 0, 1) by decide +kernel) rfl rfl ?_
        refine X_iload (j := 5) (show decode cL_law 1333 = .ok (.iload 5, 2) by decide +kernel) rfl ?_
        refine X_iconst (v := (nI 1)) (show decode cL_law 1335 = .ok (.iconst 1, 1) by decide +kernel) (by decide) ?_
        refine X_iadd (show decode cL_law 1336 = .ok (.iadd, 1) by decide +kernel) ?_
        obtain ⟨s307, w⟩ := w
        refine X_iald (show decode cL_law 1337 = .ok (.iaload, 1) by decide +kernel) (isA_eq s9) s307 ?_
        refine X_aload_n (j := 0) (show decode cL_law 1338 = .ok (.aload_n 0, 1) by decide +kernel) rfl rfl ?_
        refine X_iload (j := 5) (show decode cL_law 1339 = .ok (.iload 5, 2) by decide +kernel) rfl ?_
        refine X_iconst (v := (nI 2)) (show decode cL_law 1341 = .ok (.iconst 2, 1) by decide +kernel) (by decide) ?_
        refine X_iadd (show decode cL_law 1342 = .ok (.iadd, 1) by decide +kernel) ?_
        obtain ⟨s308, w⟩ := w
        refine X_iald (show decode cL_law 1343 = .ok (.iaload, 1) by decide +kernel) (isA_eq s9) s308 ?_
        refine X_aload_n (j := 0) (show decode cL_law 1344 = .ok (.aload_n 0, 1) by decide +kernel) rfl rfl ?_
        refine X_iload (j := 5) (show decode cL_law 1345 = .ok (.iload 5, 2) by decide +kernel) rfl ?_
        refine X_iconst (v := (nI 3)) (show decode cL_law 1347 = .ok (.iconst 3, 1) by decide +kernel) (by decide) ?_
        refine X_iadd (show decode cL_law 1348 = .ok (.iadd, 1) by decide +kernel) ?_
        obtain ⟨s309, w⟩ := w
        refine X_iald (show decode cL_law 1349 = .ok (.iaload, 1) by decide +kernel) (isA_eq s9) s309 ?_
        refine X_aload_n (j := 3) (show decode cL_law 1350 = .ok (.aload_n 3, 1) by decide +kernel) rfl rfl ?_
        refine X_sH (rc' := (n * 33 + 62)) (rs' := (n * 8198 + 16372)) (as := [.ref _, .int _, .int _, .int _, .ref _]) msh_L_225 (show decode cL_law 1351 = .ok (.invokestatic 225, 3) by decide +kernel) (by decide) (by omega) (by omega) rfl rfl (Nat.le_of_ble_eq_true rfl) (kL_routeBlock w) (fun r311 h310 w => ?_)
        refine X_istore (ls' := [(0, .ref _), (1, .ref _), (2, .ref _), (3, .ref _), (4, .ref _), (5, .int _), (6, .int _)]) (show decode cL_law 1354 = .ok (.istore 6, 2) by decide +kernel) (by decide) rfl ?_
        refine X_aload_n (j := 2) (show decode cL_law 1356 = .ok (.aload_n 2, 1) by decide +kernel) rfl rfl ?_
        refine X_aload_n (j := 0) (show decode cL_law 1357 = .ok (.aload_n 0, 1) by decide +kernel) rfl rfl ?_
        refine X_iload (j := 5) (show decode cL_law 1358 = .ok (.iload 5, 2) by decide +kernel) rfl ?_
        refine X_iconst (v := (nI 1)) (show decode cL_law 1360 = .ok (.iconst 1, 1) by decide +kernel) (by decide) ?_
        refine X_iadd (show decode cL_law 1361 = .ok (.iadd, 1) by decide +kernel) ?_
        obtain ⟨s312, w⟩ := w
        obtain ⟨s313, w⟩ := w
        refine X_iald (show decode cL_law 1362 = .ok (.iaload, 1) by decide +kernel) (isA_eq s312) s313 ?_
        refine X_aload_n (j := 0) (show decode cL_law 1363 = .ok (.aload_n 0, 1) by decide +kernel) rfl rfl ?_
        refine X_iload (j := 5) (show decode cL_law 1364 = .ok (.iload 5, 2) by decide +kernel) rfl ?_
        refine X_iconst (v := (nI 2)) (show decode cL_law 1366 = .ok (.iconst 2, 1) by decide +kernel) (by decide) ?_
        refine X_iadd (show decode cL_law 1367 = .ok (.iadd, 1) by decide +kernel) ?_
        obtain ⟨s314, w⟩ := w
        refine X_iald (show decode cL_law 1368 = .ok (.iaload, 1) by decide +kernel) (isA_eq s312) s314 ?_
        refine X_aload_n (j := 0) (show decode cL_law 1369 = .ok (.aload_n 0, 1) by decide +kernel) rfl rfl ?_
        refine X_iload (j := 5) (show decode cL_law 1370 = .ok (.iload 5, 2) by decide +kernel) rfl ?_
        refine X_iconst (v := (nI 3)) (show decode cL_law 1372 = .ok (.iconst 3, 1) by decide +kernel) (by decide) ?_
        refine X_iadd (show decode cL_law 1373 = .ok (.iadd, 1) by decide +kernel) ?_
        obtain ⟨s315, w⟩ := w
        refine X_iald (show decode cL_law 1374 = .ok (.iaload, 1) by decide +kernel) (isA_eq s312) s315 ?_
        obtain ⟨s326, w⟩ := w
        refine X_vI (rc' := (n * 33 + 62)) (rs' := (n * 8198 + 16372)) (as := [.int _, .int _, .int _]) mv_L_227 (show decode cL_law 1375 = .ok (.invokevirtual 227, 3) by decide +kernel) (by decide) (by omega) (by omega) rfl rfl (Nat.le_of_ble_eq_true rfl) (rcvD s326 (by decide) rfl) (kX10_routeBlock w) (fun E h hk => hk.elim) (fun r317 h316 w => ?_)
        refine X_istore (ls' := [(0, .ref _), (1, .ref _), (2, .ref _), (3, .ref _), (4, .ref _), (5, .int _), (6, .int _), (7, .int _)]) (show decode cL_law 1378 = .ok (.istore 7, 2) by decide +kernel) (by decide) rfl ?_
        refine X_aload_n (j := 2) (show decode cL_law 1380 = .ok (.aload_n 2, 1) by decide +kernel) rfl rfl ?_
        obtain ⟨s325, w⟩ := w
        refine X_vI (rc' := (n * 33 + 62)) (rs' := (n * 8198 + 16372)) (as := []) mv_L_168 (show decode cL_law 1381 = .ok (.invokevirtual 168, 3) by decide +kernel) (by decide) (by omega) (by omega) rfl rfl (Nat.le_of_ble_eq_true rfl) (rcvD s325 (by decide) rfl) (kX10_thrown w) (fun E h hk => hk.elim) (fun r319 h318 w => ?_)
        refine X_iload (j := 6) (show decode cL_law 1384 = .ok (.iload 6, 2) by decide +kernel) rfl ?_
        refine X_icmp_eq (tgt := 1391) (show decode cL_law 1386 = .ok (.if_icmp .eq 5, 3) by decide +kernel) (by decide) ⟨fun c320 => ?_, fun c320 => ?_⟩
        · have w := w.1 c320
          refine X_iload (j := 6) (show decode cL_law 1391 = .ok (.iload 6, 2) by decide +kernel) rfl ?_
          refine X_if_ne (tgt := 1408) (show decode cL_law 1393 = .ok (.ifCond .ne 15, 3) by decide +kernel) (by decide) ⟨fun c321 => ?_, fun c321 => ?_⟩
          · have w := w.1 c321
            refine X_goto (tgt := 2925) (show decode cL_law 1408 = .ok (.goto 1517, 3) by decide +kernel) (by decide) ?_
            refine X_iinc (j := 5) (v := _ + (nI 4)) (ls' := [(0, .ref _), (1, .ref _), (2, .ref _), (3, .ref _), (4, .ref _), (5, .int _), (6, .int _), (7, .int _)]) (show decode cL_law 2925 = .ok (.iinc 5 4, 3) by decide +kernel) rfl rfl (Nat.le_of_ble_eq_true rfl) rfl ?_
            refine X_goto (tgt := 28) (show decode cL_law 2928 = .ok (.goto (-2900), 3) by decide +kernel) (by decide) ?_
            refine X_room (rc' := (n * 33 + 33)) (rs' := (n * 8198 + 8198)) (by omega) (by omega) ?_
            refine X_pick (ls' := [(0, .ref _), (1, .ref _), (2, .ref _), (3, .ref _), (4, .ref _), (5, .int _)]) [0, 1, 2, 3, 4, 5] rfl ?_
            exact ih _ _ _ _ _ _ _ w
          · have w := w.2 c321
            refine X_aload_n (j := 3) (show decode cL_law 1396 = .ok (.aload_n 3, 1) by decide +kernel) rfl rfl ?_
            refine X_iconst (v := (nI 0)) (show decode cL_law 1397 = .ok (.iconst 0, 1) by decide +kernel) (by decide) ?_
            obtain ⟨s322, w⟩ := w
            obtain ⟨s323, w⟩ := w
            refine X_lald (show decode cL_law 1398 = .ok (.laload, 1) by decide +kernel) (isA_eq s322) s323 ?_
            refine X_iload (j := 7) (show decode cL_law 1399 = .ok (.iload 7, 2) by decide +kernel) rfl ?_
            refine X_i2l (show decode cL_law 1401 = .ok (.i2l, 1) by decide +kernel) ?_
            refine X_lcmp (show decode cL_law 1402 = .ok (.lcmp, 1) by decide +kernel) ?_
            refine X_if_eq (tgt := 1408) (show decode cL_law 1403 = .ok (.ifCond .eq 5, 3) by decide +kernel) (by decide) ⟨fun c324 => ?_, fun c324 => ?_⟩
            · have w := w.1 c324
              refine X_goto (tgt := 2925) (show decode cL_law 1408 = .ok (.goto 1517, 3) by decide +kernel) (by decide) ?_
              refine X_iinc (j := 5) (v := _ + (nI 4)) (ls' := [(0, .ref _), (1, .ref _), (2, .ref _), (3, .ref _), (4, .ref _), (5, .int _), (6, .int _), (7, .int _)]) (show decode cL_law 2925 = .ok (.iinc 5 4, 3) by decide +kernel) rfl rfl (Nat.le_of_ble_eq_true rfl) rfl ?_
              refine X_goto (tgt := 28) (show decode cL_law 2928 = .ok (.goto (-2900), 3) by decide +kernel) (by decide) ?_
              refine X_room (rc' := (n * 33 + 33)) (rs' := (n * 8198 + 8198)) (by omega) (by omega) ?_
              refine X_pick (ls' := [(0, .ref _), (1, .ref _), (2, .ref _), (3, .ref _), (4, .ref _), (5, .int _)]) [0, 1, 2, 3, 4, 5] rfl ?_
              exact ih _ _ _ _ _ _ _ w
            · have w := w.2 c324
              refine X_iconst (v := (nI 0)) (show decode cL_law 1406 = .ok (.iconst 0, 1) by decide +kernel) (by decide) ?_
              exact X_iret ⟨(show decode cL_law 1407 = .ok (.ireturn, 1) by decide +kernel), .boolean, rfl, (by decide)⟩ ⟨_, rfl, w⟩
        · have w := w.2 c320
          refine X_iconst (v := (nI 0)) (show decode cL_law 1389 = .ok (.iconst 0, 1) by decide +kernel) (by decide) ?_
          exact X_iret ⟨(show decode cL_law 1390 = .ok (.ireturn, 1) by decide +kernel), .boolean, rfl, (by decide)⟩ ⟨_, rfl, w⟩
      by_cases z19 : (mI h x0 x5.toNatClampNeg &&& (nI 63)) = (nI 19)
      · have w := w.2.2.2.2.2.2.2.2.2.2.2.2.2.2.2.2.2.2.2.1 z19
        refine X_tableIn (tgt := 1411) (show decode cL_law 44 = .ok (.tableswitch 2881 0 54 #[236, 292, 372, 440, 496, 552, 615, 683, 739, 795, 851, 864, 920, 976, 1032, 1095, 1151, 1219, 1287, 1367, 1435, 1448, 1473, 1529, 1585, 1648, 1711, 1767, 1823, 1879, 1935, 1991, 2066, 2079, 2092, 2167, 2180, 2193, 2237, 2281, 2294, 2307, 2321, 2386, 2452, 2465, 2478, 2534, 2590, 2648, 2692, 2736, 2780, 2824, 2837], 236) by decide +kernel) (by rw [z19]; decide) (by rw [z19]; decide) (by rw [z19] <;> rfl) (by decide) ?_
        refine X_aload_n (j := 1) (show decode cL_law 1411 = .ok (.aload_n 1, 1) by decide +kernel) rfl rfl ?_
        refine X_aload_n (j := 0) (show decode cL_law 1412 = .ok (.aload_n 0, 1) by decide +kernel) rfl rfl ?_
        refine X_iload (j := 5) (show decode cL_law 1413 = .ok (.iload 5, 2) by decide +kernel) rfl ?_
        refine X_iconst (v := (nI 1)) (show decode cL_law 1415 = .ok (.iconst 1, 1) by decide +kernel) (by decide) ?_
        refine X_iadd (show decode cL_law 1416 = .ok (.iadd, 1) by decide +kernel) ?_
        obtain ⟨s327, w⟩ := w
        refine X_iald (show decode cL_law 1417 = .ok (.iaload, 1) by decide +kernel) (isA_eq s9) s327 ?_
        refine X_aload_n (j := 0) (show decode cL_law 1418 = .ok (.aload_n 0, 1) by decide +kernel) rfl rfl ?_
        refine X_iload (j := 5) (show decode cL_law 1419 = .ok (.iload 5, 2) by decide +kernel) rfl ?_
        refine X_iconst (v := (nI 2)) (show decode cL_law 1421 = .ok (.iconst 2, 1) by decide +kernel) (by decide) ?_
        refine X_iadd (show decode cL_law 1422 = .ok (.iadd, 1) by decide +kernel) ?_
        obtain ⟨s328, w⟩ := w
        refine X_iald (show decode cL_law 1423 = .ok (.iaload, 1) by decide +kernel) (isA_eq s9) s328 ?_
        refine X_aload_n (j := 3) (show decode cL_law 1424 = .ok (.aload_n 3, 1) by decide +kernel) rfl rfl ?_
        refine X_sH (rc' := (n * 33 + 64)) (rs' := (n * 8198 + 16384)) (as := [.ref _, .int _, .int _, .ref _]) msh_L_228 (show decode cL_law 1425 = .ok (.invokestatic 228, 3) by decide +kernel) (by decide) (by omega) (by omega) rfl rfl (Nat.le_of_ble_eq_true rfl) (kL_paths w) (fun r330 h329 w => ?_)
        refine X_istore (ls' := [(0, .ref _), (1, .ref _), (2, .ref _), (3, .ref _), (4, .ref _), (5, .int _), (6, .int _)]) (show decode cL_law 1428 = .ok (.istore 6, 2) by decide +kernel) (by decide) rfl ?_
        refine X_aload_n (j := 2) (show decode cL_law 1430 = .ok (.aload_n 2, 1) by decide +kernel) rfl rfl ?_
        refine X_aload_n (j := 0) (show decode cL_law 1431 = .ok (.aload_n 0, 1) by decide +kernel) rfl rfl ?_
        refine X_iload (j := 5) (show decode cL_law 1432 = .ok (.iload 5, 2) by decide +kernel) rfl ?_
        refine X_iconst (v := (nI 1)) (show decode cL_law 1434 = .ok (.iconst 1, 1) by decide +kernel) (by decide) ?_
        refine X_iadd (show decode cL_law 1435 = .ok (.iadd, 1) by decide +kernel) ?_
        obtain ⟨s331, w⟩ := w
        obtain ⟨s332, w⟩ := w
        refine X_iald (show decode cL_law 1436 = .ok (.iaload, 1) by decide +kernel) (isA_eq s331) s332 ?_
        refine X_aload_n (j := 0) (show decode cL_law 1437 = .ok (.aload_n 0, 1) by decide +kernel) rfl rfl ?_
        refine X_iload (j := 5) (show decode cL_law 1438 = .ok (.iload 5, 2) by decide +kernel) rfl ?_
        refine X_iconst (v := (nI 2)) (show decode cL_law 1440 = .ok (.iconst 2, 1) by decide +kernel) (by decide) ?_
        refine X_iadd (show decode cL_law 1441 = .ok (.iadd, 1) by decide +kernel) ?_
        obtain ⟨s333, w⟩ := w
        refine X_iald (show decode cL_law 1442 = .ok (.iaload, 1) by decide +kernel) (isA_eq s331) s333 ?_
        obtain ⟨s344, w⟩ := w
        refine X_vI (rc' := (n * 33 + 64)) (rs' := (n * 8198 + 16384)) (as := [.int _, .int _]) mv_L_230 (show decode cL_law 1443 = .ok (.invokevirtual 230, 3) by decide +kernel) (by decide) (by omega) (by omega) rfl rfl (Nat.le_of_ble_eq_true rfl) (rcvD s344 (by decide) rfl) (kX10_paths w) (fun E h hk => hk.elim) (fun r335 h334 w => ?_)
        refine X_istore (ls' := [(0, .ref _), (1, .ref _), (2, .ref _), (3, .ref _), (4, .ref _), (5, .int _), (6, .int _), (7, .int _)]) (show decode cL_law 1446 = .ok (.istore 7, 2) by decide +kernel) (by decide) rfl ?_
        refine X_aload_n (j := 2) (show decode cL_law 1448 = .ok (.aload_n 2, 1) by decide +kernel) rfl rfl ?_
        obtain ⟨s343, w⟩ := w
        refine X_vI (rc' := (n * 33 + 64)) (rs' := (n * 8198 + 16384)) (as := []) mv_L_168 (show decode cL_law 1449 = .ok (.invokevirtual 168, 3) by decide +kernel) (by decide) (by omega) (by omega) rfl rfl (Nat.le_of_ble_eq_true rfl) (rcvD s343 (by decide) rfl) (kX10_thrown w) (fun E h hk => hk.elim) (fun r337 h336 w => ?_)
        refine X_iload (j := 6) (show decode cL_law 1452 = .ok (.iload 6, 2) by decide +kernel) rfl ?_
        refine X_icmp_eq (tgt := 1459) (show decode cL_law 1454 = .ok (.if_icmp .eq 5, 3) by decide +kernel) (by decide) ⟨fun c338 => ?_, fun c338 => ?_⟩
        · have w := w.1 c338
          refine X_iload (j := 6) (show decode cL_law 1459 = .ok (.iload 6, 2) by decide +kernel) rfl ?_
          refine X_if_ne (tgt := 1476) (show decode cL_law 1461 = .ok (.ifCond .ne 15, 3) by decide +kernel) (by decide) ⟨fun c339 => ?_, fun c339 => ?_⟩
          · have w := w.1 c339
            refine X_goto (tgt := 2925) (show decode cL_law 1476 = .ok (.goto 1449, 3) by decide +kernel) (by decide) ?_
            refine X_iinc (j := 5) (v := _ + (nI 4)) (ls' := [(0, .ref _), (1, .ref _), (2, .ref _), (3, .ref _), (4, .ref _), (5, .int _), (6, .int _), (7, .int _)]) (show decode cL_law 2925 = .ok (.iinc 5 4, 3) by decide +kernel) rfl rfl (Nat.le_of_ble_eq_true rfl) rfl ?_
            refine X_goto (tgt := 28) (show decode cL_law 2928 = .ok (.goto (-2900), 3) by decide +kernel) (by decide) ?_
            refine X_room (rc' := (n * 33 + 33)) (rs' := (n * 8198 + 8198)) (by omega) (by omega) ?_
            refine X_pick (ls' := [(0, .ref _), (1, .ref _), (2, .ref _), (3, .ref _), (4, .ref _), (5, .int _)]) [0, 1, 2, 3, 4, 5] rfl ?_
            exact ih _ _ _ _ _ _ _ w
          · have w := w.2 c339
            refine X_aload_n (j := 3) (show decode cL_law 1464 = .ok (.aload_n 3, 1) by decide +kernel) rfl rfl ?_
            refine X_iconst (v := (nI 0)) (show decode cL_law 1465 = .ok (.iconst 0, 1) by decide +kernel) (by decide) ?_
            obtain ⟨s340, w⟩ := w
            obtain ⟨s341, w⟩ := w
            refine X_lald (show decode cL_law 1466 = .ok (.laload, 1) by decide +kernel) (isA_eq s340) s341 ?_
            refine X_iload (j := 7) (show decode cL_law 1467 = .ok (.iload 7, 2) by decide +kernel) rfl ?_
            refine X_i2l (show decode cL_law 1469 = .ok (.i2l, 1) by decide +kernel) ?_
            refine X_lcmp (show decode cL_law 1470 = .ok (.lcmp, 1) by decide +kernel) ?_
            refine X_if_eq (tgt := 1476) (show decode cL_law 1471 = .ok (.ifCond .eq 5, 3) by decide +kernel) (by decide) ⟨fun c342 => ?_, fun c342 => ?_⟩
            · have w := w.1 c342
              refine X_goto (tgt := 2925) (show decode cL_law 1476 = .ok (.goto 1449, 3) by decide +kernel) (by decide) ?_
              refine X_iinc (j := 5) (v := _ + (nI 4)) (ls' := [(0, .ref _), (1, .ref _), (2, .ref _), (3, .ref _), (4, .ref _), (5, .int _), (6, .int _), (7, .int _)]) (show decode cL_law 2925 = .ok (.iinc 5 4, 3) by decide +kernel) rfl rfl (Nat.le_of_ble_eq_true rfl) rfl ?_
              refine X_goto (tgt := 28) (show decode cL_law 2928 = .ok (.goto (-2900), 3) by decide +kernel) (by decide) ?_
              refine X_room (rc' := (n * 33 + 33)) (rs' := (n * 8198 + 8198)) (by omega) (by omega) ?_
              refine X_pick (ls' := [(0, .ref _), (1, .ref _), (2, .ref _), (3, .ref _), (4, .ref _), (5, .int _)]) [0, 1, 2, 3, 4, 5] rfl ?_
              exact ih _ _ _ _ _ _ _ w
            · have w := w.2 c342
              refine X_iconst (v := (nI 0)) (show decode cL_law 1474 = .ok (.iconst 0, 1) by decide +kernel) (by decide) ?_
              exact X_iret ⟨(show decode cL_law 1475 = .ok (.ireturn, 1) by decide +kernel), .boolean, rfl, (by decide)⟩ ⟨_, rfl, w⟩
        · have w := w.2 c338
          refine X_iconst (v := (nI 0)) (show decode cL_law 1457 = .ok (.iconst 0, 1) by decide +kernel) (by decide) ?_
          exact X_iret ⟨(show decode cL_law 1458 = .ok (.ireturn, 1) by decide +kernel), .boolean, rfl, (by decide)⟩ ⟨_, rfl, w⟩
      by_cases z20 : (mI h x0 x5.toNatClampNeg &&& (nI 63)) = (nI 20)
      · have w := w.2.2.2.2.2.2.2.2.2.2.2.2.2.2.2.2.2.2.2.2.1 z20
        refine X_tableIn (tgt := 1479) (show decode cL_law 44 = .ok (.tableswitch 2881 0 54 #[236, 292, 372, 440, 496, 552, 615, 683, 739, 795, 851, 864, 920, 976, 1032, 1095, 1151, 1219, 1287, 1367, 1435, 1448, 1473, 1529, 1585, 1648, 1711, 1767, 1823, 1879, 1935, 1991, 2066, 2079, 2092, 2167, 2180, 2193, 2237, 2281, 2294, 2307, 2321, 2386, 2452, 2465, 2478, 2534, 2590, 2648, 2692, 2736, 2780, 2824, 2837], 236) by decide +kernel) (by rw [z20]; decide) (by rw [z20]; decide) (by rw [z20] <;> rfl) (by decide) ?_
        refine X_aload_n (j := 1) (show decode cL_law 1479 = .ok (.aload_n 1, 1) by decide +kernel) rfl rfl ?_
        obtain ⟨s351, w⟩ := w
        refine X_vI (rc' := (n * 33 + 66)) (rs' := (n * 8198 + 16396)) (as := []) mv_L_231 (show decode cL_law 1480 = .ok (.invokevirtual 231, 3) by decide +kernel) (by decide) (by omega) (by omega) rfl rfl (Nat.le_of_ble_eq_true rfl) (rcvD s351 (by decide) rfl) (kX9_trains w) (fun E h hk => hk.elim) (fun r346 h345 w => ?_)
        refine X_aload_n (j := 2) (show decode cL_law 1483 = .ok (.aload_n 2, 1) by decide +kernel) rfl rfl ?_
        obtain ⟨s350, w⟩ := w
        refine X_vI (rc' := (n * 33 + 66)) (rs' := (n * 8198 + 16396)) (as := []) mv_L_234 (show decode cL_law 1484 = .ok (.invokevirtual 234, 3) by decide +kernel) (by decide) (by omega) (by omega) rfl rfl (Nat.le_of_ble_eq_true rfl) (rcvD s350 (by decide) rfl) (kX10_trains w) (fun E h hk => hk.elim) (fun r348 h347 w => ?_)
        refine X_icmp_eq (tgt := 2925) (show decode cL_law 1487 = .ok (.if_icmp .eq 1438, 3) by decide +kernel) (by decide) ⟨fun c349 => ?_, fun c349 => ?_⟩
        · have w := w.1 c349
          refine X_iinc (j := 5) (v := _ + (nI 4)) (ls' := [(0, .ref _), (1, .ref _), (2, .ref _), (3, .ref _), (4, .ref _), (5, .int _)]) (show decode cL_law 2925 = .ok (.iinc 5 4, 3) by decide +kernel) rfl rfl (Nat.le_of_ble_eq_true rfl) rfl ?_
          refine X_goto (tgt := 28) (show decode cL_law 2928 = .ok (.goto (-2900), 3) by decide +kernel) (by decide) ?_
          refine X_room (rc' := (n * 33 + 33)) (rs' := (n * 8198 + 8198)) (by omega) (by omega) ?_
          exact ih _ _ _ _ _ _ _ w
        · have w := w.2 c349
          refine X_iconst (v := (nI 0)) (show decode cL_law 1490 = .ok (.iconst 0, 1) by decide +kernel) (by decide) ?_
          exact X_iret ⟨(show decode cL_law 1491 = .ok (.ireturn, 1) by decide +kernel), .boolean, rfl, (by decide)⟩ ⟨_, rfl, w⟩
      by_cases z21 : (mI h x0 x5.toNatClampNeg &&& (nI 63)) = (nI 21)
      · have w := w.2.2.2.2.2.2.2.2.2.2.2.2.2.2.2.2.2.2.2.2.2.1 z21
        refine X_tableIn (tgt := 1492) (show decode cL_law 44 = .ok (.tableswitch 2881 0 54 #[236, 292, 372, 440, 496, 552, 615, 683, 739, 795, 851, 864, 920, 976, 1032, 1095, 1151, 1219, 1287, 1367, 1435, 1448, 1473, 1529, 1585, 1648, 1711, 1767, 1823, 1879, 1935, 1991, 2066, 2079, 2092, 2167, 2180, 2193, 2237, 2281, 2294, 2307, 2321, 2386, 2452, 2465, 2478, 2534, 2590, 2648, 2692, 2736, 2780, 2824, 2837], 236) by decide +kernel) (by rw [z21]; decide) (by rw [z21]; decide) (by rw [z21] <;> rfl) (by decide) ?_
        refine X_aload_n (j := 1) (show decode cL_law 1492 = .ok (.aload_n 1, 1) by decide +kernel) rfl rfl ?_
        refine X_aload_n (j := 0) (show decode cL_law 1493 = .ok (.aload_n 0, 1) by decide +kernel) rfl rfl ?_
        refine X_iload (j := 5) (show decode cL_law 1494 = .ok (.iload 5, 2) by decide +kernel) rfl ?_
        refine X_iconst (v := (nI 1)) (show decode cL_law 1496 = .ok (.iconst 1, 1) by decide +kernel) (by decide) ?_
        refine X_iadd (show decode cL_law 1497 = .ok (.iadd, 1) by decide +kernel) ?_
        obtain ⟨s352, w⟩ := w
        refine X_iald (show decode cL_law 1498 = .ok (.iaload, 1) by decide +kernel) (isA_eq s9) s352 ?_
        obtain ⟨s361, w⟩ := w
        refine X_vI (rc' := (n * 33 + 66)) (rs' := (n * 8198 + 16396)) (as := [.int _]) mv_L_235 (show decode cL_law 1499 = .ok (.invokevirtual 235, 3) by decide +kernel) (by decide) (by omega) (by omega) rfl rfl (Nat.le_of_ble_eq_true rfl) (rcvD s361 (by decide) rfl) (kX9_isPresent w) (fun E h hk => hk.elim) (fun r354 h353 w => ?_)
        refine X_aload_n (j := 2) (show decode cL_law 1502 = .ok (.aload_n 2, 1) by decide +kernel) rfl rfl ?_
        refine X_aload_n (j := 0) (show decode cL_law 1503 = .ok (.aload_n 0, 1) by decide +kernel) rfl rfl ?_
        refine X_iload (j := 5) (show decode cL_law 1504 = .ok (.iload 5, 2) by decide +kernel) rfl ?_
        refine X_iconst (v := (nI 1)) (show decode cL_law 1506 = .ok (.iconst 1, 1) by decide +kernel) (by decide) ?_
        refine X_iadd (show decode cL_law 1507 = .ok (.iadd, 1) by decide +kernel) ?_
        obtain ⟨s355, w⟩ := w
        obtain ⟨s356, w⟩ := w
        refine X_iald (show decode cL_law 1508 = .ok (.iaload, 1) by decide +kernel) (isA_eq s355) s356 ?_
        obtain ⟨s360, w⟩ := w
        refine X_vI (rc' := (n * 33 + 66)) (rs' := (n * 8198 + 16396)) (as := [.int _]) mv_L_238 (show decode cL_law 1509 = .ok (.invokevirtual 238, 3) by decide +kernel) (by decide) (by omega) (by omega) rfl rfl (Nat.le_of_ble_eq_true rfl) (rcvD s360 (by decide) rfl) (kX10_isPresent w) (fun E h hk => hk.elim) (fun r358 h357 w => ?_)
        refine X_icmp_eq (tgt := 2925) (show decode cL_law 1512 = .ok (.if_icmp .eq 1413, 3) by decide +kernel) (by decide) ⟨fun c359 => ?_, fun c359 => ?_⟩
        · have w := w.1 c359
          refine X_iinc (j := 5) (v := _ + (nI 4)) (ls' := [(0, .ref _), (1, .ref _), (2, .ref _), (3, .ref _), (4, .ref _), (5, .int _)]) (show decode cL_law 2925 = .ok (.iinc 5 4, 3) by decide +kernel) rfl rfl (Nat.le_of_ble_eq_true rfl) rfl ?_
          refine X_goto (tgt := 28) (show decode cL_law 2928 = .ok (.goto (-2900), 3) by decide +kernel) (by decide) ?_
          refine X_room (rc' := (n * 33 + 33)) (rs' := (n * 8198 + 8198)) (by omega) (by omega) ?_
          exact ih _ _ _ _ _ _ _ w
        · have w := w.2 c359
          refine X_iconst (v := (nI 0)) (show decode cL_law 1515 = .ok (.iconst 0, 1) by decide +kernel) (by decide) ?_
          exact X_iret ⟨(show decode cL_law 1516 = .ok (.ireturn, 1) by decide +kernel), .boolean, rfl, (by decide)⟩ ⟨_, rfl, w⟩
      by_cases z22 : (mI h x0 x5.toNatClampNeg &&& (nI 63)) = (nI 22)
      · have w := w.2.2.2.2.2.2.2.2.2.2.2.2.2.2.2.2.2.2.2.2.2.2.1 z22
        refine X_tableIn (tgt := 1517) (show decode cL_law 44 = .ok (.tableswitch 2881 0 54 #[236, 292, 372, 440, 496, 552, 615, 683, 739, 795, 851, 864, 920, 976, 1032, 1095, 1151, 1219, 1287, 1367, 1435, 1448, 1473, 1529, 1585, 1648, 1711, 1767, 1823, 1879, 1935, 1991, 2066, 2079, 2092, 2167, 2180, 2193, 2237, 2281, 2294, 2307, 2321, 2386, 2452, 2465, 2478, 2534, 2590, 2648, 2692, 2736, 2780, 2824, 2837], 236) by decide +kernel) (by rw [z22]; decide) (by rw [z22]; decide) (by rw [z22] <;> rfl) (by decide) ?_
        refine X_aload_n (j := 1) (show decode cL_law 1517 = .ok (.aload_n 1, 1) by decide +kernel) rfl rfl ?_
        refine X_aload_n (j := 0) (show decode cL_law 1518 = .ok (.aload_n 0, 1) by decide +kernel) rfl rfl ?_
        refine X_iload (j := 5) (show decode cL_law 1519 = .ok (.iload 5, 2) by decide +kernel) rfl ?_
        refine X_iconst (v := (nI 1)) (show decode cL_law 1521 = .ok (.iconst 1, 1) by decide +kernel) (by decide) ?_
        refine X_iadd (show decode cL_law 1522 = .ok (.iadd, 1) by decide +kernel) ?_
        obtain ⟨s362, w⟩ := w
        refine X_iald (show decode cL_law 1523 = .ok (.iaload, 1) by decide +kernel) (isA_eq s9) s362 ?_
        refine X_aload_n (j := 3) (show decode cL_law 1524 = .ok (.aload_n 3, 1) by decide +kernel) rfl rfl ?_
        refine X_sH (rc' := (n * 33 + 65)) (rs' := (n * 8198 + 16390)) (as := [.ref _, .int _, .ref _]) msh_L_239 (show decode cL_law 1525 = .ok (.invokestatic 239, 3) by decide +kernel) (by decide) (by omega) (by omega) rfl rfl (Nat.le_of_ble_eq_true rfl) (kL_blockOf w) (fun r364 h363 w => ?_)
        refine X_istore (ls' := [(0, .ref _), (1, .ref _), (2, .ref _), (3, .ref _), (4, .ref _), (5, .int _), (6, .int _)]) (show decode cL_law 1528 = .ok (.istore 6, 2) by decide +kernel) (by decide) rfl ?_
        refine X_aload_n (j := 2) (show decode cL_law 1530 = .ok (.aload_n 2, 1) by decide +kernel) rfl rfl ?_
        refine X_aload_n (j := 0) (show decode cL_law 1531 = .ok (.aload_n 0, 1) by decide +kernel) rfl rfl ?_
        refine X_iload (j := 5) (show decode cL_law 1532 = .ok (.iload 5, 2) by decide +kernel) rfl ?_
        refine X_iconst (v := (nI 1)) (show decode cL_law 1534 = .ok (.iconst 1, 1) by decide +kernel) (by decide) ?_
        refine X_iadd (show decode cL_law 1535 = .ok (.iadd, 1) by decide +kernel) ?_
        obtain ⟨s365, w⟩ := w
        obtain ⟨s366, w⟩ := w
        refine X_iald (show decode cL_law 1536 = .ok (.iaload, 1) by decide +kernel) (isA_eq s365) s366 ?_
        obtain ⟨s377, w⟩ := w
        refine X_vI (rc' := (n * 33 + 65)) (rs' := (n * 8198 + 16390)) (as := [.int _]) mv_L_241 (show decode cL_law 1537 = .ok (.invokevirtual 241, 3) by decide +kernel) (by decide) (by omega) (by omega) rfl rfl (Nat.le_of_ble_eq_true rfl) (rcvD s377 (by decide) rfl) (kX10_blockOf w) (fun E h hk => hk.elim) (fun r368 h367 w => ?_)
        refine X_istore (ls' := [(0, .ref _), (1, .ref _), (2, .ref _), (3, .ref _), (4, .ref _), (5, .int _), (6, .int _), (7, .int _)]) (show decode cL_law 1540 = .ok (.istore 7, 2) by decide +kernel) (by decide) rfl ?_
        refine X_aload_n (j := 2) (show decode cL_law 1542 = .ok (.aload_n 2, 1) by decide +kernel) rfl rfl ?_
        obtain ⟨s376, w⟩ := w
        refine X_vI (rc' := (n * 33 + 65)) (rs' := (n * 8198 + 16390)) (as := []) mv_L_168 (show decode cL_law 1543 = .ok (.invokevirtual 168, 3) by decide +kernel) (by decide) (by omega) (by omega) rfl rfl (Nat.le_of_ble_eq_true rfl) (rcvD s376 (by decide) rfl) (kX10_thrown w) (fun E h hk => hk.elim) (fun r370 h369 w => ?_)
        refine X_iload (j := 6) (show decode cL_law 1546 = .ok (.iload 6, 2) by decide +kernel) rfl ?_
        refine X_icmp_eq (tgt := 1553) (show decode cL_law 1548 = .ok (.if_icmp .eq 5, 3) by decide +kernel) (by decide) ⟨fun c371 => ?_, fun c371 => ?_⟩
        · have w := w.1 c371
          refine X_iload (j := 6) (show decode cL_law 1553 = .ok (.iload 6, 2) by decide +kernel) rfl ?_
          refine X_if_ne (tgt := 1570) (show decode cL_law 1555 = .ok (.ifCond .ne 15, 3) by decide +kernel) (by decide) ⟨fun c372 => ?_, fun c372 => ?_⟩
          · have w := w.1 c372
            refine X_goto (tgt := 2925) (show decode cL_law 1570 = .ok (.goto 1355, 3) by decide +kernel) (by decide) ?_
            refine X_iinc (j := 5) (v := _ + (nI 4)) (ls' := [(0, .ref _), (1, .ref _), (2, .ref _), (3, .ref _), (4, .ref _), (5, .int _), (6, .int _), (7, .int _)]) (show decode cL_law 2925 = .ok (.iinc 5 4, 3) by decide +kernel) rfl rfl (Nat.le_of_ble_eq_true rfl) rfl ?_
            refine X_goto (tgt := 28) (show decode cL_law 2928 = .ok (.goto (-2900), 3) by decide +kernel) (by decide) ?_
            refine X_room (rc' := (n * 33 + 33)) (rs' := (n * 8198 + 8198)) (by omega) (by omega) ?_
            refine X_pick (ls' := [(0, .ref _), (1, .ref _), (2, .ref _), (3, .ref _), (4, .ref _), (5, .int _)]) [0, 1, 2, 3, 4, 5] rfl ?_
            exact ih _ _ _ _ _ _ _ w
          · have w := w.2 c372
            refine X_aload_n (j := 3) (show decode cL_law 1558 = .ok (.aload_n 3, 1) by decide +kernel) rfl rfl ?_
            refine X_iconst (v := (nI 0)) (show decode cL_law 1559 = .ok (.iconst 0, 1) by decide +kernel) (by decide) ?_
            obtain ⟨s373, w⟩ := w
            obtain ⟨s374, w⟩ := w
            refine X_lald (show decode cL_law 1560 = .ok (.laload, 1) by decide +kernel) (isA_eq s373) s374 ?_
            refine X_iload (j := 7) (show decode cL_law 1561 = .ok (.iload 7, 2) by decide +kernel) rfl ?_
            refine X_i2l (show decode cL_law 1563 = .ok (.i2l, 1) by decide +kernel) ?_
            refine X_lcmp (show decode cL_law 1564 = .ok (.lcmp, 1) by decide +kernel) ?_
            refine X_if_eq (tgt := 1570) (show decode cL_law 1565 = .ok (.ifCond .eq 5, 3) by decide +kernel) (by decide) ⟨fun c375 => ?_, fun c375 => ?_⟩
            · have w := w.1 c375
              refine X_goto (tgt := 2925) (show decode cL_law 1570 = .ok (.goto 1355, 3) by decide +kernel) (by decide) ?_
              refine X_iinc (j := 5) (v := _ + (nI 4)) (ls' := [(0, .ref _), (1, .ref _), (2, .ref _), (3, .ref _), (4, .ref _), (5, .int _), (6, .int _), (7, .int _)]) (show decode cL_law 2925 = .ok (.iinc 5 4, 3) by decide +kernel) rfl rfl (Nat.le_of_ble_eq_true rfl) rfl ?_
              refine X_goto (tgt := 28) (show decode cL_law 2928 = .ok (.goto (-2900), 3) by decide +kernel) (by decide) ?_
              refine X_room (rc' := (n * 33 + 33)) (rs' := (n * 8198 + 8198)) (by omega) (by omega) ?_
              refine X_pick (ls' := [(0, .ref _), (1, .ref _), (2, .ref _), (3, .ref _), (4, .ref _), (5, .int _)]) [0, 1, 2, 3, 4, 5] rfl ?_
              exact ih _ _ _ _ _ _ _ w
            · have w := w.2 c375
              refine X_iconst (v := (nI 0)) (show decode cL_law 1568 = .ok (.iconst 0, 1) by decide +kernel) (by decide) ?_
              exact X_iret ⟨(show decode cL_law 1569 = .ok (.ireturn, 1) by decide +kernel), .boolean, rfl, (by decide)⟩ ⟨_, rfl, w⟩
        · have w := w.2 c371
          refine X_iconst (v := (nI 0)) (show decode cL_law 1551 = .ok (.iconst 0, 1) by decide +kernel) (by decide) ?_
          exact X_iret ⟨(show decode cL_law 1552 = .ok (.ireturn, 1) by decide +kernel), .boolean, rfl, (by decide)⟩ ⟨_, rfl, w⟩
      by_cases z23 : (mI h x0 x5.toNatClampNeg &&& (nI 63)) = (nI 23)
      · have w := w.2.2.2.2.2.2.2.2.2.2.2.2.2.2.2.2.2.2.2.2.2.2.2.1 z23
        refine X_tableIn (tgt := 1573) (show decode cL_law 44 = .ok (.tableswitch 2881 0 54 #[236, 292, 372, 440, 496, 552, 615, 683, 739, 795, 851, 864, 920, 976, 1032, 1095, 1151, 1219, 1287, 1367, 1435, 1448, 1473, 1529, 1585, 1648, 1711, 1767, 1823, 1879, 1935, 1991, 2066, 2079, 2092, 2167, 2180, 2193, 2237, 2281, 2294, 2307, 2321, 2386, 2452, 2465, 2478, 2534, 2590, 2648, 2692, 2736, 2780, 2824, 2837], 236) by decide +kernel) (by rw [z23]; decide) (by rw [z23]; decide) (by rw [z23] <;> rfl) (by decide) ?_
        refine X_aload_n (j := 1) (show decode cL_law 1573 = .ok (.aload_n 1, 1) by decide +kernel) rfl rfl ?_
        refine X_aload_n (j := 0) (show decode cL_law 1574 = .ok (.aload_n 0, 1) by decide +kernel) rfl rfl ?_
        refine X_iload (j := 5) (show decode cL_law 1575 = .ok (.iload 5, 2) by decide +kernel) rfl ?_
        refine X_iconst (v := (nI 1)) (show decode cL_law 1577 = .ok (.iconst 1, 1) by decide +kernel) (by decide) ?_
        refine X_iadd (show decode cL_law 1578 = .ok (.iadd, 1) by decide +kernel) ?_
        obtain ⟨s378, w⟩ := w
        refine X_iald (show decode cL_law 1579 = .ok (.iaload, 1) by decide +kernel) (isA_eq s9) s378 ?_
        refine X_aload_n (j := 3) (show decode cL_law 1580 = .ok (.aload_n 3, 1) by decide +kernel) rfl rfl ?_
        refine X_sH (rc' := (n * 33 + 65)) (rs' := (n * 8198 + 16390)) (as := [.ref _, .int _, .ref _]) msh_L_242 (show decode cL_law 1581 = .ok (.invokestatic 242, 3) by decide +kernel) (by decide) (by omega) (by omega) rfl rfl (Nat.le_of_ble_eq_true rfl) (kL_destination w) (fun r380 h379 w => ?_)
        refine X_istore (ls' := [(0, .ref _), (1, .ref _), (2, .ref _), (3, .ref _), (4, .ref _), (5, .int _), (6, .int _)]) (show decode cL_law 1584 = .ok (.istore 6, 2) by decide +kernel) (by decide) rfl ?_
        refine X_aload_n (j := 2) (show decode cL_law 1586 = .ok (.aload_n 2, 1) by decide +kernel) rfl rfl ?_
        refine X_aload_n (j := 0) (show decode cL_law 1587 = .ok (.aload_n 0, 1) by decide +kernel) rfl rfl ?_
        refine X_iload (j := 5) (show decode cL_law 1588 = .ok (.iload 5, 2) by decide +kernel) rfl ?_
        refine X_iconst (v := (nI 1)) (show decode cL_law 1590 = .ok (.iconst 1, 1) by decide +kernel) (by decide) ?_
        refine X_iadd (show decode cL_law 1591 = .ok (.iadd, 1) by decide +kernel) ?_
        obtain ⟨s381, w⟩ := w
        obtain ⟨s382, w⟩ := w
        refine X_iald (show decode cL_law 1592 = .ok (.iaload, 1) by decide +kernel) (isA_eq s381) s382 ?_
        obtain ⟨s393, w⟩ := w
        refine X_vI (rc' := (n * 33 + 65)) (rs' := (n * 8198 + 16390)) (as := [.int _]) mv_L_244 (show decode cL_law 1593 = .ok (.invokevirtual 244, 3) by decide +kernel) (by decide) (by omega) (by omega) rfl rfl (Nat.le_of_ble_eq_true rfl) (rcvD s393 (by decide) rfl) (kX10_destination w) (fun E h hk => hk.elim) (fun r384 h383 w => ?_)
        refine X_istore (ls' := [(0, .ref _), (1, .ref _), (2, .ref _), (3, .ref _), (4, .ref _), (5, .int _), (6, .int _), (7, .int _)]) (show decode cL_law 1596 = .ok (.istore 7, 2) by decide +kernel) (by decide) rfl ?_
        refine X_aload_n (j := 2) (show decode cL_law 1598 = .ok (.aload_n 2, 1) by decide +kernel) rfl rfl ?_
        obtain ⟨s392, w⟩ := w
        refine X_vI (rc' := (n * 33 + 65)) (rs' := (n * 8198 + 16390)) (as := []) mv_L_168 (show decode cL_law 1599 = .ok (.invokevirtual 168, 3) by decide +kernel) (by decide) (by omega) (by omega) rfl rfl (Nat.le_of_ble_eq_true rfl) (rcvD s392 (by decide) rfl) (kX10_thrown w) (fun E h hk => hk.elim) (fun r386 h385 w => ?_)
        refine X_iload (j := 6) (show decode cL_law 1602 = .ok (.iload 6, 2) by decide +kernel) rfl ?_
        refine X_icmp_eq (tgt := 1609) (show decode cL_law 1604 = .ok (.if_icmp .eq 5, 3) by decide +kernel) (by decide) ⟨fun c387 => ?_, fun c387 => ?_⟩
        · have w := w.1 c387
          refine X_iload (j := 6) (show decode cL_law 1609 = .ok (.iload 6, 2) by decide +kernel) rfl ?_
          refine X_if_ne (tgt := 1626) (show decode cL_law 1611 = .ok (.ifCond .ne 15, 3) by decide +kernel) (by decide) ⟨fun c388 => ?_, fun c388 => ?_⟩
          · have w := w.1 c388
            refine X_goto (tgt := 2925) (show decode cL_law 1626 = .ok (.goto 1299, 3) by decide +kernel) (by decide) ?_
            refine X_iinc (j := 5) (v := _ + (nI 4)) (ls' := [(0, .ref _), (1, .ref _), (2, .ref _), (3, .ref _), (4, .ref _), (5, .int _), (6, .int _), (7, .int _)]) (show decode cL_law 2925 = .ok (.iinc 5 4, 3) by decide +kernel) rfl rfl (Nat.le_of_ble_eq_true rfl) rfl ?_
            refine X_goto (tgt := 28) (show decode cL_law 2928 = .ok (.goto (-2900), 3) by decide +kernel) (by decide) ?_
            refine X_room (rc' := (n * 33 + 33)) (rs' := (n * 8198 + 8198)) (by omega) (by omega) ?_
            refine X_pick (ls' := [(0, .ref _), (1, .ref _), (2, .ref _), (3, .ref _), (4, .ref _), (5, .int _)]) [0, 1, 2, 3, 4, 5] rfl ?_
            exact ih _ _ _ _ _ _ _ w
          · have w := w.2 c388
            refine X_aload_n (j := 3) (show decode cL_law 1614 = .ok (.aload_n 3, 1) by decide +kernel) rfl rfl ?_
            refine X_iconst (v := (nI 0)) (show decode cL_law 1615 = .ok (.iconst 0, 1) by decide +kernel) (by decide) ?_
            obtain ⟨s389, w⟩ := w
            obtain ⟨s390, w⟩ := w
            refine X_lald (show decode cL_law 1616 = .ok (.laload, 1) by decide +kernel) (isA_eq s389) s390 ?_
            refine X_iload (j := 7) (show decode cL_law 1617 = .ok (.iload 7, 2) by decide +kernel) rfl ?_
            refine X_i2l (show decode cL_law 1619 = .ok (.i2l, 1) by decide +kernel) ?_
            refine X_lcmp (show decode cL_law 1620 = .ok (.lcmp, 1) by decide +kernel) ?_
            refine X_if_eq (tgt := 1626) (show decode cL_law 1621 = .ok (.ifCond .eq 5, 3) by decide +kernel) (by decide) ⟨fun c391 => ?_, fun c391 => ?_⟩
            · have w := w.1 c391
              refine X_goto (tgt := 2925) (show decode cL_law 1626 = .ok (.goto 1299, 3) by decide +kernel) (by decide) ?_
              refine X_iinc (j := 5) (v := _ + (nI 4)) (ls' := [(0, .ref _), (1, .ref _), (2, .ref _), (3, .ref _), (4, .ref _), (5, .int _), (6, .int _), (7, .int _)]) (show decode cL_law 2925 = .ok (.iinc 5 4, 3) by decide +kernel) rfl rfl (Nat.le_of_ble_eq_true rfl) rfl ?_
              refine X_goto (tgt := 28) (show decode cL_law 2928 = .ok (.goto (-2900), 3) by decide +kernel) (by decide) ?_
              refine X_room (rc' := (n * 33 + 33)) (rs' := (n * 8198 + 8198)) (by omega) (by omega) ?_
              refine X_pick (ls' := [(0, .ref _), (1, .ref _), (2, .ref _), (3, .ref _), (4, .ref _), (5, .int _)]) [0, 1, 2, 3, 4, 5] rfl ?_
              exact ih _ _ _ _ _ _ _ w
            · have w := w.2 c391
              refine X_iconst (v := (nI 0)) (show decode cL_law 1624 = .ok (.iconst 0, 1) by decide +kernel) (by decide) ?_
              exact X_iret ⟨(show decode cL_law 1625 = .ok (.ireturn, 1) by decide +kernel), .boolean, rfl, (by decide)⟩ ⟨_, rfl, w⟩
        · have w := w.2 c387
          refine X_iconst (v := (nI 0)) (show decode cL_law 1607 = .ok (.iconst 0, 1) by decide +kernel) (by decide) ?_
          exact X_iret ⟨(show decode cL_law 1608 = .ok (.ireturn, 1) by decide +kernel), .boolean, rfl, (by decide)⟩ ⟨_, rfl, w⟩
      by_cases z24 : (mI h x0 x5.toNatClampNeg &&& (nI 63)) = (nI 24)
      · have w := w.2.2.2.2.2.2.2.2.2.2.2.2.2.2.2.2.2.2.2.2.2.2.2.2.1 z24
        refine X_tableIn (tgt := 1629) (show decode cL_law 44 = .ok (.tableswitch 2881 0 54 #[236, 292, 372, 440, 496, 552, 615, 683, 739, 795, 851, 864, 920, 976, 1032, 1095, 1151, 1219, 1287, 1367, 1435, 1448, 1473, 1529, 1585, 1648, 1711, 1767, 1823, 1879, 1935, 1991, 2066, 2079, 2092, 2167, 2180, 2193, 2237, 2281, 2294, 2307, 2321, 2386, 2452, 2465, 2478, 2534, 2590, 2648, 2692, 2736, 2780, 2824, 2837], 236) by decide +kernel) (by rw [z24]; decide) (by rw [z24]; decide) (by rw [z24] <;> rfl) (by decide) ?_
        refine X_aload_n (j := 1) (show decode cL_law 1629 = .ok (.aload_n 1, 1) by decide +kernel) rfl rfl ?_
        refine X_aload_n (j := 0) (show decode cL_law 1630 = .ok (.aload_n 0, 1) by decide +kernel) rfl rfl ?_
        refine X_iload (j := 5) (show decode cL_law 1631 = .ok (.iload 5, 2) by decide +kernel) rfl ?_
        refine X_iconst (v := (nI 1)) (show decode cL_law 1633 = .ok (.iconst 1, 1) by decide +kernel) (by decide) ?_
        refine X_iadd (show decode cL_law 1634 = .ok (.iadd, 1) by decide +kernel) ?_
        obtain ⟨s394, w⟩ := w
        refine X_iald (show decode cL_law 1635 = .ok (.iaload, 1) by decide +kernel) (isA_eq s9) s394 ?_
        refine X_aload_n (j := 3) (show decode cL_law 1636 = .ok (.aload_n 3, 1) by decide +kernel) rfl rfl ?_
        refine X_sH (rc' := (n * 33 + 65)) (rs' := (n * 8198 + 16390)) (as := [.ref _, .int _, .ref _]) msh_L_245 (show decode cL_law 1637 = .ok (.invokestatic 245, 3) by decide +kernel) (by decide) (by omega) (by omega) rfl rfl (Nat.le_of_ble_eq_true rfl) (kL_hasRoute w) (fun r396 h395 w => ?_)
        refine X_istore (ls' := [(0, .ref _), (1, .ref _), (2, .ref _), (3, .ref _), (4, .ref _), (5, .int _), (6, .int _)]) (show decode cL_law 1640 = .ok (.istore 6, 2) by decide +kernel) (by decide) rfl ?_
        refine X_aload_n (j := 2) (show decode cL_law 1642 = .ok (.aload_n 2, 1) by decide +kernel) rfl rfl ?_
        refine X_aload_n (j := 0) (show decode cL_law 1643 = .ok (.aload_n 0, 1) by decide +kernel) rfl rfl ?_
        refine X_iload (j := 5) (show decode cL_law 1644 = .ok (.iload 5, 2) by decide +kernel) rfl ?_
        refine X_iconst (v := (nI 1)) (show decode cL_law 1646 = .ok (.iconst 1, 1) by decide +kernel) (by decide) ?_
        refine X_iadd (show decode cL_law 1647 = .ok (.iadd, 1) by decide +kernel) ?_
        obtain ⟨s397, w⟩ := w
        obtain ⟨s398, w⟩ := w
        refine X_iald (show decode cL_law 1648 = .ok (.iaload, 1) by decide +kernel) (isA_eq s397) s398 ?_
        obtain ⟨s411, w⟩ := w
        refine X_vI (rc' := (n * 33 + 65)) (rs' := (n * 8198 + 16390)) (as := [.int _]) mv_L_247 (show decode cL_law 1649 = .ok (.invokevirtual 247, 3) by decide +kernel) (by decide) (by omega) (by omega) rfl rfl (Nat.le_of_ble_eq_true rfl) (rcvD s411 (by decide) rfl) (kX10_hasRoute w) (fun E h hk => hk.elim) (fun r400 h399 w => ?_)
        refine X_istore (ls' := [(0, .ref _), (1, .ref _), (2, .ref _), (3, .ref _), (4, .ref _), (5, .int _), (6, .int _), (7, .int _)]) (show decode cL_law 1652 = .ok (.istore 7, 2) by decide +kernel) (by decide) rfl ?_
        refine X_aload_n (j := 2) (show decode cL_law 1654 = .ok (.aload_n 2, 1) by decide +kernel) rfl rfl ?_
        obtain ⟨s410, w⟩ := w
        refine X_vI (rc' := (n * 33 + 65)) (rs' := (n * 8198 + 16390)) (as := []) mv_L_168 (show decode cL_law 1655 = .ok (.invokevirtual 168, 3) by decide +kernel) (by decide) (by omega) (by omega) rfl rfl (Nat.le_of_ble_eq_true rfl) (rcvD s410 (by decide) rfl) (kX10_thrown w) (fun E h hk => hk.elim) (fun r402 h401 w => ?_)
        refine X_iload (j := 6) (show decode cL_law 1658 = .ok (.iload 6, 2) by decide +kernel) rfl ?_
        refine X_icmp_eq (tgt := 1665) (show decode cL_law 1660 = .ok (.if_icmp .eq 5, 3) by decide +kernel) (by decide) ⟨fun c403 => ?_, fun c403 => ?_⟩
        · have w := w.1 c403
          refine X_iload (j := 6) (show decode cL_law 1665 = .ok (.iload 6, 2) by decide +kernel) rfl ?_
          refine X_if_ne (tgt := 1689) (show decode cL_law 1667 = .ok (.ifCond .ne 22, 3) by decide +kernel) (by decide) ⟨fun c404 => ?_, fun c404 => ?_⟩
          · have w := w.1 c404
            refine X_goto (tgt := 2925) (show decode cL_law 1689 = .ok (.goto 1236, 3) by decide +kernel) (by decide) ?_
            refine X_iinc (j := 5) (v := _ + (nI 4)) (ls' := [(0, .ref _), (1, .ref _), (2, .ref _), (3, .ref _), (4, .ref _), (5, .int _), (6, .int _), (7, .int _)]) (show decode cL_law 2925 = .ok (.iinc 5 4, 3) by decide +kernel) rfl rfl (Nat.le_of_ble_eq_true rfl) rfl ?_
            refine X_goto (tgt := 28) (show decode cL_law 2928 = .ok (.goto (-2900), 3) by decide +kernel) (by decide) ?_
            refine X_room (rc' := (n * 33 + 33)) (rs' := (n * 8198 + 8198)) (by omega) (by omega) ?_
            refine X_pick (ls' := [(0, .ref _), (1, .ref _), (2, .ref _), (3, .ref _), (4, .ref _), (5, .int _)]) [0, 1, 2, 3, 4, 5] rfl ?_
            exact ih _ _ _ _ _ _ _ w
          · have w := w.2 c404
            refine X_aload_n (j := 3) (show decode cL_law 1670 = .ok (.aload_n 3, 1) by decide +kernel) rfl rfl ?_
            refine X_iconst (v := (nI 0)) (show decode cL_law 1671 = .ok (.iconst 0, 1) by decide +kernel) (by decide) ?_
            obtain ⟨s405, w⟩ := w
            obtain ⟨s406, w⟩ := w
            refine X_lald (show decode cL_law 1672 = .ok (.laload, 1) by decide +kernel) (isA_eq s405) s406 ?_
            refine X_iload (j := 7) (show decode cL_law 1673 = .ok (.iload 7, 2) by decide +kernel) rfl ?_
            refine X_if_eq (tgt := 1682) (show decode cL_law 1675 = .ok (.ifCond .eq 7, 3) by decide +kernel) (by decide) ⟨fun c407 => ?_, fun c407 => ?_⟩
            · have w := w.1 c407
              refine X_lconst (v := 0) (show decode cL_law 1682 = .ok (.lconst 0, 1) by decide +kernel) (by decide) ?_
              refine X_lcmp (show decode cL_law 1683 = .ok (.lcmp, 1) by decide +kernel) ?_
              refine X_if_eq (tgt := 1689) (show decode cL_law 1684 = .ok (.ifCond .eq 5, 3) by decide +kernel) (by decide) ⟨fun c408 => ?_, fun c408 => ?_⟩
              · have w := w.1 c408
                refine X_goto (tgt := 2925) (show decode cL_law 1689 = .ok (.goto 1236, 3) by decide +kernel) (by decide) ?_
                refine X_iinc (j := 5) (v := _ + (nI 4)) (ls' := [(0, .ref _), (1, .ref _), (2, .ref _), (3, .ref _), (4, .ref _), (5, .int _), (6, .int _), (7, .int _)]) (show decode cL_law 2925 = .ok (.iinc 5 4, 3) by decide +kernel) rfl rfl (Nat.le_of_ble_eq_true rfl) rfl ?_
                refine X_goto (tgt := 28) (show decode cL_law 2928 = .ok (.goto (-2900), 3) by decide +kernel) (by decide) ?_
                refine X_room (rc' := (n * 33 + 33)) (rs' := (n * 8198 + 8198)) (by omega) (by omega) ?_
                refine X_pick (ls' := [(0, .ref _), (1, .ref _), (2, .ref _), (3, .ref _), (4, .ref _), (5, .int _)]) [0, 1, 2, 3, 4, 5] rfl ?_
                exact ih _ _ _ _ _ _ _ w
              · have w := w.2 c408
                refine X_iconst (v := (nI 0)) (show decode cL_law 1687 = .ok (.iconst 0, 1) by decide +kernel) (by decide) ?_
                exact X_iret ⟨(show decode cL_law 1688 = .ok (.ireturn, 1) by decide +kernel), .boolean, rfl, (by decide)⟩ ⟨_, rfl, w⟩
            · have w := w.2 c407
              refine X_lconst (v := 1) (show decode cL_law 1678 = .ok (.lconst 1, 1) by decide +kernel) (by decide) ?_
              refine X_goto (tgt := 1683) (show decode cL_law 1679 = .ok (.goto 4, 3) by decide +kernel) (by decide) ?_
              refine X_lcmp (show decode cL_law 1683 = .ok (.lcmp, 1) by decide +kernel) ?_
              refine X_if_eq (tgt := 1689) (show decode cL_law 1684 = .ok (.ifCond .eq 5, 3) by decide +kernel) (by decide) ⟨fun c409 => ?_, fun c409 => ?_⟩
              · have w := w.1 c409
                refine X_goto (tgt := 2925) (show decode cL_law 1689 = .ok (.goto 1236, 3) by decide +kernel) (by decide) ?_
                refine X_iinc (j := 5) (v := _ + (nI 4)) (ls' := [(0, .ref _), (1, .ref _), (2, .ref _), (3, .ref _), (4, .ref _), (5, .int _), (6, .int _), (7, .int _)]) (show decode cL_law 2925 = .ok (.iinc 5 4, 3) by decide +kernel) rfl rfl (Nat.le_of_ble_eq_true rfl) rfl ?_
                refine X_goto (tgt := 28) (show decode cL_law 2928 = .ok (.goto (-2900), 3) by decide +kernel) (by decide) ?_
                refine X_room (rc' := (n * 33 + 33)) (rs' := (n * 8198 + 8198)) (by omega) (by omega) ?_
                refine X_pick (ls' := [(0, .ref _), (1, .ref _), (2, .ref _), (3, .ref _), (4, .ref _), (5, .int _)]) [0, 1, 2, 3, 4, 5] rfl ?_
                exact ih _ _ _ _ _ _ _ w
              · have w := w.2 c409
                refine X_iconst (v := (nI 0)) (show decode cL_law 1687 = .ok (.iconst 0, 1) by decide +kernel) (by decide) ?_
                exact X_iret ⟨(show decode cL_law 1688 = .ok (.ireturn, 1) by decide +kernel), .boolean, rfl, (by decide)⟩ ⟨_, rfl, w⟩
        · have w := w.2 c403
          refine X_iconst (v := (nI 0)) (show decode cL_law 1663 = .ok (.iconst 0, 1) by decide +kernel) (by decide) ?_
          exact X_iret ⟨(show decode cL_law 1664 = .ok (.ireturn, 1) by decide +kernel), .boolean, rfl, (by decide)⟩ ⟨_, rfl, w⟩
      by_cases z25 : (mI h x0 x5.toNatClampNeg &&& (nI 63)) = (nI 25)
      · have w := w.2.2.2.2.2.2.2.2.2.2.2.2.2.2.2.2.2.2.2.2.2.2.2.2.2.1 z25
        refine X_tableIn (tgt := 1692) (show decode cL_law 44 = .ok (.tableswitch 2881 0 54 #[236, 292, 372, 440, 496, 552, 615, 683, 739, 795, 851, 864, 920, 976, 1032, 1095, 1151, 1219, 1287, 1367, 1435, 1448, 1473, 1529, 1585, 1648, 1711, 1767, 1823, 1879, 1935, 1991, 2066, 2079, 2092, 2167, 2180, 2193, 2237, 2281, 2294, 2307, 2321, 2386, 2452, 2465, 2478, 2534, 2590, 2648, 2692, 2736, 2780, 2824, 2837], 236) by decide +kernel) (by rw [z25]; decide) (by rw [z25]; decide) (by rw [z25] <;> rfl) (by decide) ?_
        refine X_aload_n (j := 1) (show decode cL_law 1692 = .ok (.aload_n 1, 1) by decide +kernel) rfl rfl ?_
        refine X_aload_n (j := 0) (show decode cL_law 1693 = .ok (.aload_n 0, 1) by decide +kernel) rfl rfl ?_
        refine X_iload (j := 5) (show decode cL_law 1694 = .ok (.iload 5, 2) by decide +kernel) rfl ?_
        refine X_iconst (v := (nI 1)) (show decode cL_law 1696 = .ok (.iconst 1, 1) by decide +kernel) (by decide) ?_
        refine X_iadd (show decode cL_law 1697 = .ok (.iadd, 1) by decide +kernel) ?_
        obtain ⟨s412, w⟩ := w
        refine X_iald (show decode cL_law 1698 = .ok (.iaload, 1) by decide +kernel) (isA_eq s9) s412 ?_
        refine X_aload_n (j := 3) (show decode cL_law 1699 = .ok (.aload_n 3, 1) by decide +kernel) rfl rfl ?_
        refine X_sH (rc' := (n * 33 + 65)) (rs' := (n * 8198 + 16390)) (as := [.ref _, .int _, .ref _]) msh_L_248 (show decode cL_law 1700 = .ok (.invokestatic 248, 3) by decide +kernel) (by decide) (by omega) (by omega) rfl rfl (Nat.le_of_ble_eq_true rfl) (kL_isClear w) (fun r414 h413 w => ?_)
        refine X_istore (ls' := [(0, .ref _), (1, .ref _), (2, .ref _), (3, .ref _), (4, .ref _), (5, .int _), (6, .int _)]) (show decode cL_law 1703 = .ok (.istore 6, 2) by decide +kernel) (by decide) rfl ?_
        refine X_aload_n (j := 2) (show decode cL_law 1705 = .ok (.aload_n 2, 1) by decide +kernel) rfl rfl ?_
        refine X_aload_n (j := 0) (show decode cL_law 1706 = .ok (.aload_n 0, 1) by decide +kernel) rfl rfl ?_
        refine X_iload (j := 5) (show decode cL_law 1707 = .ok (.iload 5, 2) by decide +kernel) rfl ?_
        refine X_iconst (v := (nI 1)) (show decode cL_law 1709 = .ok (.iconst 1, 1) by decide +kernel) (by decide) ?_
        refine X_iadd (show decode cL_law 1710 = .ok (.iadd, 1) by decide +kernel) ?_
        obtain ⟨s415, w⟩ := w
        obtain ⟨s416, w⟩ := w
        refine X_iald (show decode cL_law 1711 = .ok (.iaload, 1) by decide +kernel) (isA_eq s415) s416 ?_
        obtain ⟨s429, w⟩ := w
        refine X_vI (rc' := (n * 33 + 65)) (rs' := (n * 8198 + 16390)) (as := [.int _]) mv_L_250 (show decode cL_law 1712 = .ok (.invokevirtual 250, 3) by decide +kernel) (by decide) (by omega) (by omega) rfl rfl (Nat.le_of_ble_eq_true rfl) (rcvD s429 (by decide) rfl) (kX10_isClear w) (fun E h hk => hk.elim) (fun r418 h417 w => ?_)
        refine X_istore (ls' := [(0, .ref _), (1, .ref _), (2, .ref _), (3, .ref _), (4, .ref _), (5, .int _), (6, .int _), (7, .int _)]) (show decode cL_law 1715 = .ok (.istore 7, 2) by decide +kernel) (by decide) rfl ?_
        refine X_aload_n (j := 2) (show decode cL_law 1717 = .ok (.aload_n 2, 1) by decide +kernel) rfl rfl ?_
        obtain ⟨s428, w⟩ := w
        refine X_vI (rc' := (n * 33 + 65)) (rs' := (n * 8198 + 16390)) (as := []) mv_L_168 (show decode cL_law 1718 = .ok (.invokevirtual 168, 3) by decide +kernel) (by decide) (by omega) (by omega) rfl rfl (Nat.le_of_ble_eq_true rfl) (rcvD s428 (by decide) rfl) (kX10_thrown w) (fun E h hk => hk.elim) (fun r420 h419 w => ?_)
        refine X_iload (j := 6) (show decode cL_law 1721 = .ok (.iload 6, 2) by decide +kernel) rfl ?_
        refine X_icmp_eq (tgt := 1728) (show decode cL_law 1723 = .ok (.if_icmp .eq 5, 3) by decide +kernel) (by decide) ⟨fun c421 => ?_, fun c421 => ?_⟩
        · have w := w.1 c421
          refine X_iload (j := 6) (show decode cL_law 1728 = .ok (.iload 6, 2) by decide +kernel) rfl ?_
          refine X_if_ne (tgt := 1752) (show decode cL_law 1730 = .ok (.ifCond .ne 22, 3) by decide +kernel) (by decide) ⟨fun c422 => ?_, fun c422 => ?_⟩
          · have w := w.1 c422
            refine X_goto (tgt := 2925) (show decode cL_law 1752 = .ok (.goto 1173, 3) by decide +kernel) (by decide) ?_
            refine X_iinc (j := 5) (v := _ + (nI 4)) (ls' := [(0, .ref _), (1, .ref _), (2, .ref _), (3, .ref _), (4, .ref _), (5, .int _), (6, .int _), (7, .int _)]) (show decode cL_law 2925 = .ok (.iinc 5 4, 3) by decide +kernel) rfl rfl (Nat.le_of_ble_eq_true rfl) rfl ?_
            refine X_goto (tgt := 28) (show decode cL_law 2928 = .ok (.goto (-2900), 3) by decide +kernel) (by decide) ?_
            refine X_room (rc' := (n * 33 + 33)) (rs' := (n * 8198 + 8198)) (by omega) (by omega) ?_
            refine X_pick (ls' := [(0, .ref _), (1, .ref _), (2, .ref _), (3, .ref _), (4, .ref _), (5, .int _)]) [0, 1, 2, 3, 4, 5] rfl ?_
            exact ih _ _ _ _ _ _ _ w
          · have w := w.2 c422
            refine X_aload_n (j := 3) (show decode cL_law 1733 = .ok (.aload_n 3, 1) by decide +kernel) rfl rfl ?_
            refine X_iconst (v := (nI 0)) (show decode cL_law 1734 = .ok (.iconst 0, 1) by decide +kernel) (by decide) ?_
            obtain ⟨s423, w⟩ := w
            obtain ⟨s424, w⟩ := w
            refine X_lald (show decode cL_law 1735 = .ok (.laload, 1) by decide +kernel) (isA_eq s423) s424 ?_
            refine X_iload (j := 7) (show decode cL_law 1736 = .ok (.iload 7, 2) by decide +kernel) rfl ?_
            refine X_if_eq (tgt := 1745) (show decode cL_law 1738 = .ok (.ifCond .eq 7, 3) by decide +kernel) (by decide) ⟨fun c425 => ?_, fun c425 => ?_⟩
            · have w := w.1 c425
              refine X_lconst (v := 0) (show decode cL_law 1745 = .ok (.lconst 0, 1) by decide +kernel) (by decide) ?_
              refine X_lcmp (show decode cL_law 1746 = .ok (.lcmp, 1) by decide +kernel) ?_
              refine X_if_eq (tgt := 1752) (show decode cL_law 1747 = .ok (.ifCond .eq 5, 3) by decide +kernel) (by decide) ⟨fun c426 => ?_, fun c426 => ?_⟩
              · have w := w.1 c426
                refine X_goto (tgt := 2925) (show decode cL_law 1752 = .ok (.goto 1173, 3) by decide +kernel) (by decide) ?_
                refine X_iinc (j := 5) (v := _ + (nI 4)) (ls' := [(0, .ref _), (1, .ref _), (2, .ref _), (3, .ref _), (4, .ref _), (5, .int _), (6, .int _), (7, .int _)]) (show decode cL_law 2925 = .ok (.iinc 5 4, 3) by decide +kernel) rfl rfl (Nat.le_of_ble_eq_true rfl) rfl ?_
                refine X_goto (tgt := 28) (show decode cL_law 2928 = .ok (.goto (-2900), 3) by decide +kernel) (by decide) ?_
                refine X_room (rc' := (n * 33 + 33)) (rs' := (n * 8198 + 8198)) (by omega) (by omega) ?_
                refine X_pick (ls' := [(0, .ref _), (1, .ref _), (2, .ref _), (3, .ref _), (4, .ref _), (5, .int _)]) [0, 1, 2, 3, 4, 5] rfl ?_
                exact ih _ _ _ _ _ _ _ w
              · have w := w.2 c426
                refine X_iconst (v := (nI 0)) (show decode cL_law 1750 = .ok (.iconst 0, 1) by decide +kernel) (by decide) ?_
                exact X_iret ⟨(show decode cL_law 1751 = .ok (.ireturn, 1) by decide +kernel), .boolean, rfl, (by decide)⟩ ⟨_, rfl, w⟩
            · have w := w.2 c425
              refine X_lconst (v := 1) (show decode cL_law 1741 = .ok (.lconst 1, 1) by decide +kernel) (by decide) ?_
              refine X_goto (tgt := 1746) (show decode cL_law 1742 = .ok (.goto 4, 3) by decide +kernel) (by decide) ?_
              refine X_lcmp (show decode cL_law 1746 = .ok (.lcmp, 1) by decide +kernel) ?_
              refine X_if_eq (tgt := 1752) (show decode cL_law 1747 = .ok (.ifCond .eq 5, 3) by decide +kernel) (by decide) ⟨fun c427 => ?_, fun c427 => ?_⟩
              · have w := w.1 c427
                refine X_goto (tgt := 2925) (show decode cL_law 1752 = .ok (.goto 1173, 3) by decide +kernel) (by decide) ?_
                refine X_iinc (j := 5) (v := _ + (nI 4)) (ls' := [(0, .ref _), (1, .ref _), (2, .ref _), (3, .ref _), (4, .ref _), (5, .int _), (6, .int _), (7, .int _)]) (show decode cL_law 2925 = .ok (.iinc 5 4, 3) by decide +kernel) rfl rfl (Nat.le_of_ble_eq_true rfl) rfl ?_
                refine X_goto (tgt := 28) (show decode cL_law 2928 = .ok (.goto (-2900), 3) by decide +kernel) (by decide) ?_
                refine X_room (rc' := (n * 33 + 33)) (rs' := (n * 8198 + 8198)) (by omega) (by omega) ?_
                refine X_pick (ls' := [(0, .ref _), (1, .ref _), (2, .ref _), (3, .ref _), (4, .ref _), (5, .int _)]) [0, 1, 2, 3, 4, 5] rfl ?_
                exact ih _ _ _ _ _ _ _ w
              · have w := w.2 c427
                refine X_iconst (v := (nI 0)) (show decode cL_law 1750 = .ok (.iconst 0, 1) by decide +kernel) (by decide) ?_
                exact X_iret ⟨(show decode cL_law 1751 = .ok (.ireturn, 1) by decide +kernel), .boolean, rfl, (by decide)⟩ ⟨_, rfl, w⟩
        · have w := w.2 c421
          refine X_iconst (v := (nI 0)) (show decode cL_law 1726 = .ok (.iconst 0, 1) by decide +kernel) (by decide) ?_
          exact X_iret ⟨(show decode cL_law 1727 = .ok (.ireturn, 1) by decide +kernel), .boolean, rfl, (by decide)⟩ ⟨_, rfl, w⟩
      by_cases z26 : (mI h x0 x5.toNatClampNeg &&& (nI 63)) = (nI 26)
      · have w := w.2.2.2.2.2.2.2.2.2.2.2.2.2.2.2.2.2.2.2.2.2.2.2.2.2.2.1 z26
        refine X_tableIn (tgt := 1755) (show decode cL_law 44 = .ok (.tableswitch 2881 0 54 #[236, 292, 372, 440, 496, 552, 615, 683, 739, 795, 851, 864, 920, 976, 1032, 1095, 1151, 1219, 1287, 1367, 1435, 1448, 1473, 1529, 1585, 1648, 1711, 1767, 1823, 1879, 1935, 1991, 2066, 2079, 2092, 2167, 2180, 2193, 2237, 2281, 2294, 2307, 2321, 2386, 2452, 2465, 2478, 2534, 2590, 2648, 2692, 2736, 2780, 2824, 2837], 236) by decide +kernel) (by rw [z26]; decide) (by rw [z26]; decide) (by rw [z26] <;> rfl) (by decide) ?_
        refine X_aload_n (j := 1) (show decode cL_law 1755 = .ok (.aload_n 1, 1) by decide +kernel) rfl rfl ?_
        refine X_aload_n (j := 0) (show decode cL_law 1756 = .ok (.aload_n 0, 1) by decide +kernel) rfl rfl ?_
        refine X_iload (j := 5) (show decode cL_law 1757 = .ok (.iload 5, 2) by decide +kernel) rfl ?_
        refine X_iconst (v := (nI 1)) (show decode cL_law 1759 = .ok (.iconst 1, 1) by decide +kernel) (by decide) ?_
        refine X_iadd (show decode cL_law 1760 = .ok (.iadd, 1) by decide +kernel) ?_
        obtain ⟨s430, w⟩ := w
        refine X_iald (show decode cL_law 1761 = .ok (.iaload, 1) by decide +kernel) (isA_eq s9) s430 ?_
        refine X_aload_n (j := 3) (show decode cL_law 1762 = .ok (.aload_n 3, 1) by decide +kernel) rfl rfl ?_
        refine X_sH (rc' := (n * 33 + 64)) (rs' := (n * 8198 + 16384)) (as := [.ref _, .int _, .ref _]) msh_L_251 (show decode cL_law 1763 = .ok (.invokestatic 251, 3) by decide +kernel) (by decide) (by omega) (by omega) rfl rfl (Nat.le_of_ble_eq_true rfl) (kL_minutesUntilNext w) (fun r432 h431 w => ?_)
        refine X_istore (ls' := [(0, .ref _), (1, .ref _), (2, .ref _), (3, .ref _), (4, .ref _), (5, .int _), (6, .int _)]) (show decode cL_law 1766 = .ok (.istore 6, 2) by decide +kernel) (by decide) rfl ?_
        refine X_aload_n (j := 2) (show decode cL_law 1768 = .ok (.aload_n 2, 1) by decide +kernel) rfl rfl ?_
        refine X_aload_n (j := 0) (show decode cL_law 1769 = .ok (.aload_n 0, 1) by decide +kernel) rfl rfl ?_
        refine X_iload (j := 5) (show decode cL_law 1770 = .ok (.iload 5, 2) by decide +kernel) rfl ?_
        refine X_iconst (v := (nI 1)) (show decode cL_law 1772 = .ok (.iconst 1, 1) by decide +kernel) (by decide) ?_
        refine X_iadd (show decode cL_law 1773 = .ok (.iadd, 1) by decide +kernel) ?_
        obtain ⟨s433, w⟩ := w
        obtain ⟨s434, w⟩ := w
        refine X_iald (show decode cL_law 1774 = .ok (.iaload, 1) by decide +kernel) (isA_eq s433) s434 ?_
        obtain ⟨s445, w⟩ := w
        refine X_vI (rc' := (n * 33 + 64)) (rs' := (n * 8198 + 16384)) (as := [.int _]) mv_L_253 (show decode cL_law 1775 = .ok (.invokevirtual 253, 3) by decide +kernel) (by decide) (by omega) (by omega) rfl rfl (Nat.le_of_ble_eq_true rfl) (rcvD s445 (by decide) rfl) (kX10_minutesUntilNext w) (fun E h hk => hk.elim) (fun r436 h435 w => ?_)
        refine X_istore (ls' := [(0, .ref _), (1, .ref _), (2, .ref _), (3, .ref _), (4, .ref _), (5, .int _), (6, .int _), (7, .int _)]) (show decode cL_law 1778 = .ok (.istore 7, 2) by decide +kernel) (by decide) rfl ?_
        refine X_aload_n (j := 2) (show decode cL_law 1780 = .ok (.aload_n 2, 1) by decide +kernel) rfl rfl ?_
        obtain ⟨s444, w⟩ := w
        refine X_vI (rc' := (n * 33 + 64)) (rs' := (n * 8198 + 16384)) (as := []) mv_L_168 (show decode cL_law 1781 = .ok (.invokevirtual 168, 3) by decide +kernel) (by decide) (by omega) (by omega) rfl rfl (Nat.le_of_ble_eq_true rfl) (rcvD s444 (by decide) rfl) (kX10_thrown w) (fun E h hk => hk.elim) (fun r438 h437 w => ?_)
        refine X_iload (j := 6) (show decode cL_law 1784 = .ok (.iload 6, 2) by decide +kernel) rfl ?_
        refine X_icmp_eq (tgt := 1791) (show decode cL_law 1786 = .ok (.if_icmp .eq 5, 3) by decide +kernel) (by decide) ⟨fun c439 => ?_, fun c439 => ?_⟩
        · have w := w.1 c439
          refine X_iload (j := 6) (show decode cL_law 1791 = .ok (.iload 6, 2) by decide +kernel) rfl ?_
          refine X_if_ne (tgt := 1808) (show decode cL_law 1793 = .ok (.ifCond .ne 15, 3) by decide +kernel) (by decide) ⟨fun c440 => ?_, fun c440 => ?_⟩
          · have w := w.1 c440
            refine X_goto (tgt := 2925) (show decode cL_law 1808 = .ok (.goto 1117, 3) by decide +kernel) (by decide) ?_
            refine X_iinc (j := 5) (v := _ + (nI 4)) (ls' := [(0, .ref _), (1, .ref _), (2, .ref _), (3, .ref _), (4, .ref _), (5, .int _), (6, .int _), (7, .int _)]) (show decode cL_law 2925 = .ok (.iinc 5 4, 3) by decide +kernel) rfl rfl (Nat.le_of_ble_eq_true rfl) rfl ?_
            refine X_goto (tgt := 28) (show decode cL_law 2928 = .ok (.goto (-2900), 3) by decide +kernel) (by decide) ?_
            refine X_room (rc' := (n * 33 + 33)) (rs' := (n * 8198 + 8198)) (by omega) (by omega) ?_
            refine X_pick (ls' := [(0, .ref _), (1, .ref _), (2, .ref _), (3, .ref _), (4, .ref _), (5, .int _)]) [0, 1, 2, 3, 4, 5] rfl ?_
            exact ih _ _ _ _ _ _ _ w
          · have w := w.2 c440
            refine X_aload_n (j := 3) (show decode cL_law 1796 = .ok (.aload_n 3, 1) by decide +kernel) rfl rfl ?_
            refine X_iconst (v := (nI 0)) (show decode cL_law 1797 = .ok (.iconst 0, 1) by decide +kernel) (by decide) ?_
            obtain ⟨s441, w⟩ := w
            obtain ⟨s442, w⟩ := w
            refine X_lald (show decode cL_law 1798 = .ok (.laload, 1) by decide +kernel) (isA_eq s441) s442 ?_
            refine X_iload (j := 7) (show decode cL_law 1799 = .ok (.iload 7, 2) by decide +kernel) rfl ?_
            refine X_i2l (show decode cL_law 1801 = .ok (.i2l, 1) by decide +kernel) ?_
            refine X_lcmp (show decode cL_law 1802 = .ok (.lcmp, 1) by decide +kernel) ?_
            refine X_if_eq (tgt := 1808) (show decode cL_law 1803 = .ok (.ifCond .eq 5, 3) by decide +kernel) (by decide) ⟨fun c443 => ?_, fun c443 => ?_⟩
            · have w := w.1 c443
              refine X_goto (tgt := 2925) (show decode cL_law 1808 = .ok (.goto 1117, 3) by decide +kernel) (by decide) ?_
              refine X_iinc (j := 5) (v := _ + (nI 4)) (ls' := [(0, .ref _), (1, .ref _), (2, .ref _), (3, .ref _), (4, .ref _), (5, .int _), (6, .int _), (7, .int _)]) (show decode cL_law 2925 = .ok (.iinc 5 4, 3) by decide +kernel) rfl rfl (Nat.le_of_ble_eq_true rfl) rfl ?_
              refine X_goto (tgt := 28) (show decode cL_law 2928 = .ok (.goto (-2900), 3) by decide +kernel) (by decide) ?_
              refine X_room (rc' := (n * 33 + 33)) (rs' := (n * 8198 + 8198)) (by omega) (by omega) ?_
              refine X_pick (ls' := [(0, .ref _), (1, .ref _), (2, .ref _), (3, .ref _), (4, .ref _), (5, .int _)]) [0, 1, 2, 3, 4, 5] rfl ?_
              exact ih _ _ _ _ _ _ _ w
            · have w := w.2 c443
              refine X_iconst (v := (nI 0)) (show decode cL_law 1806 = .ok (.iconst 0, 1) by decide +kernel) (by decide) ?_
              exact X_iret ⟨(show decode cL_law 1807 = .ok (.ireturn, 1) by decide +kernel), .boolean, rfl, (by decide)⟩ ⟨_, rfl, w⟩
        · have w := w.2 c439
          refine X_iconst (v := (nI 0)) (show decode cL_law 1789 = .ok (.iconst 0, 1) by decide +kernel) (by decide) ?_
          exact X_iret ⟨(show decode cL_law 1790 = .ok (.ireturn, 1) by decide +kernel), .boolean, rfl, (by decide)⟩ ⟨_, rfl, w⟩
      by_cases z27 : (mI h x0 x5.toNatClampNeg &&& (nI 63)) = (nI 27)
      · have w := w.2.2.2.2.2.2.2.2.2.2.2.2.2.2.2.2.2.2.2.2.2.2.2.2.2.2.2.1 z27
        refine X_tableIn (tgt := 1811) (show decode cL_law 44 = .ok (.tableswitch 2881 0 54 #[236, 292, 372, 440, 496, 552, 615, 683, 739, 795, 851, 864, 920, 976, 1032, 1095, 1151, 1219, 1287, 1367, 1435, 1448, 1473, 1529, 1585, 1648, 1711, 1767, 1823, 1879, 1935, 1991, 2066, 2079, 2092, 2167, 2180, 2193, 2237, 2281, 2294, 2307, 2321, 2386, 2452, 2465, 2478, 2534, 2590, 2648, 2692, 2736, 2780, 2824, 2837], 236) by decide +kernel) (by rw [z27]; decide) (by rw [z27]; decide) (by rw [z27] <;> rfl) (by decide) ?_
        refine X_aload_n (j := 1) (show decode cL_law 1811 = .ok (.aload_n 1, 1) by decide +kernel) rfl rfl ?_
        refine X_aload_n (j := 0) (show decode cL_law 1812 = .ok (.aload_n 0, 1) by decide +kernel) rfl rfl ?_
        refine X_iload (j := 5) (show decode cL_law 1813 = .ok (.iload 5, 2) by decide +kernel) rfl ?_
        refine X_iconst (v := (nI 1)) (show decode cL_law 1815 = .ok (.iconst 1, 1) by decide +kernel) (by decide) ?_
        refine X_iadd (show decode cL_law 1816 = .ok (.iadd, 1) by decide +kernel) ?_
        obtain ⟨s446, w⟩ := w
        refine X_iald (show decode cL_law 1817 = .ok (.iaload, 1) by decide +kernel) (isA_eq s9) s446 ?_
        refine X_aload_n (j := 3) (show decode cL_law 1818 = .ok (.aload_n 3, 1) by decide +kernel) rfl rfl ?_
        refine X_sH (rc' := (n * 33 + 64)) (rs' := (n * 8198 + 16384)) (as := [.ref _, .int _, .ref _]) msh_L_254 (show decode cL_law 1819 = .ok (.invokestatic 254, 3) by decide +kernel) (by decide) (by omega) (by omega) rfl rfl (Nat.le_of_ble_eq_true rfl) (kL_minutesUntilArrival w) (fun r448 h447 w => ?_)
        refine X_istore (ls' := [(0, .ref _), (1, .ref _), (2, .ref _), (3, .ref _), (4, .ref _), (5, .int _), (6, .int _)]) (show decode cL_law 1822 = .ok (.istore 6, 2) by decide +kernel) (by decide) rfl ?_
        refine X_aload_n (j := 2) (show decode cL_law 1824 = .ok (.aload_n 2, 1) by decide +kernel) rfl rfl ?_
        refine X_aload_n (j := 0) (show decode cL_law 1825 = .ok (.aload_n 0, 1) by decide +kernel) rfl rfl ?_
        refine X_iload (j := 5) (show decode cL_law 1826 = .ok (.iload 5, 2) by decide +kernel) rfl ?_
        refine X_iconst (v := (nI 1)) (show decode cL_law 1828 = .ok (.iconst 1, 1) by decide +kernel) (by decide) ?_
        refine X_iadd (show decode cL_law 1829 = .ok (.iadd, 1) by decide +kernel) ?_
        obtain ⟨s449, w⟩ := w
        obtain ⟨s450, w⟩ := w
        refine X_iald (show decode cL_law 1830 = .ok (.iaload, 1) by decide +kernel) (isA_eq s449) s450 ?_
        obtain ⟨s461, w⟩ := w
        refine X_vI (rc' := (n * 33 + 64)) (rs' := (n * 8198 + 16384)) (as := [.int _]) mv_L_256 (show decode cL_law 1831 = .ok (.invokevirtual 256, 3) by decide +kernel) (by decide) (by omega) (by omega) rfl rfl (Nat.le_of_ble_eq_true rfl) (rcvD s461 (by decide) rfl) (kX10_minutesUntilArrival w) (fun E h hk => hk.elim) (fun r452 h451 w => ?_)
        refine X_istore (ls' := [(0, .ref _), (1, .ref _), (2, .ref _), (3, .ref _), (4, .ref _), (5, .int _), (6, .int _), (7, .int _)]) (show decode cL_law 1834 = .ok (.istore 7, 2) by decide +kernel) (by decide) rfl ?_
        refine X_aload_n (j := 2) (show decode cL_law 1836 = .ok (.aload_n 2, 1) by decide +kernel) rfl rfl ?_
        obtain ⟨s460, w⟩ := w
        refine X_vI (rc' := (n * 33 + 64)) (rs' := (n * 8198 + 16384)) (as := []) mv_L_168 (show decode cL_law 1837 = .ok (.invokevirtual 168, 3) by decide +kernel) (by decide) (by omega) (by omega) rfl rfl (Nat.le_of_ble_eq_true rfl) (rcvD s460 (by decide) rfl) (kX10_thrown w) (fun E h hk => hk.elim) (fun r454 h453 w => ?_)
        refine X_iload (j := 6) (show decode cL_law 1840 = .ok (.iload 6, 2) by decide +kernel) rfl ?_
        refine X_icmp_eq (tgt := 1847) (show decode cL_law 1842 = .ok (.if_icmp .eq 5, 3) by decide +kernel) (by decide) ⟨fun c455 => ?_, fun c455 => ?_⟩
        · have w := w.1 c455
          refine X_iload (j := 6) (show decode cL_law 1847 = .ok (.iload 6, 2) by decide +kernel) rfl ?_
          refine X_if_ne (tgt := 1864) (show decode cL_law 1849 = .ok (.ifCond .ne 15, 3) by decide +kernel) (by decide) ⟨fun c456 => ?_, fun c456 => ?_⟩
          · have w := w.1 c456
            refine X_goto (tgt := 2925) (show decode cL_law 1864 = .ok (.goto 1061, 3) by decide +kernel) (by decide) ?_
            refine X_iinc (j := 5) (v := _ + (nI 4)) (ls' := [(0, .ref _), (1, .ref _), (2, .ref _), (3, .ref _), (4, .ref _), (5, .int _), (6, .int _), (7, .int _)]) (show decode cL_law 2925 = .ok (.iinc 5 4, 3) by decide +kernel) rfl rfl (Nat.le_of_ble_eq_true rfl) rfl ?_
            refine X_goto (tgt := 28) (show decode cL_law 2928 = .ok (.goto (-2900), 3) by decide +kernel) (by decide) ?_
            refine X_room (rc' := (n * 33 + 33)) (rs' := (n * 8198 + 8198)) (by omega) (by omega) ?_
            refine X_pick (ls' := [(0, .ref _), (1, .ref _), (2, .ref _), (3, .ref _), (4, .ref _), (5, .int _)]) [0, 1, 2, 3, 4, 5] rfl ?_
            exact ih _ _ _ _ _ _ _ w
          · have w := w.2 c456
            refine X_aload_n (j := 3) (show decode cL_law 1852 = .ok (.aload_n 3, 1) by decide +kernel) rfl rfl ?_
            refine X_iconst (v := (nI 0)) (show decode cL_law 1853 = .ok (.iconst 0, 1) by decide +kernel) (by decide) ?_
            obtain ⟨s457, w⟩ := w
            obtain ⟨s458, w⟩ := w
            refine X_lald (show decode cL_law 1854 = .ok (.laload, 1) by decide +kernel) (isA_eq s457) s458 ?_
            refine X_iload (j := 7) (show decode cL_law 1855 = .ok (.iload 7, 2) by decide +kernel) rfl ?_
            refine X_i2l (show decode cL_law 1857 = .ok (.i2l, 1) by decide +kernel) ?_
            refine X_lcmp (show decode cL_law 1858 = .ok (.lcmp, 1) by decide +kernel) ?_
            refine X_if_eq (tgt := 1864) (show decode cL_law 1859 = .ok (.ifCond .eq 5, 3) by decide +kernel) (by decide) ⟨fun c459 => ?_, fun c459 => ?_⟩
            · have w := w.1 c459
              refine X_goto (tgt := 2925) (show decode cL_law 1864 = .ok (.goto 1061, 3) by decide +kernel) (by decide) ?_
              refine X_iinc (j := 5) (v := _ + (nI 4)) (ls' := [(0, .ref _), (1, .ref _), (2, .ref _), (3, .ref _), (4, .ref _), (5, .int _), (6, .int _), (7, .int _)]) (show decode cL_law 2925 = .ok (.iinc 5 4, 3) by decide +kernel) rfl rfl (Nat.le_of_ble_eq_true rfl) rfl ?_
              refine X_goto (tgt := 28) (show decode cL_law 2928 = .ok (.goto (-2900), 3) by decide +kernel) (by decide) ?_
              refine X_room (rc' := (n * 33 + 33)) (rs' := (n * 8198 + 8198)) (by omega) (by omega) ?_
              refine X_pick (ls' := [(0, .ref _), (1, .ref _), (2, .ref _), (3, .ref _), (4, .ref _), (5, .int _)]) [0, 1, 2, 3, 4, 5] rfl ?_
              exact ih _ _ _ _ _ _ _ w
            · have w := w.2 c459
              refine X_iconst (v := (nI 0)) (show decode cL_law 1862 = .ok (.iconst 0, 1) by decide +kernel) (by decide) ?_
              exact X_iret ⟨(show decode cL_law 1863 = .ok (.ireturn, 1) by decide +kernel), .boolean, rfl, (by decide)⟩ ⟨_, rfl, w⟩
        · have w := w.2 c455
          refine X_iconst (v := (nI 0)) (show decode cL_law 1845 = .ok (.iconst 0, 1) by decide +kernel) (by decide) ?_
          exact X_iret ⟨(show decode cL_law 1846 = .ok (.ireturn, 1) by decide +kernel), .boolean, rfl, (by decide)⟩ ⟨_, rfl, w⟩
      by_cases z28 : (mI h x0 x5.toNatClampNeg &&& (nI 63)) = (nI 28)
      · have w := w.2.2.2.2.2.2.2.2.2.2.2.2.2.2.2.2.2.2.2.2.2.2.2.2.2.2.2.2.1 z28
        refine X_tableIn (tgt := 1867) (show decode cL_law 44 = .ok (.tableswitch 2881 0 54 #[236, 292, 372, 440, 496, 552, 615, 683, 739, 795, 851, 864, 920, 976, 1032, 1095, 1151, 1219, 1287, 1367, 1435, 1448, 1473, 1529, 1585, 1648, 1711, 1767, 1823, 1879, 1935, 1991, 2066, 2079, 2092, 2167, 2180, 2193, 2237, 2281, 2294, 2307, 2321, 2386, 2452, 2465, 2478, 2534, 2590, 2648, 2692, 2736, 2780, 2824, 2837], 236) by decide +kernel) (by rw [z28]; decide) (by rw [z28]; decide) (by rw [z28] <;> rfl) (by decide) ?_
        refine X_aload_n (j := 1) (show decode cL_law 1867 = .ok (.aload_n 1, 1) by decide +kernel) rfl rfl ?_
        refine X_aload_n (j := 0) (show decode cL_law 1868 = .ok (.aload_n 0, 1) by decide +kernel) rfl rfl ?_
        refine X_iload (j := 5) (show decode cL_law 1869 = .ok (.iload 5, 2) by decide +kernel) rfl ?_
        refine X_iconst (v := (nI 1)) (show decode cL_law 1871 = .ok (.iconst 1, 1) by decide +kernel) (by decide) ?_
        refine X_iadd (show decode cL_law 1872 = .ok (.iadd, 1) by decide +kernel) ?_
        obtain ⟨s462, w⟩ := w
        refine X_iald (show decode cL_law 1873 = .ok (.iaload, 1) by decide +kernel) (isA_eq s9) s462 ?_
        refine X_aload_n (j := 3) (show decode cL_law 1874 = .ok (.aload_n 3, 1) by decide +kernel) rfl rfl ?_
        refine X_sH (rc' := (n * 33 + 64)) (rs' := (n * 8198 + 16384)) (as := [.ref _, .int _, .ref _]) msh_L_257 (show decode cL_law 1875 = .ok (.invokestatic 257, 3) by decide +kernel) (by decide) (by omega) (by omega) rfl rfl (Nat.le_of_ble_eq_true rfl) (kL_minutesUntilArrivalByPassing w) (fun r464 h463 w => ?_)
        refine X_istore (ls' := [(0, .ref _), (1, .ref _), (2, .ref _), (3, .ref _), (4, .ref _), (5, .int _), (6, .int _)]) (show decode cL_law 1878 = .ok (.istore 6, 2) by decide +kernel) (by decide) rfl ?_
        refine X_aload_n (j := 2) (show decode cL_law 1880 = .ok (.aload_n 2, 1) by decide +kernel) rfl rfl ?_
        refine X_aload_n (j := 0) (show decode cL_law 1881 = .ok (.aload_n 0, 1) by decide +kernel) rfl rfl ?_
        refine X_iload (j := 5) (show decode cL_law 1882 = .ok (.iload 5, 2) by decide +kernel) rfl ?_
        refine X_iconst (v := (nI 1)) (show decode cL_law 1884 = .ok (.iconst 1, 1) by decide +kernel) (by decide) ?_
        refine X_iadd (show decode cL_law 1885 = .ok (.iadd, 1) by decide +kernel) ?_
        obtain ⟨s465, w⟩ := w
        obtain ⟨s466, w⟩ := w
        refine X_iald (show decode cL_law 1886 = .ok (.iaload, 1) by decide +kernel) (isA_eq s465) s466 ?_
        obtain ⟨s477, w⟩ := w
        refine X_vI (rc' := (n * 33 + 64)) (rs' := (n * 8198 + 16384)) (as := [.int _]) mv_L_259 (show decode cL_law 1887 = .ok (.invokevirtual 259, 3) by decide +kernel) (by decide) (by omega) (by omega) rfl rfl (Nat.le_of_ble_eq_true rfl) (rcvD s477 (by decide) rfl) (kX10_minutesUntilArrivalByPassing w) (fun E h hk => hk.elim) (fun r468 h467 w => ?_)
        refine X_istore (ls' := [(0, .ref _), (1, .ref _), (2, .ref _), (3, .ref _), (4, .ref _), (5, .int _), (6, .int _), (7, .int _)]) (show decode cL_law 1890 = .ok (.istore 7, 2) by decide +kernel) (by decide) rfl ?_
        refine X_aload_n (j := 2) (show decode cL_law 1892 = .ok (.aload_n 2, 1) by decide +kernel) rfl rfl ?_
        obtain ⟨s476, w⟩ := w
        refine X_vI (rc' := (n * 33 + 64)) (rs' := (n * 8198 + 16384)) (as := []) mv_L_168 (show decode cL_law 1893 = .ok (.invokevirtual 168, 3) by decide +kernel) (by decide) (by omega) (by omega) rfl rfl (Nat.le_of_ble_eq_true rfl) (rcvD s476 (by decide) rfl) (kX10_thrown w) (fun E h hk => hk.elim) (fun r470 h469 w => ?_)
        refine X_iload (j := 6) (show decode cL_law 1896 = .ok (.iload 6, 2) by decide +kernel) rfl ?_
        refine X_icmp_eq (tgt := 1903) (show decode cL_law 1898 = .ok (.if_icmp .eq 5, 3) by decide +kernel) (by decide) ⟨fun c471 => ?_, fun c471 => ?_⟩
        · have w := w.1 c471
          refine X_iload (j := 6) (show decode cL_law 1903 = .ok (.iload 6, 2) by decide +kernel) rfl ?_
          refine X_if_ne (tgt := 1920) (show decode cL_law 1905 = .ok (.ifCond .ne 15, 3) by decide +kernel) (by decide) ⟨fun c472 => ?_, fun c472 => ?_⟩
          · have w := w.1 c472
            refine X_goto (tgt := 2925) (show decode cL_law 1920 = .ok (.goto 1005, 3) by decide +kernel) (by decide) ?_
            refine X_iinc (j := 5) (v := _ + (nI 4)) (ls' := [(0, .ref _), (1, .ref _), (2, .ref _), (3, .ref _), (4, .ref _), (5, .int _), (6, .int _), (7, .int _)]) (show decode cL_law 2925 = .ok (.iinc 5 4, 3) by decide +kernel) rfl rfl (Nat.le_of_ble_eq_true rfl) rfl ?_
            refine X_goto (tgt := 28) (show decode cL_law 2928 = .ok (.goto (-2900), 3) by decide +kernel) (by decide) ?_
            refine X_room (rc' := (n * 33 + 33)) (rs' := (n * 8198 + 8198)) (by omega) (by omega) ?_
            refine X_pick (ls' := [(0, .ref _), (1, .ref _), (2, .ref _), (3, .ref _), (4, .ref _), (5, .int _)]) [0, 1, 2, 3, 4, 5] rfl ?_
            exact ih _ _ _ _ _ _ _ w
          · have w := w.2 c472
            refine X_aload_n (j := 3) (show decode cL_law 1908 = .ok (.aload_n 3, 1) by decide +kernel) rfl rfl ?_
            refine X_iconst (v := (nI 0)) (show decode cL_law 1909 = .ok (.iconst 0, 1) by decide +kernel) (by decide) ?_
            obtain ⟨s473, w⟩ := w
            obtain ⟨s474, w⟩ := w
            refine X_lald (show decode cL_law 1910 = .ok (.laload, 1) by decide +kernel) (isA_eq s473) s474 ?_
            refine X_iload (j := 7) (show decode cL_law 1911 = .ok (.iload 7, 2) by decide +kernel) rfl ?_
            refine X_i2l (show decode cL_law 1913 = .ok (.i2l, 1) by decide +kernel) ?_
            refine X_lcmp (show decode cL_law 1914 = .ok (.lcmp, 1) by decide +kernel) ?_
            refine X_if_eq (tgt := 1920) (show decode cL_law 1915 = .ok (.ifCond .eq 5, 3) by decide +kernel) (by decide) ⟨fun c475 => ?_, fun c475 => ?_⟩
            · have w := w.1 c475
              refine X_goto (tgt := 2925) (show decode cL_law 1920 = .ok (.goto 1005, 3) by decide +kernel) (by decide) ?_
              refine X_iinc (j := 5) (v := _ + (nI 4)) (ls' := [(0, .ref _), (1, .ref _), (2, .ref _), (3, .ref _), (4, .ref _), (5, .int _), (6, .int _), (7, .int _)]) (show decode cL_law 2925 = .ok (.iinc 5 4, 3) by decide +kernel) rfl rfl (Nat.le_of_ble_eq_true rfl) rfl ?_
              refine X_goto (tgt := 28) (show decode cL_law 2928 = .ok (.goto (-2900), 3) by decide +kernel) (by decide) ?_
              refine X_room (rc' := (n * 33 + 33)) (rs' := (n * 8198 + 8198)) (by omega) (by omega) ?_
              refine X_pick (ls' := [(0, .ref _), (1, .ref _), (2, .ref _), (3, .ref _), (4, .ref _), (5, .int _)]) [0, 1, 2, 3, 4, 5] rfl ?_
              exact ih _ _ _ _ _ _ _ w
            · have w := w.2 c475
              refine X_iconst (v := (nI 0)) (show decode cL_law 1918 = .ok (.iconst 0, 1) by decide +kernel) (by decide) ?_
              exact X_iret ⟨(show decode cL_law 1919 = .ok (.ireturn, 1) by decide +kernel), .boolean, rfl, (by decide)⟩ ⟨_, rfl, w⟩
        · have w := w.2 c471
          refine X_iconst (v := (nI 0)) (show decode cL_law 1901 = .ok (.iconst 0, 1) by decide +kernel) (by decide) ?_
          exact X_iret ⟨(show decode cL_law 1902 = .ok (.ireturn, 1) by decide +kernel), .boolean, rfl, (by decide)⟩ ⟨_, rfl, w⟩
      by_cases z29 : (mI h x0 x5.toNatClampNeg &&& (nI 63)) = (nI 29)
      · have w := w.2.2.2.2.2.2.2.2.2.2.2.2.2.2.2.2.2.2.2.2.2.2.2.2.2.2.2.2.2.1 z29
        refine X_tableIn (tgt := 1923) (show decode cL_law 44 = .ok (.tableswitch 2881 0 54 #[236, 292, 372, 440, 496, 552, 615, 683, 739, 795, 851, 864, 920, 976, 1032, 1095, 1151, 1219, 1287, 1367, 1435, 1448, 1473, 1529, 1585, 1648, 1711, 1767, 1823, 1879, 1935, 1991, 2066, 2079, 2092, 2167, 2180, 2193, 2237, 2281, 2294, 2307, 2321, 2386, 2452, 2465, 2478, 2534, 2590, 2648, 2692, 2736, 2780, 2824, 2837], 236) by decide +kernel) (by rw [z29]; decide) (by rw [z29]; decide) (by rw [z29] <;> rfl) (by decide) ?_
        refine X_aload_n (j := 1) (show decode cL_law 1923 = .ok (.aload_n 1, 1) by decide +kernel) rfl rfl ?_
        refine X_aload_n (j := 0) (show decode cL_law 1924 = .ok (.aload_n 0, 1) by decide +kernel) rfl rfl ?_
        refine X_iload (j := 5) (show decode cL_law 1925 = .ok (.iload 5, 2) by decide +kernel) rfl ?_
        refine X_iconst (v := (nI 1)) (show decode cL_law 1927 = .ok (.iconst 1, 1) by decide +kernel) (by decide) ?_
        refine X_iadd (show decode cL_law 1928 = .ok (.iadd, 1) by decide +kernel) ?_
        obtain ⟨s478, w⟩ := w
        refine X_iald (show decode cL_law 1929 = .ok (.iaload, 1) by decide +kernel) (isA_eq s9) s478 ?_
        refine X_aload_n (j := 3) (show decode cL_law 1930 = .ok (.aload_n 3, 1) by decide +kernel) rfl rfl ?_
        refine X_sH (rc' := (n * 33 + 65)) (rs' := (n * 8198 + 16390)) (as := [.ref _, .int _, .ref _]) msh_L_260 (show decode cL_law 1931 = .ok (.invokestatic 260, 3) by decide +kernel) (by decide) (by omega) (by omega) rfl rfl (Nat.le_of_ble_eq_true rfl) (kL_delay w) (fun r480 h479 w => ?_)
        refine X_istore (ls' := [(0, .ref _), (1, .ref _), (2, .ref _), (3, .ref _), (4, .ref _), (5, .int _), (6, .int _)]) (show decode cL_law 1934 = .ok (.istore 6, 2) by decide +kernel) (by decide) rfl ?_
        refine X_aload_n (j := 2) (show decode cL_law 1936 = .ok (.aload_n 2, 1) by decide +kernel) rfl rfl ?_
        refine X_aload_n (j := 0) (show decode cL_law 1937 = .ok (.aload_n 0, 1) by decide +kernel) rfl rfl ?_
        refine X_iload (j := 5) (show decode cL_law 1938 = .ok (.iload 5, 2) by decide +kernel) rfl ?_
        refine X_iconst (v := (nI 1)) (show decode cL_law 1940 = .ok (.iconst 1, 1) by decide +kernel) (by decide) ?_
        refine X_iadd (show decode cL_law 1941 = .ok (.iadd, 1) by decide +kernel) ?_
        obtain ⟨s481, w⟩ := w
        obtain ⟨s482, w⟩ := w
        refine X_iald (show decode cL_law 1942 = .ok (.iaload, 1) by decide +kernel) (isA_eq s481) s482 ?_
        obtain ⟨s493, w⟩ := w
        refine X_vI (rc' := (n * 33 + 65)) (rs' := (n * 8198 + 16390)) (as := [.int _]) mv_L_262 (show decode cL_law 1943 = .ok (.invokevirtual 262, 3) by decide +kernel) (by decide) (by omega) (by omega) rfl rfl (Nat.le_of_ble_eq_true rfl) (rcvD s493 (by decide) rfl) (kX10_delay w) (fun E h hk => hk.elim) (fun r484 h483 w => ?_)
        refine X_istore (ls' := [(0, .ref _), (1, .ref _), (2, .ref _), (3, .ref _), (4, .ref _), (5, .int _), (6, .int _), (7, .int _)]) (show decode cL_law 1946 = .ok (.istore 7, 2) by decide +kernel) (by decide) rfl ?_
        refine X_aload_n (j := 2) (show decode cL_law 1948 = .ok (.aload_n 2, 1) by decide +kernel) rfl rfl ?_
        obtain ⟨s492, w⟩ := w
        refine X_vI (rc' := (n * 33 + 65)) (rs' := (n * 8198 + 16390)) (as := []) mv_L_168 (show decode cL_law 1949 = .ok (.invokevirtual 168, 3) by decide +kernel) (by decide) (by omega) (by omega) rfl rfl (Nat.le_of_ble_eq_true rfl) (rcvD s492 (by decide) rfl) (kX10_thrown w) (fun E h hk => hk.elim) (fun r486 h485 w => ?_)
        refine X_iload (j := 6) (show decode cL_law 1952 = .ok (.iload 6, 2) by decide +kernel) rfl ?_
        refine X_icmp_eq (tgt := 1959) (show decode cL_law 1954 = .ok (.if_icmp .eq 5, 3) by decide +kernel) (by decide) ⟨fun c487 => ?_, fun c487 => ?_⟩
        · have w := w.1 c487
          refine X_iload (j := 6) (show decode cL_law 1959 = .ok (.iload 6, 2) by decide +kernel) rfl ?_
          refine X_if_ne (tgt := 1976) (show decode cL_law 1961 = .ok (.ifCond .ne 15, 3) by decide +kernel) (by decide) ⟨fun c488 => ?_, fun c488 => ?_⟩
          · have w := w.1 c488
            refine X_goto (tgt := 2925) (show decode cL_law 1976 = .ok (.goto 949, 3) by decide +kernel) (by decide) ?_
            refine X_iinc (j := 5) (v := _ + (nI 4)) (ls' := [(0, .ref _), (1, .ref _), (2, .ref _), (3, .ref _), (4, .ref _), (5, .int _), (6, .int _), (7, .int _)]) (show decode cL_law 2925 = .ok (.iinc 5 4, 3) by decide +kernel) rfl rfl (Nat.le_of_ble_eq_true rfl) rfl ?_
            refine X_goto (tgt := 28) (show decode cL_law 2928 = .ok (.goto (-2900), 3) by decide +kernel) (by decide) ?_
            refine X_room (rc' := (n * 33 + 33)) (rs' := (n * 8198 + 8198)) (by omega) (by omega) ?_
            refine X_pick (ls' := [(0, .ref _), (1, .ref _), (2, .ref _), (3, .ref _), (4, .ref _), (5, .int _)]) [0, 1, 2, 3, 4, 5] rfl ?_
            exact ih _ _ _ _ _ _ _ w
          · have w := w.2 c488
            refine X_aload_n (j := 3) (show decode cL_law 1964 = .ok (.aload_n 3, 1) by decide +kernel) rfl rfl ?_
            refine X_iconst (v := (nI 0)) (show decode cL_law 1965 = .ok (.iconst 0, 1) by decide +kernel) (by decide) ?_
            obtain ⟨s489, w⟩ := w
            obtain ⟨s490, w⟩ := w
            refine X_lald (show decode cL_law 1966 = .ok (.laload, 1) by decide +kernel) (isA_eq s489) s490 ?_
            refine X_iload (j := 7) (show decode cL_law 1967 = .ok (.iload 7, 2) by decide +kernel) rfl ?_
            refine X_i2l (show decode cL_law 1969 = .ok (.i2l, 1) by decide +kernel) ?_
            refine X_lcmp (show decode cL_law 1970 = .ok (.lcmp, 1) by decide +kernel) ?_
            refine X_if_eq (tgt := 1976) (show decode cL_law 1971 = .ok (.ifCond .eq 5, 3) by decide +kernel) (by decide) ⟨fun c491 => ?_, fun c491 => ?_⟩
            · have w := w.1 c491
              refine X_goto (tgt := 2925) (show decode cL_law 1976 = .ok (.goto 949, 3) by decide +kernel) (by decide) ?_
              refine X_iinc (j := 5) (v := _ + (nI 4)) (ls' := [(0, .ref _), (1, .ref _), (2, .ref _), (3, .ref _), (4, .ref _), (5, .int _), (6, .int _), (7, .int _)]) (show decode cL_law 2925 = .ok (.iinc 5 4, 3) by decide +kernel) rfl rfl (Nat.le_of_ble_eq_true rfl) rfl ?_
              refine X_goto (tgt := 28) (show decode cL_law 2928 = .ok (.goto (-2900), 3) by decide +kernel) (by decide) ?_
              refine X_room (rc' := (n * 33 + 33)) (rs' := (n * 8198 + 8198)) (by omega) (by omega) ?_
              refine X_pick (ls' := [(0, .ref _), (1, .ref _), (2, .ref _), (3, .ref _), (4, .ref _), (5, .int _)]) [0, 1, 2, 3, 4, 5] rfl ?_
              exact ih _ _ _ _ _ _ _ w
            · have w := w.2 c491
              refine X_iconst (v := (nI 0)) (show decode cL_law 1974 = .ok (.iconst 0, 1) by decide +kernel) (by decide) ?_
              exact X_iret ⟨(show decode cL_law 1975 = .ok (.ireturn, 1) by decide +kernel), .boolean, rfl, (by decide)⟩ ⟨_, rfl, w⟩
        · have w := w.2 c487
          refine X_iconst (v := (nI 0)) (show decode cL_law 1957 = .ok (.iconst 0, 1) by decide +kernel) (by decide) ?_
          exact X_iret ⟨(show decode cL_law 1958 = .ok (.ireturn, 1) by decide +kernel), .boolean, rfl, (by decide)⟩ ⟨_, rfl, w⟩
      by_cases z30 : (mI h x0 x5.toNatClampNeg &&& (nI 63)) = (nI 30)
      · have w := w.2.2.2.2.2.2.2.2.2.2.2.2.2.2.2.2.2.2.2.2.2.2.2.2.2.2.2.2.2.2.1 z30
        refine X_tableIn (tgt := 1979) (show decode cL_law 44 = .ok (.tableswitch 2881 0 54 #[236, 292, 372, 440, 496, 552, 615, 683, 739, 795, 851, 864, 920, 976, 1032, 1095, 1151, 1219, 1287, 1367, 1435, 1448, 1473, 1529, 1585, 1648, 1711, 1767, 1823, 1879, 1935, 1991, 2066, 2079, 2092, 2167, 2180, 2193, 2237, 2281, 2294, 2307, 2321, 2386, 2452, 2465, 2478, 2534, 2590, 2648, 2692, 2736, 2780, 2824, 2837], 236) by decide +kernel) (by rw [z30]; decide) (by rw [z30]; decide) (by rw [z30] <;> rfl) (by decide) ?_
        refine X_aload_n (j := 1) (show decode cL_law 1979 = .ok (.aload_n 1, 1) by decide +kernel) rfl rfl ?_
        refine X_aload_n (j := 0) (show decode cL_law 1980 = .ok (.aload_n 0, 1) by decide +kernel) rfl rfl ?_
        refine X_iload (j := 5) (show decode cL_law 1981 = .ok (.iload 5, 2) by decide +kernel) rfl ?_
        refine X_iconst (v := (nI 1)) (show decode cL_law 1983 = .ok (.iconst 1, 1) by decide +kernel) (by decide) ?_
        refine X_iadd (show decode cL_law 1984 = .ok (.iadd, 1) by decide +kernel) ?_
        obtain ⟨s494, w⟩ := w
        refine X_iald (show decode cL_law 1985 = .ok (.iaload, 1) by decide +kernel) (isA_eq s9) s494 ?_
        refine X_aload_n (j := 3) (show decode cL_law 1986 = .ok (.aload_n 3, 1) by decide +kernel) rfl rfl ?_
        refine X_sH (rc' := (n * 33 + 65)) (rs' := (n * 8198 + 16390)) (as := [.ref _, .int _, .ref _]) msh_L_263 (show decode cL_law 1987 = .ok (.invokestatic 263, 3) by decide +kernel) (by decide) (by omega) (by omega) rfl rfl (Nat.le_of_ble_eq_true rfl) (kL_queued w) (fun r496 h495 w => ?_)
        refine X_istore (ls' := [(0, .ref _), (1, .ref _), (2, .ref _), (3, .ref _), (4, .ref _), (5, .int _), (6, .int _)]) (show decode cL_law 1990 = .ok (.istore 6, 2) by decide +kernel) (by decide) rfl ?_
        refine X_aload_n (j := 2) (show decode cL_law 1992 = .ok (.aload_n 2, 1) by decide +kernel) rfl rfl ?_
        refine X_aload_n (j := 0) (show decode cL_law 1993 = .ok (.aload_n 0, 1) by decide +kernel) rfl rfl ?_
        refine X_iload (j := 5) (show decode cL_law 1994 = .ok (.iload 5, 2) by decide +kernel) rfl ?_
        refine X_iconst (v := (nI 1)) (show decode cL_law 1996 = .ok (.iconst 1, 1) by decide +kernel) (by decide) ?_
        refine X_iadd (show decode cL_law 1997 = .ok (.iadd, 1) by decide +kernel) ?_
        obtain ⟨s497, w⟩ := w
        obtain ⟨s498, w⟩ := w
        refine X_iald (show decode cL_law 1998 = .ok (.iaload, 1) by decide +kernel) (isA_eq s497) s498 ?_
        obtain ⟨s509, w⟩ := w
        refine X_vI (rc' := (n * 33 + 65)) (rs' := (n * 8198 + 16390)) (as := [.int _]) mv_L_265 (show decode cL_law 1999 = .ok (.invokevirtual 265, 3) by decide +kernel) (by decide) (by omega) (by omega) rfl rfl (Nat.le_of_ble_eq_true rfl) (rcvD s509 (by decide) rfl) (kX10_queued w) (fun E h hk => hk.elim) (fun r500 h499 w => ?_)
        refine X_istore (ls' := [(0, .ref _), (1, .ref _), (2, .ref _), (3, .ref _), (4, .ref _), (5, .int _), (6, .int _), (7, .int _)]) (show decode cL_law 2002 = .ok (.istore 7, 2) by decide +kernel) (by decide) rfl ?_
        refine X_aload_n (j := 2) (show decode cL_law 2004 = .ok (.aload_n 2, 1) by decide +kernel) rfl rfl ?_
        obtain ⟨s508, w⟩ := w
        refine X_vI (rc' := (n * 33 + 65)) (rs' := (n * 8198 + 16390)) (as := []) mv_L_168 (show decode cL_law 2005 = .ok (.invokevirtual 168, 3) by decide +kernel) (by decide) (by omega) (by omega) rfl rfl (Nat.le_of_ble_eq_true rfl) (rcvD s508 (by decide) rfl) (kX10_thrown w) (fun E h hk => hk.elim) (fun r502 h501 w => ?_)
        refine X_iload (j := 6) (show decode cL_law 2008 = .ok (.iload 6, 2) by decide +kernel) rfl ?_
        refine X_icmp_eq (tgt := 2015) (show decode cL_law 2010 = .ok (.if_icmp .eq 5, 3) by decide +kernel) (by decide) ⟨fun c503 => ?_, fun c503 => ?_⟩
        · have w := w.1 c503
          refine X_iload (j := 6) (show decode cL_law 2015 = .ok (.iload 6, 2) by decide +kernel) rfl ?_
          refine X_if_ne (tgt := 2032) (show decode cL_law 2017 = .ok (.ifCond .ne 15, 3) by decide +kernel) (by decide) ⟨fun c504 => ?_, fun c504 => ?_⟩
          · have w := w.1 c504
            refine X_goto (tgt := 2925) (show decode cL_law 2032 = .ok (.goto 893, 3) by decide +kernel) (by decide) ?_
            refine X_iinc (j := 5) (v := _ + (nI 4)) (ls' := [(0, .ref _), (1, .ref _), (2, .ref _), (3, .ref _), (4, .ref _), (5, .int _), (6, .int _), (7, .int _)]) (show decode cL_law 2925 = .ok (.iinc 5 4, 3) by decide +kernel) rfl rfl (Nat.le_of_ble_eq_true rfl) rfl ?_
            refine X_goto (tgt := 28) (show decode cL_law 2928 = .ok (.goto (-2900), 3) by decide +kernel) (by decide) ?_
            refine X_room (rc' := (n * 33 + 33)) (rs' := (n * 8198 + 8198)) (by omega) (by omega) ?_
            refine X_pick (ls' := [(0, .ref _), (1, .ref _), (2, .ref _), (3, .ref _), (4, .ref _), (5, .int _)]) [0, 1, 2, 3, 4, 5] rfl ?_
            exact ih _ _ _ _ _ _ _ w
          · have w := w.2 c504
            refine X_aload_n (j := 3) (show decode cL_law 2020 = .ok (.aload_n 3, 1) by decide +kernel) rfl rfl ?_
            refine X_iconst (v := (nI 0)) (show decode cL_law 2021 = .ok (.iconst 0, 1) by decide +kernel) (by decide) ?_
            obtain ⟨s505, w⟩ := w
            obtain ⟨s506, w⟩ := w
            refine X_lald (show decode cL_law 2022 = .ok (.laload, 1) by decide +kernel) (isA_eq s505) s506 ?_
            refine X_iload (j := 7) (show decode cL_law 2023 = .ok (.iload 7, 2) by decide +kernel) rfl ?_
            refine X_i2l (show decode cL_law 2025 = .ok (.i2l, 1) by decide +kernel) ?_
            refine X_lcmp (show decode cL_law 2026 = .ok (.lcmp, 1) by decide +kernel) ?_
            refine X_if_eq (tgt := 2032) (show decode cL_law 2027 = .ok (.ifCond .eq 5, 3) by decide +kernel) (by decide) ⟨fun c507 => ?_, fun c507 => ?_⟩
            · have w := w.1 c507
              refine X_goto (tgt := 2925) (show decode cL_law 2032 = .ok (.goto 893, 3) by decide +kernel) (by decide) ?_
              refine X_iinc (j := 5) (v := _ + (nI 4)) (ls' := [(0, .ref _), (1, .ref _), (2, .ref _), (3, .ref _), (4, .ref _), (5, .int _), (6, .int _), (7, .int _)]) (show decode cL_law 2925 = .ok (.iinc 5 4, 3) by decide +kernel) rfl rfl (Nat.le_of_ble_eq_true rfl) rfl ?_
              refine X_goto (tgt := 28) (show decode cL_law 2928 = .ok (.goto (-2900), 3) by decide +kernel) (by decide) ?_
              refine X_room (rc' := (n * 33 + 33)) (rs' := (n * 8198 + 8198)) (by omega) (by omega) ?_
              refine X_pick (ls' := [(0, .ref _), (1, .ref _), (2, .ref _), (3, .ref _), (4, .ref _), (5, .int _)]) [0, 1, 2, 3, 4, 5] rfl ?_
              exact ih _ _ _ _ _ _ _ w
            · have w := w.2 c507
              refine X_iconst (v := (nI 0)) (show decode cL_law 2030 = .ok (.iconst 0, 1) by decide +kernel) (by decide) ?_
              exact X_iret ⟨(show decode cL_law 2031 = .ok (.ireturn, 1) by decide +kernel), .boolean, rfl, (by decide)⟩ ⟨_, rfl, w⟩
        · have w := w.2 c503
          refine X_iconst (v := (nI 0)) (show decode cL_law 2013 = .ok (.iconst 0, 1) by decide +kernel) (by decide) ?_
          exact X_iret ⟨(show decode cL_law 2014 = .ok (.ireturn, 1) by decide +kernel), .boolean, rfl, (by decide)⟩ ⟨_, rfl, w⟩
      by_cases z31 : (mI h x0 x5.toNatClampNeg &&& (nI 63)) = (nI 31)
      · have w := w.2.2.2.2.2.2.2.2.2.2.2.2.2.2.2.2.2.2.2.2.2.2.2.2.2.2.2.2.2.2.2.1 z31
        refine X_tableIn (tgt := 2035) (show decode cL_law 44 = .ok (.tableswitch 2881 0 54 #[236, 292, 372, 440, 496, 552, 615, 683, 739, 795, 851, 864, 920, 976, 1032, 1095, 1151, 1219, 1287, 1367, 1435, 1448, 1473, 1529, 1585, 1648, 1711, 1767, 1823, 1879, 1935, 1991, 2066, 2079, 2092, 2167, 2180, 2193, 2237, 2281, 2294, 2307, 2321, 2386, 2452, 2465, 2478, 2534, 2590, 2648, 2692, 2736, 2780, 2824, 2837], 236) by decide +kernel) (by rw [z31]; decide) (by rw [z31]; decide) (by rw [z31] <;> rfl) (by decide) ?_
        refine X_aload_n (j := 1) (show decode cL_law 2035 = .ok (.aload_n 1, 1) by decide +kernel) rfl rfl ?_
        refine X_aload_n (j := 0) (show decode cL_law 2036 = .ok (.aload_n 0, 1) by decide +kernel) rfl rfl ?_
        refine X_iload (j := 5) (show decode cL_law 2037 = .ok (.iload 5, 2) by decide +kernel) rfl ?_
        refine X_iconst (v := (nI 1)) (show decode cL_law 2039 = .ok (.iconst 1, 1) by decide +kernel) (by decide) ?_
        refine X_iadd (show decode cL_law 2040 = .ok (.iadd, 1) by decide +kernel) ?_
        obtain ⟨s510, w⟩ := w
        refine X_iald (show decode cL_law 2041 = .ok (.iaload, 1) by decide +kernel) (isA_eq s9) s510 ?_
        refine X_aload_n (j := 0) (show decode cL_law 2042 = .ok (.aload_n 0, 1) by decide +kernel) rfl rfl ?_
        refine X_iload (j := 5) (show decode cL_law 2043 = .ok (.iload 5, 2) by decide +kernel) rfl ?_
        refine X_iconst (v := (nI 2)) (show decode cL_law 2045 = .ok (.iconst 2, 1) by decide +kernel) (by decide) ?_
        refine X_iadd (show decode cL_law 2046 = .ok (.iadd, 1) by decide +kernel) ?_
        obtain ⟨s511, w⟩ := w
        refine X_iald (show decode cL_law 2047 = .ok (.iaload, 1) by decide +kernel) (isA_eq s9) s511 ?_
        refine X_aload_n (j := 3) (show decode cL_law 2048 = .ok (.aload_n 3, 1) by decide +kernel) rfl rfl ?_
        refine X_sH (rc' := (n * 33 + 64)) (rs' := (n * 8198 + 16384)) (as := [.ref _, .int _, .int _, .ref _]) msh_L_266 (show decode cL_law 2049 = .ok (.invokestatic 266, 3) by decide +kernel) (by decide) (by omega) (by omega) rfl rfl (Nat.le_of_ble_eq_true rfl) (kL_waitsFor w) (fun r513 h512 w => ?_)
        refine X_istore (ls' := [(0, .ref _), (1, .ref _), (2, .ref _), (3, .ref _), (4, .ref _), (5, .int _), (6, .int _)]) (show decode cL_law 2052 = .ok (.istore 6, 2) by decide +kernel) (by decide) rfl ?_
        refine X_aload_n (j := 2) (show decode cL_law 2054 = .ok (.aload_n 2, 1) by decide +kernel) rfl rfl ?_
        refine X_aload_n (j := 0) (show decode cL_law 2055 = .ok (.aload_n 0, 1) by decide +kernel) rfl rfl ?_
        refine X_iload (j := 5) (show decode cL_law 2056 = .ok (.iload 5, 2) by decide +kernel) rfl ?_
        refine X_iconst (v := (nI 1)) (show decode cL_law 2058 = .ok (.iconst 1, 1) by decide +kernel) (by decide) ?_
        refine X_iadd (show decode cL_law 2059 = .ok (.iadd, 1) by decide +kernel) ?_
        obtain ⟨s514, w⟩ := w
        obtain ⟨s515, w⟩ := w
        refine X_iald (show decode cL_law 2060 = .ok (.iaload, 1) by decide +kernel) (isA_eq s514) s515 ?_
        refine X_aload_n (j := 0) (show decode cL_law 2061 = .ok (.aload_n 0, 1) by decide +kernel) rfl rfl ?_
        refine X_iload (j := 5) (show decode cL_law 2062 = .ok (.iload 5, 2) by decide +kernel) rfl ?_
        refine X_iconst (v := (nI 2)) (show decode cL_law 2064 = .ok (.iconst 2, 1) by decide +kernel) (by decide) ?_
        refine X_iadd (show decode cL_law 2065 = .ok (.iadd, 1) by decide +kernel) ?_
        obtain ⟨s516, w⟩ := w
        refine X_iald (show decode cL_law 2066 = .ok (.iaload, 1) by decide +kernel) (isA_eq s514) s516 ?_
        obtain ⟨s529, w⟩ := w
        refine X_vI (rc' := (n * 33 + 64)) (rs' := (n * 8198 + 16384)) (as := [.int _, .int _]) mv_L_268 (show decode cL_law 2067 = .ok (.invokevirtual 268, 3) by decide +kernel) (by decide) (by omega) (by omega) rfl rfl (Nat.le_of_ble_eq_true rfl) (rcvD s529 (by decide) rfl) (kX10_waitsFor w) (fun E h hk => hk.elim) (fun r518 h517 w => ?_)
        refine X_istore (ls' := [(0, .ref _), (1, .ref _), (2, .ref _), (3, .ref _), (4, .ref _), (5, .int _), (6, .int _), (7, .int _)]) (show decode cL_law 2070 = .ok (.istore 7, 2) by decide +kernel) (by decide) rfl ?_
        refine X_aload_n (j := 2) (show decode cL_law 2072 = .ok (.aload_n 2, 1) by decide +kernel) rfl rfl ?_
        obtain ⟨s528, w⟩ := w
        refine X_vI (rc' := (n * 33 + 64)) (rs' := (n * 8198 + 16384)) (as := []) mv_L_168 (show decode cL_law 2073 = .ok (.invokevirtual 168, 3) by decide +kernel) (by decide) (by omega) (by omega) rfl rfl (Nat.le_of_ble_eq_true rfl) (rcvD s528 (by decide) rfl) (kX10_thrown w) (fun E h hk => hk.elim) (fun r520 h519 w => ?_)
        refine X_iload (j := 6) (show decode cL_law 2076 = .ok (.iload 6, 2) by decide +kernel) rfl ?_
        refine X_icmp_eq (tgt := 2083) (show decode cL_law 2078 = .ok (.if_icmp .eq 5, 3) by decide +kernel) (by decide) ⟨fun c521 => ?_, fun c521 => ?_⟩
        · have w := w.1 c521
          refine X_iload (j := 6) (show decode cL_law 2083 = .ok (.iload 6, 2) by decide +kernel) rfl ?_
          refine X_if_ne (tgt := 2107) (show decode cL_law 2085 = .ok (.ifCond .ne 22, 3) by decide +kernel) (by decide) ⟨fun c522 => ?_, fun c522 => ?_⟩
          · have w := w.1 c522
            refine X_goto (tgt := 2925) (show decode cL_law 2107 = .ok (.goto 818, 3) by decide +kernel) (by decide) ?_
            refine X_iinc (j := 5) (v := _ + (nI 4)) (ls' := [(0, .ref _), (1, .ref _), (2, .ref _), (3, .ref _), (4, .ref _), (5, .int _), (6, .int _), (7, .int _)]) (show decode cL_law 2925 = .ok (.iinc 5 4, 3) by decide +kernel) rfl rfl (Nat.le_of_ble_eq_true rfl) rfl ?_
            refine X_goto (tgt := 28) (show decode cL_law 2928 = .ok (.goto (-2900), 3) by decide +kernel) (by decide) ?_
            refine X_room (rc' := (n * 33 + 33)) (rs' := (n * 8198 + 8198)) (by omega) (by omega) ?_
            refine X_pick (ls' := [(0, .ref _), (1, .ref _), (2, .ref _), (3, .ref _), (4, .ref _), (5, .int _)]) [0, 1, 2, 3, 4, 5] rfl ?_
            exact ih _ _ _ _ _ _ _ w
          · have w := w.2 c522
            refine X_aload_n (j := 3) (show decode cL_law 2088 = .ok (.aload_n 3, 1) by decide +kernel) rfl rfl ?_
            refine X_iconst (v := (nI 0)) (show decode cL_law 2089 = .ok (.iconst 0, 1) by decide +kernel) (by decide) ?_
            obtain ⟨s523, w⟩ := w
            obtain ⟨s524, w⟩ := w
            refine X_lald (show decode cL_law 2090 = .ok (.laload, 1) by decide +kernel) (isA_eq s523) s524 ?_
            refine X_iload (j := 7) (show decode cL_law 2091 = .ok (.iload 7, 2) by decide +kernel) rfl ?_
            refine X_if_eq (tgt := 2100) (show decode cL_law 2093 = .ok (.ifCond .eq 7, 3) by decide +kernel) (by decide) ⟨fun c525 => ?_, fun c525 => ?_⟩
            · have w := w.1 c525
              refine X_lconst (v := 0) (show decode cL_law 2100 = .ok (.lconst 0, 1) by decide +kernel) (by decide) ?_
              refine X_lcmp (show decode cL_law 2101 = .ok (.lcmp, 1) by decide +kernel) ?_
              refine X_if_eq (tgt := 2107) (show decode cL_law 2102 = .ok (.ifCond .eq 5, 3) by decide +kernel) (by decide) ⟨fun c526 => ?_, fun c526 => ?_⟩
              · have w := w.1 c526
                refine X_goto (tgt := 2925) (show decode cL_law 2107 = .ok (.goto 818, 3) by decide +kernel) (by decide) ?_
                refine X_iinc (j := 5) (v := _ + (nI 4)) (ls' := [(0, .ref _), (1, .ref _), (2, .ref _), (3, .ref _), (4, .ref _), (5, .int _), (6, .int _), (7, .int _)]) (show decode cL_law 2925 = .ok (.iinc 5 4, 3) by decide +kernel) rfl rfl (Nat.le_of_ble_eq_true rfl) rfl ?_
                refine X_goto (tgt := 28) (show decode cL_law 2928 = .ok (.goto (-2900), 3) by decide +kernel) (by decide) ?_
                refine X_room (rc' := (n * 33 + 33)) (rs' := (n * 8198 + 8198)) (by omega) (by omega) ?_
                refine X_pick (ls' := [(0, .ref _), (1, .ref _), (2, .ref _), (3, .ref _), (4, .ref _), (5, .int _)]) [0, 1, 2, 3, 4, 5] rfl ?_
                exact ih _ _ _ _ _ _ _ w
              · have w := w.2 c526
                refine X_iconst (v := (nI 0)) (show decode cL_law 2105 = .ok (.iconst 0, 1) by decide +kernel) (by decide) ?_
                exact X_iret ⟨(show decode cL_law 2106 = .ok (.ireturn, 1) by decide +kernel), .boolean, rfl, (by decide)⟩ ⟨_, rfl, w⟩
            · have w := w.2 c525
              refine X_lconst (v := 1) (show decode cL_law 2096 = .ok (.lconst 1, 1) by decide +kernel) (by decide) ?_
              refine X_goto (tgt := 2101) (show decode cL_law 2097 = .ok (.goto 4, 3) by decide +kernel) (by decide) ?_
              refine X_lcmp (show decode cL_law 2101 = .ok (.lcmp, 1) by decide +kernel) ?_
              refine X_if_eq (tgt := 2107) (show decode cL_law 2102 = .ok (.ifCond .eq 5, 3) by decide +kernel) (by decide) ⟨fun c527 => ?_, fun c527 => ?_⟩
              · have w := w.1 c527
                refine X_goto (tgt := 2925) (show decode cL_law 2107 = .ok (.goto 818, 3) by decide +kernel) (by decide) ?_
                refine X_iinc (j := 5) (v := _ + (nI 4)) (ls' := [(0, .ref _), (1, .ref _), (2, .ref _), (3, .ref _), (4, .ref _), (5, .int _), (6, .int _), (7, .int _)]) (show decode cL_law 2925 = .ok (.iinc 5 4, 3) by decide +kernel) rfl rfl (Nat.le_of_ble_eq_true rfl) rfl ?_
                refine X_goto (tgt := 28) (show decode cL_law 2928 = .ok (.goto (-2900), 3) by decide +kernel) (by decide) ?_
                refine X_room (rc' := (n * 33 + 33)) (rs' := (n * 8198 + 8198)) (by omega) (by omega) ?_
                refine X_pick (ls' := [(0, .ref _), (1, .ref _), (2, .ref _), (3, .ref _), (4, .ref _), (5, .int _)]) [0, 1, 2, 3, 4, 5] rfl ?_
                exact ih _ _ _ _ _ _ _ w
              · have w := w.2 c527
                refine X_iconst (v := (nI 0)) (show decode cL_law 2105 = .ok (.iconst 0, 1) by decide +kernel) (by decide) ?_
                exact X_iret ⟨(show decode cL_law 2106 = .ok (.ireturn, 1) by decide +kernel), .boolean, rfl, (by decide)⟩ ⟨_, rfl, w⟩
        · have w := w.2 c521
          refine X_iconst (v := (nI 0)) (show decode cL_law 2081 = .ok (.iconst 0, 1) by decide +kernel) (by decide) ?_
          exact X_iret ⟨(show decode cL_law 2082 = .ok (.ireturn, 1) by decide +kernel), .boolean, rfl, (by decide)⟩ ⟨_, rfl, w⟩
      by_cases z32 : (mI h x0 x5.toNatClampNeg &&& (nI 63)) = (nI 32)
      · have w := w.2.2.2.2.2.2.2.2.2.2.2.2.2.2.2.2.2.2.2.2.2.2.2.2.2.2.2.2.2.2.2.2.1 z32
        refine X_tableIn (tgt := 2110) (show decode cL_law 44 = .ok (.tableswitch 2881 0 54 #[236, 292, 372, 440, 496, 552, 615, 683, 739, 795, 851, 864, 920, 976, 1032, 1095, 1151, 1219, 1287, 1367, 1435, 1448, 1473, 1529, 1585, 1648, 1711, 1767, 1823, 1879, 1935, 1991, 2066, 2079, 2092, 2167, 2180, 2193, 2237, 2281, 2294, 2307, 2321, 2386, 2452, 2465, 2478, 2534, 2590, 2648, 2692, 2736, 2780, 2824, 2837], 236) by decide +kernel) (by rw [z32]; decide) (by rw [z32]; decide) (by rw [z32] <;> rfl) (by decide) ?_
        refine X_aload_n (j := 1) (show decode cL_law 2110 = .ok (.aload_n 1, 1) by decide +kernel) rfl rfl ?_
        obtain ⟨s536, w⟩ := w
        refine X_vI (rc' := (n * 33 + 66)) (rs' := (n * 8198 + 16396)) (as := []) mv_L_269 (show decode cL_law 2111 = .ok (.invokevirtual 269, 3) by decide +kernel) (by decide) (by omega) (by omega) rfl rfl (Nat.le_of_ble_eq_true rfl) (rcvD s536 (by decide) rfl) (kX9_deadlocked w) (fun E h hk => hk.elim) (fun r531 h530 w => ?_)
        refine X_aload_n (j := 2) (show decode cL_law 2114 = .ok (.aload_n 2, 1) by decide +kernel) rfl rfl ?_
        obtain ⟨s535, w⟩ := w
        refine X_vI (rc' := (n * 33 + 66)) (rs' := (n * 8198 + 16396)) (as := []) mv_L_272 (show decode cL_law 2115 = .ok (.invokevirtual 272, 3) by decide +kernel) (by decide) (by omega) (by omega) rfl rfl (Nat.le_of_ble_eq_true rfl) (rcvD s535 (by decide) rfl) (kX10_deadlocked w) (fun E h hk => hk.elim) (fun r533 h532 w => ?_)
        refine X_icmp_eq (tgt := 2925) (show decode cL_law 2118 = .ok (.if_icmp .eq 807, 3) by decide +kernel) (by decide) ⟨fun c534 => ?_, fun c534 => ?_⟩
        · have w := w.1 c534
          refine X_iinc (j := 5) (v := _ + (nI 4)) (ls' := [(0, .ref _), (1, .ref _), (2, .ref _), (3, .ref _), (4, .ref _), (5, .int _)]) (show decode cL_law 2925 = .ok (.iinc 5 4, 3) by decide +kernel) rfl rfl (Nat.le_of_ble_eq_true rfl) rfl ?_
          refine X_goto (tgt := 28) (show decode cL_law 2928 = .ok (.goto (-2900), 3) by decide +kernel) (by decide) ?_
          refine X_room (rc' := (n * 33 + 33)) (rs' := (n * 8198 + 8198)) (by omega) (by omega) ?_
          exact ih _ _ _ _ _ _ _ w
        · have w := w.2 c534
          refine X_iconst (v := (nI 0)) (show decode cL_law 2121 = .ok (.iconst 0, 1) by decide +kernel) (by decide) ?_
          exact X_iret ⟨(show decode cL_law 2122 = .ok (.ireturn, 1) by decide +kernel), .boolean, rfl, (by decide)⟩ ⟨_, rfl, w⟩
      by_cases z33 : (mI h x0 x5.toNatClampNeg &&& (nI 63)) = (nI 33)
      · have w := w.2.2.2.2.2.2.2.2.2.2.2.2.2.2.2.2.2.2.2.2.2.2.2.2.2.2.2.2.2.2.2.2.2.1 z33
        refine X_tableIn (tgt := 2123) (show decode cL_law 44 = .ok (.tableswitch 2881 0 54 #[236, 292, 372, 440, 496, 552, 615, 683, 739, 795, 851, 864, 920, 976, 1032, 1095, 1151, 1219, 1287, 1367, 1435, 1448, 1473, 1529, 1585, 1648, 1711, 1767, 1823, 1879, 1935, 1991, 2066, 2079, 2092, 2167, 2180, 2193, 2237, 2281, 2294, 2307, 2321, 2386, 2452, 2465, 2478, 2534, 2590, 2648, 2692, 2736, 2780, 2824, 2837], 236) by decide +kernel) (by rw [z33]; decide) (by rw [z33]; decide) (by rw [z33] <;> rfl) (by decide) ?_
        refine X_aload_n (j := 1) (show decode cL_law 2123 = .ok (.aload_n 1, 1) by decide +kernel) rfl rfl ?_
        obtain ⟨s543, w⟩ := w
        refine X_vI (rc' := (n * 33 + 66)) (rs' := (n * 8198 + 16396)) (as := []) mv_L_273 (show decode cL_law 2124 = .ok (.invokevirtual 273, 3) by decide +kernel) (by decide) (by omega) (by omega) rfl rfl (Nat.le_of_ble_eq_true rfl) (rcvD s543 (by decide) rfl) (kX9_deadlockedByPairs w) (fun E h hk => hk.elim) (fun r538 h537 w => ?_)
        refine X_aload_n (j := 2) (show decode cL_law 2127 = .ok (.aload_n 2, 1) by decide +kernel) rfl rfl ?_
        obtain ⟨s542, w⟩ := w
        refine X_vI (rc' := (n * 33 + 66)) (rs' := (n * 8198 + 16396)) (as := []) mv_L_276 (show decode cL_law 2128 = .ok (.invokevirtual 276, 3) by decide +kernel) (by decide) (by omega) (by omega) rfl rfl (Nat.le_of_ble_eq_true rfl) (rcvD s542 (by decide) rfl) (kX10_deadlockedByPairs w) (fun E h hk => hk.elim) (fun r540 h539 w => ?_)
        refine X_icmp_eq (tgt := 2925) (show decode cL_law 2131 = .ok (.if_icmp .eq 794, 3) by decide +kernel) (by decide) ⟨fun c541 => ?_, fun c541 => ?_⟩
        · have w := w.1 c541
          refine X_iinc (j := 5) (v := _ + (nI 4)) (ls' := [(0, .ref _), (1, .ref _), (2, .ref _), (3, .ref _), (4, .ref _), (5, .int _)]) (show decode cL_law 2925 = .ok (.iinc 5 4, 3) by decide +kernel) rfl rfl (Nat.le_of_ble_eq_true rfl) rfl ?_
          refine X_goto (tgt := 28) (show decode cL_law 2928 = .ok (.goto (-2900), 3) by decide +kernel) (by decide) ?_
          refine X_room (rc' := (n * 33 + 33)) (rs' := (n * 8198 + 8198)) (by omega) (by omega) ?_
          exact ih _ _ _ _ _ _ _ w
        · have w := w.2 c541
          refine X_iconst (v := (nI 0)) (show decode cL_law 2134 = .ok (.iconst 0, 1) by decide +kernel) (by decide) ?_
          exact X_iret ⟨(show decode cL_law 2135 = .ok (.ireturn, 1) by decide +kernel), .boolean, rfl, (by decide)⟩ ⟨_, rfl, w⟩
      by_cases z34 : (mI h x0 x5.toNatClampNeg &&& (nI 63)) = (nI 34)
      · have w := w.2.2.2.2.2.2.2.2.2.2.2.2.2.2.2.2.2.2.2.2.2.2.2.2.2.2.2.2.2.2.2.2.2.2.1 z34
        refine X_tableIn (tgt := 2136) (show decode cL_law 44 = .ok (.tableswitch 2881 0 54 #[236, 292, 372, 440, 496, 552, 615, 683, 739, 795, 851, 864, 920, 976, 1032, 1095, 1151, 1219, 1287, 1367, 1435, 1448, 1473, 1529, 1585, 1648, 1711, 1767, 1823, 1879, 1935, 1991, 2066, 2079, 2092, 2167, 2180, 2193, 2237, 2281, 2294, 2307, 2321, 2386, 2452, 2465, 2478, 2534, 2590, 2648, 2692, 2736, 2780, 2824, 2837], 236) by decide +kernel) (by rw [z34]; decide) (by rw [z34]; decide) (by rw [z34] <;> rfl) (by decide) ?_
        refine X_aload_n (j := 1) (show decode cL_law 2136 = .ok (.aload_n 1, 1) by decide +kernel) rfl rfl ?_
        refine X_aload_n (j := 0) (show decode cL_law 2137 = .ok (.aload_n 0, 1) by decide +kernel) rfl rfl ?_
        refine X_iload (j := 5) (show decode cL_law 2138 = .ok (.iload 5, 2) by decide +kernel) rfl ?_
        refine X_iconst (v := (nI 1)) (show decode cL_law 2140 = .ok (.iconst 1, 1) by decide +kernel) (by decide) ?_
        refine X_iadd (show decode cL_law 2141 = .ok (.iadd, 1) by decide +kernel) ?_
        obtain ⟨s544, w⟩ := w
        refine X_iald (show decode cL_law 2142 = .ok (.iaload, 1) by decide +kernel) (isA_eq s9) s544 ?_
        refine X_aload_n (j := 0) (show decode cL_law 2143 = .ok (.aload_n 0, 1) by decide +kernel) rfl rfl ?_
        refine X_iload (j := 5) (show decode cL_law 2144 = .ok (.iload 5, 2) by decide +kernel) rfl ?_
        refine X_iconst (v := (nI 2)) (show decode cL_law 2146 = .ok (.iconst 2, 1) by decide +kernel) (by decide) ?_
        refine X_iadd (show decode cL_law 2147 = .ok (.iadd, 1) by decide +kernel) ?_
        obtain ⟨s545, w⟩ := w
        refine X_iald (show decode cL_law 2148 = .ok (.iaload, 1) by decide +kernel) (isA_eq s9) s545 ?_
        refine X_aload_n (j := 3) (show decode cL_law 2149 = .ok (.aload_n 3, 1) by decide +kernel) rfl rfl ?_
        refine X_sH (rc' := (n * 33 + 63)) (rs' := (n * 8198 + 16378)) (as := [.ref _, .int _, .int _, .ref _]) msh_L_277 (show decode cL_law 2150 = .ok (.invokestatic 277, 3) by decide +kernel) (by decide) (by omega) (by omega) rfl rfl (Nat.le_of_ble_eq_true rfl) (kL_conflict w) (fun r547 h546 w => ?_)
        refine X_istore (ls' := [(0, .ref _), (1, .ref _), (2, .ref _), (3, .ref _), (4, .ref _), (5, .int _), (6, .int _)]) (show decode cL_law 2153 = .ok (.istore 6, 2) by decide +kernel) (by decide) rfl ?_
        refine X_aload_n (j := 2) (show decode cL_law 2155 = .ok (.aload_n 2, 1) by decide +kernel) rfl rfl ?_
        refine X_aload_n (j := 0) (show decode cL_law 2156 = .ok (.aload_n 0, 1) by decide +kernel) rfl rfl ?_
        refine X_iload (j := 5) (show decode cL_law 2157 = .ok (.iload 5, 2) by decide +kernel) rfl ?_
        refine X_iconst (v := (nI 1)) (show decode cL_law 2159 = .ok (.iconst 1, 1) by decide +kernel) (by decide) ?_
        refine X_iadd (show decode cL_law 2160 = .ok (.iadd, 1) by decide +kernel) ?_
        obtain ⟨s548, w⟩ := w
        obtain ⟨s549, w⟩ := w
        refine X_iald (show decode cL_law 2161 = .ok (.iaload, 1) by decide +kernel) (isA_eq s548) s549 ?_
        refine X_aload_n (j := 0) (show decode cL_law 2162 = .ok (.aload_n 0, 1) by decide +kernel) rfl rfl ?_
        refine X_iload (j := 5) (show decode cL_law 2163 = .ok (.iload 5, 2) by decide +kernel) rfl ?_
        refine X_iconst (v := (nI 2)) (show decode cL_law 2165 = .ok (.iconst 2, 1) by decide +kernel) (by decide) ?_
        refine X_iadd (show decode cL_law 2166 = .ok (.iadd, 1) by decide +kernel) ?_
        obtain ⟨s550, w⟩ := w
        refine X_iald (show decode cL_law 2167 = .ok (.iaload, 1) by decide +kernel) (isA_eq s548) s550 ?_
        obtain ⟨s563, w⟩ := w
        refine X_vI (rc' := (n * 33 + 63)) (rs' := (n * 8198 + 16378)) (as := [.int _, .int _]) mv_L_279 (show decode cL_law 2168 = .ok (.invokevirtual 279, 3) by decide +kernel) (by decide) (by omega) (by omega) rfl rfl (Nat.le_of_ble_eq_true rfl) (rcvD s563 (by decide) rfl) (kX10_conflict w) (fun E h hk => hk.elim) (fun r552 h551 w => ?_)
        refine X_istore (ls' := [(0, .ref _), (1, .ref _), (2, .ref _), (3, .ref _), (4, .ref _), (5, .int _), (6, .int _), (7, .int _)]) (show decode cL_law 2171 = .ok (.istore 7, 2) by decide +kernel) (by decide) rfl ?_
        refine X_aload_n (j := 2) (show decode cL_law 2173 = .ok (.aload_n 2, 1) by decide +kernel) rfl rfl ?_
        obtain ⟨s562, w⟩ := w
        refine X_vI (rc' := (n * 33 + 63)) (rs' := (n * 8198 + 16378)) (as := []) mv_L_168 (show decode cL_law 2174 = .ok (.invokevirtual 168, 3) by decide +kernel) (by decide) (by omega) (by omega) rfl rfl (Nat.le_of_ble_eq_true rfl) (rcvD s562 (by decide) rfl) (kX10_thrown w) (fun E h hk => hk.elim) (fun r554 h553 w => ?_)
        refine X_iload (j := 6) (show decode cL_law 2177 = .ok (.iload 6, 2) by decide +kernel) rfl ?_
        refine X_icmp_eq (tgt := 2184) (show decode cL_law 2179 = .ok (.if_icmp .eq 5, 3) by decide +kernel) (by decide) ⟨fun c555 => ?_, fun c555 => ?_⟩
        · have w := w.1 c555
          refine X_iload (j := 6) (show decode cL_law 2184 = .ok (.iload 6, 2) by decide +kernel) rfl ?_
          refine X_if_ne (tgt := 2208) (show decode cL_law 2186 = .ok (.ifCond .ne 22, 3) by decide +kernel) (by decide) ⟨fun c556 => ?_, fun c556 => ?_⟩
          · have w := w.1 c556
            refine X_goto (tgt := 2925) (show decode cL_law 2208 = .ok (.goto 717, 3) by decide +kernel) (by decide) ?_
            refine X_iinc (j := 5) (v := _ + (nI 4)) (ls' := [(0, .ref _), (1, .ref _), (2, .ref _), (3, .ref _), (4, .ref _), (5, .int _), (6, .int _), (7, .int _)]) (show decode cL_law 2925 = .ok (.iinc 5 4, 3) by decide +kernel) rfl rfl (Nat.le_of_ble_eq_true rfl) rfl ?_
            refine X_goto (tgt := 28) (show decode cL_law 2928 = .ok (.goto (-2900), 3) by decide +kernel) (by decide) ?_
            refine X_room (rc' := (n * 33 + 33)) (rs' := (n * 8198 + 8198)) (by omega) (by omega) ?_
            refine X_pick (ls' := [(0, .ref _), (1, .ref _), (2, .ref _), (3, .ref _), (4, .ref _), (5, .int _)]) [0, 1, 2, 3, 4, 5] rfl ?_
            exact ih _ _ _ _ _ _ _ w
          · have w := w.2 c556
            refine X_aload_n (j := 3) (show decode cL_law 2189 = .ok (.aload_n 3, 1) by decide +kernel) rfl rfl ?_
            refine X_iconst (v := (nI 0)) (show decode cL_law 2190 = .ok (.iconst 0, 1) by decide +kernel) (by decide) ?_
            obtain ⟨s557, w⟩ := w
            obtain ⟨s558, w⟩ := w
            refine X_lald (show decode cL_law 2191 = .ok (.laload, 1) by decide +kernel) (isA_eq s557) s558 ?_
            refine X_iload (j := 7) (show decode cL_law 2192 = .ok (.iload 7, 2) by decide +kernel) rfl ?_
            refine X_if_eq (tgt := 2201) (show decode cL_law 2194 = .ok (.ifCond .eq 7, 3) by decide +kernel) (by decide) ⟨fun c559 => ?_, fun c559 => ?_⟩
            · have w := w.1 c559
              refine X_lconst (v := 0) (show decode cL_law 2201 = .ok (.lconst 0, 1) by decide +kernel) (by decide) ?_
              refine X_lcmp (show decode cL_law 2202 = .ok (.lcmp, 1) by decide +kernel) ?_
              refine X_if_eq (tgt := 2208) (show decode cL_law 2203 = .ok (.ifCond .eq 5, 3) by decide +kernel) (by decide) ⟨fun c560 => ?_, fun c560 => ?_⟩
              · have w := w.1 c560
                refine X_goto (tgt := 2925) (show decode cL_law 2208 = .ok (.goto 717, 3) by decide +kernel) (by decide) ?_
                refine X_iinc (j := 5) (v := _ + (nI 4)) (ls' := [(0, .ref _), (1, .ref _), (2, .ref _), (3, .ref _), (4, .ref _), (5, .int _), (6, .int _), (7, .int _)]) (show decode cL_law 2925 = .ok (.iinc 5 4, 3) by decide +kernel) rfl rfl (Nat.le_of_ble_eq_true rfl) rfl ?_
                refine X_goto (tgt := 28) (show decode cL_law 2928 = .ok (.goto (-2900), 3) by decide +kernel) (by decide) ?_
                refine X_room (rc' := (n * 33 + 33)) (rs' := (n * 8198 + 8198)) (by omega) (by omega) ?_
                refine X_pick (ls' := [(0, .ref _), (1, .ref _), (2, .ref _), (3, .ref _), (4, .ref _), (5, .int _)]) [0, 1, 2, 3, 4, 5] rfl ?_
                exact ih _ _ _ _ _ _ _ w
              · have w := w.2 c560
                refine X_iconst (v := (nI 0)) (show decode cL_law 2206 = .ok (.iconst 0, 1) by decide +kernel) (by decide) ?_
                exact X_iret ⟨(show decode cL_law 2207 = .ok (.ireturn, 1) by decide +kernel), .boolean, rfl, (by decide)⟩ ⟨_, rfl, w⟩
            · have w := w.2 c559
              refine X_lconst (v := 1) (show decode cL_law 2197 = .ok (.lconst 1, 1) by decide +kernel) (by decide) ?_
              refine X_goto (tgt := 2202) (show decode cL_law 2198 = .ok (.goto 4, 3) by decide +kernel) (by decide) ?_
              refine X_lcmp (show decode cL_law 2202 = .ok (.lcmp, 1) by decide +kernel) ?_
              refine X_if_eq (tgt := 2208) (show decode cL_law 2203 = .ok (.ifCond .eq 5, 3) by decide +kernel) (by decide) ⟨fun c561 => ?_, fun c561 => ?_⟩
              · have w := w.1 c561
                refine X_goto (tgt := 2925) (show decode cL_law 2208 = .ok (.goto 717, 3) by decide +kernel) (by decide) ?_
                refine X_iinc (j := 5) (v := _ + (nI 4)) (ls' := [(0, .ref _), (1, .ref _), (2, .ref _), (3, .ref _), (4, .ref _), (5, .int _), (6, .int _), (7, .int _)]) (show decode cL_law 2925 = .ok (.iinc 5 4, 3) by decide +kernel) rfl rfl (Nat.le_of_ble_eq_true rfl) rfl ?_
                refine X_goto (tgt := 28) (show decode cL_law 2928 = .ok (.goto (-2900), 3) by decide +kernel) (by decide) ?_
                refine X_room (rc' := (n * 33 + 33)) (rs' := (n * 8198 + 8198)) (by omega) (by omega) ?_
                refine X_pick (ls' := [(0, .ref _), (1, .ref _), (2, .ref _), (3, .ref _), (4, .ref _), (5, .int _)]) [0, 1, 2, 3, 4, 5] rfl ?_
                exact ih _ _ _ _ _ _ _ w
              · have w := w.2 c561
                refine X_iconst (v := (nI 0)) (show decode cL_law 2206 = .ok (.iconst 0, 1) by decide +kernel) (by decide) ?_
                exact X_iret ⟨(show decode cL_law 2207 = .ok (.ireturn, 1) by decide +kernel), .boolean, rfl, (by decide)⟩ ⟨_, rfl, w⟩
        · have w := w.2 c555
          refine X_iconst (v := (nI 0)) (show decode cL_law 2182 = .ok (.iconst 0, 1) by decide +kernel) (by decide) ?_
          exact X_iret ⟨(show decode cL_law 2183 = .ok (.ireturn, 1) by decide +kernel), .boolean, rfl, (by decide)⟩ ⟨_, rfl, w⟩
      by_cases z35 : (mI h x0 x5.toNatClampNeg &&& (nI 63)) = (nI 35)
      · have w := w.2.2.2.2.2.2.2.2.2.2.2.2.2.2.2.2.2.2.2.2.2.2.2.2.2.2.2.2.2.2.2.2.2.2.2.1 z35
        refine X_tableIn (tgt := 2211) (show decode cL_law 44 = .ok (.tableswitch 2881 0 54 #[236, 292, 372, 440, 496, 552, 615, 683, 739, 795, 851, 864, 920, 976, 1032, 1095, 1151, 1219, 1287, 1367, 1435, 1448, 1473, 1529, 1585, 1648, 1711, 1767, 1823, 1879, 1935, 1991, 2066, 2079, 2092, 2167, 2180, 2193, 2237, 2281, 2294, 2307, 2321, 2386, 2452, 2465, 2478, 2534, 2590, 2648, 2692, 2736, 2780, 2824, 2837], 236) by decide +kernel) (by rw [z35]; decide) (by rw [z35]; decide) (by rw [z35] <;> rfl) (by decide) ?_
        refine X_aload_n (j := 1) (show decode cL_law 2211 = .ok (.aload_n 1, 1) by decide +kernel) rfl rfl ?_
        obtain ⟨s570, w⟩ := w
        refine X_vI (rc' := (n * 33 + 66)) (rs' := (n * 8198 + 16396)) (as := []) mv_L_280 (show decode cL_law 2212 = .ok (.invokevirtual 280, 3) by decide +kernel) (by decide) (by omega) (by omega) rfl rfl (Nat.le_of_ble_eq_true rfl) (rcvD s570 (by decide) rfl) (kX9_mostWithoutConflict w) (fun E h hk => hk.elim) (fun r565 h564 w => ?_)
        refine X_aload_n (j := 2) (show decode cL_law 2215 = .ok (.aload_n 2, 1) by decide +kernel) rfl rfl ?_
        obtain ⟨s569, w⟩ := w
        refine X_vI (rc' := (n * 33 + 66)) (rs' := (n * 8198 + 16396)) (as := []) mv_L_283 (show decode cL_law 2216 = .ok (.invokevirtual 283, 3) by decide +kernel) (by decide) (by omega) (by omega) rfl rfl (Nat.le_of_ble_eq_true rfl) (rcvD s569 (by decide) rfl) (kX10_mostWithoutConflict w) (fun E h hk => hk.elim) (fun r567 h566 w => ?_)
        refine X_icmp_eq (tgt := 2925) (show decode cL_law 2219 = .ok (.if_icmp .eq 706, 3) by decide +kernel) (by decide) ⟨fun c568 => ?_, fun c568 => ?_⟩
        · have w := w.1 c568
          refine X_iinc (j := 5) (v := _ + (nI 4)) (ls' := [(0, .ref _), (1, .ref _), (2, .ref _), (3, .ref _), (4, .ref _), (5, .int _)]) (show decode cL_law 2925 = .ok (.iinc 5 4, 3) by decide +kernel) rfl rfl (Nat.le_of_ble_eq_true rfl) rfl ?_
          refine X_goto (tgt := 28) (show decode cL_law 2928 = .ok (.goto (-2900), 3) by decide +kernel) (by decide) ?_
          refine X_room (rc' := (n * 33 + 33)) (rs' := (n * 8198 + 8198)) (by omega) (by omega) ?_
          exact ih _ _ _ _ _ _ _ w
        · have w := w.2 c568
          refine X_iconst (v := (nI 0)) (show decode cL_law 2222 = .ok (.iconst 0, 1) by decide +kernel) (by decide) ?_
          exact X_iret ⟨(show decode cL_law 2223 = .ok (.ireturn, 1) by decide +kernel), .boolean, rfl, (by decide)⟩ ⟨_, rfl, w⟩
      by_cases z36 : (mI h x0 x5.toNatClampNeg &&& (nI 63)) = (nI 36)
      · have w := w.2.2.2.2.2.2.2.2.2.2.2.2.2.2.2.2.2.2.2.2.2.2.2.2.2.2.2.2.2.2.2.2.2.2.2.2.1 z36
        refine X_tableIn (tgt := 2224) (show decode cL_law 44 = .ok (.tableswitch 2881 0 54 #[236, 292, 372, 440, 496, 552, 615, 683, 739, 795, 851, 864, 920, 976, 1032, 1095, 1151, 1219, 1287, 1367, 1435, 1448, 1473, 1529, 1585, 1648, 1711, 1767, 1823, 1879, 1935, 1991, 2066, 2079, 2092, 2167, 2180, 2193, 2237, 2281, 2294, 2307, 2321, 2386, 2452, 2465, 2478, 2534, 2590, 2648, 2692, 2736, 2780, 2824, 2837], 236) by decide +kernel) (by rw [z36]; decide) (by rw [z36]; decide) (by rw [z36] <;> rfl) (by decide) ?_
        refine X_aload_n (j := 1) (show decode cL_law 2224 = .ok (.aload_n 1, 1) by decide +kernel) rfl rfl ?_
        obtain ⟨s577, w⟩ := w
        refine X_vI (rc' := (n * 33 + 66)) (rs' := (n * 8198 + 16396)) (as := []) mv_L_284 (show decode cL_law 2225 = .ok (.invokevirtual 284, 3) by decide +kernel) (by decide) (by omega) (by omega) rfl rfl (Nat.le_of_ble_eq_true rfl) (rcvD s577 (by decide) rfl) (kX9_mostWithoutConflictBySets w) (fun E h hk => hk.elim) (fun r572 h571 w => ?_)
        refine X_aload_n (j := 2) (show decode cL_law 2228 = .ok (.aload_n 2, 1) by decide +kernel) rfl rfl ?_
        obtain ⟨s576, w⟩ := w
        refine X_vI (rc' := (n * 33 + 66)) (rs' := (n * 8198 + 16396)) (as := []) mv_L_287 (show decode cL_law 2229 = .ok (.invokevirtual 287, 3) by decide +kernel) (by decide) (by omega) (by omega) rfl rfl (Nat.le_of_ble_eq_true rfl) (rcvD s576 (by decide) rfl) (kX10_mostWithoutConflictBySets w) (fun E h hk => hk.elim) (fun r574 h573 w => ?_)
        refine X_icmp_eq (tgt := 2925) (show decode cL_law 2232 = .ok (.if_icmp .eq 693, 3) by decide +kernel) (by decide) ⟨fun c575 => ?_, fun c575 => ?_⟩
        · have w := w.1 c575
          refine X_iinc (j := 5) (v := _ + (nI 4)) (ls' := [(0, .ref _), (1, .ref _), (2, .ref _), (3, .ref _), (4, .ref _), (5, .int _)]) (show decode cL_law 2925 = .ok (.iinc 5 4, 3) by decide +kernel) rfl rfl (Nat.le_of_ble_eq_true rfl) rfl ?_
          refine X_goto (tgt := 28) (show decode cL_law 2928 = .ok (.goto (-2900), 3) by decide +kernel) (by decide) ?_
          refine X_room (rc' := (n * 33 + 33)) (rs' := (n * 8198 + 8198)) (by omega) (by omega) ?_
          exact ih _ _ _ _ _ _ _ w
        · have w := w.2 c575
          refine X_iconst (v := (nI 0)) (show decode cL_law 2235 = .ok (.iconst 0, 1) by decide +kernel) (by decide) ?_
          exact X_iret ⟨(show decode cL_law 2236 = .ok (.ireturn, 1) by decide +kernel), .boolean, rfl, (by decide)⟩ ⟨_, rfl, w⟩
      by_cases z37 : (mI h x0 x5.toNatClampNeg &&& (nI 63)) = (nI 37)
      · have w := w.2.2.2.2.2.2.2.2.2.2.2.2.2.2.2.2.2.2.2.2.2.2.2.2.2.2.2.2.2.2.2.2.2.2.2.2.2.1 z37
        refine X_tableIn (tgt := 2237) (show decode cL_law 44 = .ok (.tableswitch 2881 0 54 #[236, 292, 372, 440, 496, 552, 615, 683, 739, 795, 851, 864, 920, 976, 1032, 1095, 1151, 1219, 1287, 1367, 1435, 1448, 1473, 1529, 1585, 1648, 1711, 1767, 1823, 1879, 1935, 1991, 2066, 2079, 2092, 2167, 2180, 2193, 2237, 2281, 2294, 2307, 2321, 2386, 2452, 2465, 2478, 2534, 2590, 2648, 2692, 2736, 2780, 2824, 2837], 236) by decide +kernel) (by rw [z37]; decide) (by rw [z37]; decide) (by rw [z37] <;> rfl) (by decide) ?_
        refine X_aload_n (j := 1) (show decode cL_law 2237 = .ok (.aload_n 1, 1) by decide +kernel) rfl rfl ?_
        refine X_aload_n (j := 3) (show decode cL_law 2238 = .ok (.aload_n 3, 1) by decide +kernel) rfl rfl ?_
        refine X_sH (rc' := (n * 33 + 65)) (rs' := (n * 8198 + 16390)) (as := [.ref _, .ref _]) msh_L_288 (show decode cL_law 2239 = .ok (.invokestatic 288, 3) by decide +kernel) (by decide) (by omega) (by omega) rfl rfl (Nat.le_of_ble_eq_true rfl) (kL_refusalReason w) (fun r579 h578 w => ?_)
        refine X_istore (ls' := [(0, .ref _), (1, .ref _), (2, .ref _), (3, .ref _), (4, .ref _), (5, .int _), (6, .int _)]) (show decode cL_law 2242 = .ok (.istore 6, 2) by decide +kernel) (by decide) rfl ?_
        refine X_aload_n (j := 2) (show decode cL_law 2244 = .ok (.aload_n 2, 1) by decide +kernel) rfl rfl ?_
        obtain ⟨s590, w⟩ := w
        refine X_vI (rc' := (n * 33 + 65)) (rs' := (n * 8198 + 16390)) (as := []) mv_L_291 (show decode cL_law 2245 = .ok (.invokevirtual 291, 3) by decide +kernel) (by decide) (by omega) (by omega) rfl rfl (Nat.le_of_ble_eq_true rfl) (rcvD s590 (by decide) rfl) (kX10_refusalReason w) (fun E h hk => hk.elim) (fun r581 h580 w => ?_)
        refine X_istore (ls' := [(0, .ref _), (1, .ref _), (2, .ref _), (3, .ref _), (4, .ref _), (5, .int _), (6, .int _), (7, .int _)]) (show decode cL_law 2248 = .ok (.istore 7, 2) by decide +kernel) (by decide) rfl ?_
        refine X_aload_n (j := 2) (show decode cL_law 2250 = .ok (.aload_n 2, 1) by decide +kernel) rfl rfl ?_
        obtain ⟨s589, w⟩ := w
        refine X_vI (rc' := (n * 33 + 65)) (rs' := (n * 8198 + 16390)) (as := []) mv_L_168 (show decode cL_law 2251 = .ok (.invokevirtual 168, 3) by decide +kernel) (by decide) (by omega) (by omega) rfl rfl (Nat.le_of_ble_eq_true rfl) (rcvD s589 (by decide) rfl) (kX10_thrown w) (fun E h hk => hk.elim) (fun r583 h582 w => ?_)
        refine X_iload (j := 6) (show decode cL_law 2254 = .ok (.iload 6, 2) by decide +kernel) rfl ?_
        refine X_icmp_eq (tgt := 2261) (show decode cL_law 2256 = .ok (.if_icmp .eq 5, 3) by decide +kernel) (by decide) ⟨fun c584 => ?_, fun c584 => ?_⟩
        · have w := w.1 c584
          refine X_iload (j := 6) (show decode cL_law 2261 = .ok (.iload 6, 2) by decide +kernel) rfl ?_
          refine X_if_ne (tgt := 2278) (show decode cL_law 2263 = .ok (.ifCond .ne 15, 3) by decide +kernel) (by decide) ⟨fun c585 => ?_, fun c585 => ?_⟩
          · have w := w.1 c585
            refine X_goto (tgt := 2925) (show decode cL_law 2278 = .ok (.goto 647, 3) by decide +kernel) (by decide) ?_
            refine X_iinc (j := 5) (v := _ + (nI 4)) (ls' := [(0, .ref _), (1, .ref _), (2, .ref _), (3, .ref _), (4, .ref _), (5, .int _), (6, .int _), (7, .int _)]) (show decode cL_law 2925 = .ok (.iinc 5 4, 3) by decide +kernel) rfl rfl (Nat.le_of_ble_eq_true rfl) rfl ?_
            refine X_goto (tgt := 28) (show decode cL_law 2928 = .ok (.goto (-2900), 3) by decide +kernel) (by decide) ?_
            refine X_room (rc' := (n * 33 + 33)) (rs' := (n * 8198 + 8198)) (by omega) (by omega) ?_
            refine X_pick (ls' := [(0, .ref _), (1, .ref _), (2, .ref _), (3, .ref _), (4, .ref _), (5, .int _)]) [0, 1, 2, 3, 4, 5] rfl ?_
            exact ih _ _ _ _ _ _ _ w
          · have w := w.2 c585
            refine X_aload_n (j := 3) (show decode cL_law 2266 = .ok (.aload_n 3, 1) by decide +kernel) rfl rfl ?_
            refine X_iconst (v := (nI 0)) (show decode cL_law 2267 = .ok (.iconst 0, 1) by decide +kernel) (by decide) ?_
            obtain ⟨s586, w⟩ := w
            obtain ⟨s587, w⟩ := w
            refine X_lald (show decode cL_law 2268 = .ok (.laload, 1) by decide +kernel) (isA_eq s586) s587 ?_
            refine X_iload (j := 7) (show decode cL_law 2269 = .ok (.iload 7, 2) by decide +kernel) rfl ?_
            refine X_i2l (show decode cL_law 2271 = .ok (.i2l, 1) by decide +kernel) ?_
            refine X_lcmp (show decode cL_law 2272 = .ok (.lcmp, 1) by decide +kernel) ?_
            refine X_if_eq (tgt := 2278) (show decode cL_law 2273 = .ok (.ifCond .eq 5, 3) by decide +kernel) (by decide) ⟨fun c588 => ?_, fun c588 => ?_⟩
            · have w := w.1 c588
              refine X_goto (tgt := 2925) (show decode cL_law 2278 = .ok (.goto 647, 3) by decide +kernel) (by decide) ?_
              refine X_iinc (j := 5) (v := _ + (nI 4)) (ls' := [(0, .ref _), (1, .ref _), (2, .ref _), (3, .ref _), (4, .ref _), (5, .int _), (6, .int _), (7, .int _)]) (show decode cL_law 2925 = .ok (.iinc 5 4, 3) by decide +kernel) rfl rfl (Nat.le_of_ble_eq_true rfl) rfl ?_
              refine X_goto (tgt := 28) (show decode cL_law 2928 = .ok (.goto (-2900), 3) by decide +kernel) (by decide) ?_
              refine X_room (rc' := (n * 33 + 33)) (rs' := (n * 8198 + 8198)) (by omega) (by omega) ?_
              refine X_pick (ls' := [(0, .ref _), (1, .ref _), (2, .ref _), (3, .ref _), (4, .ref _), (5, .int _)]) [0, 1, 2, 3, 4, 5] rfl ?_
              exact ih _ _ _ _ _ _ _ w
            · have w := w.2 c588
              refine X_iconst (v := (nI 0)) (show decode cL_law 2276 = .ok (.iconst 0, 1) by decide +kernel) (by decide) ?_
              exact X_iret ⟨(show decode cL_law 2277 = .ok (.ireturn, 1) by decide +kernel), .boolean, rfl, (by decide)⟩ ⟨_, rfl, w⟩
        · have w := w.2 c584
          refine X_iconst (v := (nI 0)) (show decode cL_law 2259 = .ok (.iconst 0, 1) by decide +kernel) (by decide) ?_
          exact X_iret ⟨(show decode cL_law 2260 = .ok (.ireturn, 1) by decide +kernel), .boolean, rfl, (by decide)⟩ ⟨_, rfl, w⟩
      by_cases z38 : (mI h x0 x5.toNatClampNeg &&& (nI 63)) = (nI 38)
      · have w := w.2.2.2.2.2.2.2.2.2.2.2.2.2.2.2.2.2.2.2.2.2.2.2.2.2.2.2.2.2.2.2.2.2.2.2.2.2.2.1 z38
        refine X_tableIn (tgt := 2281) (show decode cL_law 44 = .ok (.tableswitch 2881 0 54 #[236, 292, 372, 440, 496, 552, 615, 683, 739, 795, 851, 864, 920, 976, 1032, 1095, 1151, 1219, 1287, 1367, 1435, 1448, 1473, 1529, 1585, 1648, 1711, 1767, 1823, 1879, 1935, 1991, 2066, 2079, 2092, 2167, 2180, 2193, 2237, 2281, 2294, 2307, 2321, 2386, 2452, 2465, 2478, 2534, 2590, 2648, 2692, 2736, 2780, 2824, 2837], 236) by decide +kernel) (by rw [z38]; decide) (by rw [z38]; decide) (by rw [z38] <;> rfl) (by decide) ?_
        refine X_aload_n (j := 1) (show decode cL_law 2281 = .ok (.aload_n 1, 1) by decide +kernel) rfl rfl ?_
        refine X_aload_n (j := 3) (show decode cL_law 2282 = .ok (.aload_n 3, 1) by decide +kernel) rfl rfl ?_
        refine X_sH (rc' := (n * 33 + 65)) (rs' := (n * 8198 + 16390)) (as := [.ref _, .ref _]) msh_L_292 (show decode cL_law 2283 = .ok (.invokestatic 292, 3) by decide +kernel) (by decide) (by omega) (by omega) rfl rfl (Nat.le_of_ble_eq_true rfl) (kL_refusalBlock w) (fun r592 h591 w => ?_)
        refine X_istore (ls' := [(0, .ref _), (1, .ref _), (2, .ref _), (3, .ref _), (4, .ref _), (5, .int _), (6, .int _)]) (show decode cL_law 2286 = .ok (.istore 6, 2) by decide +kernel) (by decide) rfl ?_
        refine X_aload_n (j := 2) (show decode cL_law 2288 = .ok (.aload_n 2, 1) by decide +kernel) rfl rfl ?_
        obtain ⟨s603, w⟩ := w
        refine X_vI (rc' := (n * 33 + 65)) (rs' := (n * 8198 + 16390)) (as := []) mv_L_294 (show decode cL_law 2289 = .ok (.invokevirtual 294, 3) by decide +kernel) (by decide) (by omega) (by omega) rfl rfl (Nat.le_of_ble_eq_true rfl) (rcvD s603 (by decide) rfl) (kX10_refusalBlock w) (fun E h hk => hk.elim) (fun r594 h593 w => ?_)
        refine X_istore (ls' := [(0, .ref _), (1, .ref _), (2, .ref _), (3, .ref _), (4, .ref _), (5, .int _), (6, .int _), (7, .int _)]) (show decode cL_law 2292 = .ok (.istore 7, 2) by decide +kernel) (by decide) rfl ?_
        refine X_aload_n (j := 2) (show decode cL_law 2294 = .ok (.aload_n 2, 1) by decide +kernel) rfl rfl ?_
        obtain ⟨s602, w⟩ := w
        refine X_vI (rc' := (n * 33 + 65)) (rs' := (n * 8198 + 16390)) (as := []) mv_L_168 (show decode cL_law 2295 = .ok (.invokevirtual 168, 3) by decide +kernel) (by decide) (by omega) (by omega) rfl rfl (Nat.le_of_ble_eq_true rfl) (rcvD s602 (by decide) rfl) (kX10_thrown w) (fun E h hk => hk.elim) (fun r596 h595 w => ?_)
        refine X_iload (j := 6) (show decode cL_law 2298 = .ok (.iload 6, 2) by decide +kernel) rfl ?_
        refine X_icmp_eq (tgt := 2305) (show decode cL_law 2300 = .ok (.if_icmp .eq 5, 3) by decide +kernel) (by decide) ⟨fun c597 => ?_, fun c597 => ?_⟩
        · have w := w.1 c597
          refine X_iload (j := 6) (show decode cL_law 2305 = .ok (.iload 6, 2) by decide +kernel) rfl ?_
          refine X_if_ne (tgt := 2322) (show decode cL_law 2307 = .ok (.ifCond .ne 15, 3) by decide +kernel) (by decide) ⟨fun c598 => ?_, fun c598 => ?_⟩
          · have w := w.1 c598
            refine X_goto (tgt := 2925) (show decode cL_law 2322 = .ok (.goto 603, 3) by decide +kernel) (by decide) ?_
            refine X_iinc (j := 5) (v := _ + (nI 4)) (ls' := [(0, .ref _), (1, .ref _), (2, .ref _), (3, .ref _), (4, .ref _), (5, .int _), (6, .int _), (7, .int _)]) (show decode cL_law 2925 = .ok (.iinc 5 4, 3) by decide +kernel) rfl rfl (Nat.le_of_ble_eq_true rfl) rfl ?_
            refine X_goto (tgt := 28) (show decode cL_law 2928 = .ok (.goto (-2900), 3) by decide +kernel) (by decide) ?_
            refine X_room (rc' := (n * 33 + 33)) (rs' := (n * 8198 + 8198)) (by omega) (by omega) ?_
            refine X_pick (ls' := [(0, .ref _), (1, .ref _), (2, .ref _), (3, .ref _), (4, .ref _), (5, .int _)]) [0, 1, 2, 3, 4, 5] rfl ?_
            exact ih _ _ _ _ _ _ _ w
          · have w := w.2 c598
            refine X_aload_n (j := 3) (show decode cL_law 2310 = .ok (.aload_n 3, 1) by decide +kernel) rfl rfl ?_
            refine X_iconst (v := (nI 0)) (show decode cL_law 2311 = .ok (.iconst 0, 1) by decide +kernel) (by decide) ?_
            obtain ⟨s599, w⟩ := w
            obtain ⟨s600, w⟩ := w
            refine X_lald (show decode cL_law 2312 = .ok (.laload, 1) by decide +kernel) (isA_eq s599) s600 ?_
            refine X_iload (j := 7) (show decode cL_law 2313 = .ok (.iload 7, 2) by decide +kernel) rfl ?_
            refine X_i2l (show decode cL_law 2315 = .ok (.i2l, 1) by decide +kernel) ?_
            refine X_lcmp (show decode cL_law 2316 = .ok (.lcmp, 1) by decide +kernel) ?_
            refine X_if_eq (tgt := 2322) (show decode cL_law 2317 = .ok (.ifCond .eq 5, 3) by decide +kernel) (by decide) ⟨fun c601 => ?_, fun c601 => ?_⟩
            · have w := w.1 c601
              refine X_goto (tgt := 2925) (show decode cL_law 2322 = .ok (.goto 603, 3) by decide +kernel) (by decide) ?_
              refine X_iinc (j := 5) (v := _ + (nI 4)) (ls' := [(0, .ref _), (1, .ref _), (2, .ref _), (3, .ref _), (4, .ref _), (5, .int _), (6, .int _), (7, .int _)]) (show decode cL_law 2925 = .ok (.iinc 5 4, 3) by decide +kernel) rfl rfl (Nat.le_of_ble_eq_true rfl) rfl ?_
              refine X_goto (tgt := 28) (show decode cL_law 2928 = .ok (.goto (-2900), 3) by decide +kernel) (by decide) ?_
              refine X_room (rc' := (n * 33 + 33)) (rs' := (n * 8198 + 8198)) (by omega) (by omega) ?_
              refine X_pick (ls' := [(0, .ref _), (1, .ref _), (2, .ref _), (3, .ref _), (4, .ref _), (5, .int _)]) [0, 1, 2, 3, 4, 5] rfl ?_
              exact ih _ _ _ _ _ _ _ w
            · have w := w.2 c601
              refine X_iconst (v := (nI 0)) (show decode cL_law 2320 = .ok (.iconst 0, 1) by decide +kernel) (by decide) ?_
              exact X_iret ⟨(show decode cL_law 2321 = .ok (.ireturn, 1) by decide +kernel), .boolean, rfl, (by decide)⟩ ⟨_, rfl, w⟩
        · have w := w.2 c597
          refine X_iconst (v := (nI 0)) (show decode cL_law 2303 = .ok (.iconst 0, 1) by decide +kernel) (by decide) ?_
          exact X_iret ⟨(show decode cL_law 2304 = .ok (.ireturn, 1) by decide +kernel), .boolean, rfl, (by decide)⟩ ⟨_, rfl, w⟩
      by_cases z39 : (mI h x0 x5.toNatClampNeg &&& (nI 63)) = (nI 39)
      · have w := w.2.2.2.2.2.2.2.2.2.2.2.2.2.2.2.2.2.2.2.2.2.2.2.2.2.2.2.2.2.2.2.2.2.2.2.2.2.2.2.1 z39
        refine X_tableIn (tgt := 2325) (show decode cL_law 44 = .ok (.tableswitch 2881 0 54 #[236, 292, 372, 440, 496, 552, 615, 683, 739, 795, 851, 864, 920, 976, 1032, 1095, 1151, 1219, 1287, 1367, 1435, 1448, 1473, 1529, 1585, 1648, 1711, 1767, 1823, 1879, 1935, 1991, 2066, 2079, 2092, 2167, 2180, 2193, 2237, 2281, 2294, 2307, 2321, 2386, 2452, 2465, 2478, 2534, 2590, 2648, 2692, 2736, 2780, 2824, 2837], 236) by decide +kernel) (by rw [z39]; decide) (by rw [z39]; decide) (by rw [z39] <;> rfl) (by decide) ?_
        refine X_aload_n (j := 1) (show decode cL_law 2325 = .ok (.aload_n 1, 1) by decide +kernel) rfl rfl ?_
        obtain ⟨s610, w⟩ := w
        refine X_vI (rc' := (n * 33 + 66)) (rs' := (n * 8198 + 16396)) (as := []) mv_L_295 (show decode cL_law 2326 = .ok (.invokevirtual 295, 3) by decide +kernel) (by decide) (by omega) (by omega) rfl rfl (Nat.le_of_ble_eq_true rfl) (rcvD s610 (by decide) rfl) (kX9_time w) (fun E h hk => hk.elim) (fun r605 h604 w => ?_)
        refine X_aload_n (j := 2) (show decode cL_law 2329 = .ok (.aload_n 2, 1) by decide +kernel) rfl rfl ?_
        obtain ⟨s609, w⟩ := w
        refine X_vI (rc' := (n * 33 + 66)) (rs' := (n * 8198 + 16396)) (as := []) mv_L_298 (show decode cL_law 2330 = .ok (.invokevirtual 298, 3) by decide +kernel) (by decide) (by omega) (by omega) rfl rfl (Nat.le_of_ble_eq_true rfl) (rcvD s609 (by decide) rfl) (kX10_time w) (fun E h hk => hk.elim) (fun r607 h606 w => ?_)
        refine X_icmp_eq (tgt := 2925) (show decode cL_law 2333 = .ok (.if_icmp .eq 592, 3) by decide +kernel) (by decide) ⟨fun c608 => ?_, fun c608 => ?_⟩
        · have w := w.1 c608
          refine X_iinc (j := 5) (v := _ + (nI 4)) (ls' := [(0, .ref _), (1, .ref _), (2, .ref _), (3, .ref _), (4, .ref _), (5, .int _)]) (show decode cL_law 2925 = .ok (.iinc 5 4, 3) by decide +kernel) rfl rfl (Nat.le_of_ble_eq_true rfl) rfl ?_
          refine X_goto (tgt := 28) (show decode cL_law 2928 = .ok (.goto (-2900), 3) by decide +kernel) (by decide) ?_
          refine X_room (rc' := (n * 33 + 33)) (rs' := (n * 8198 + 8198)) (by omega) (by omega) ?_
          exact ih _ _ _ _ _ _ _ w
        · have w := w.2 c608
          refine X_iconst (v := (nI 0)) (show decode cL_law 2336 = .ok (.iconst 0, 1) by decide +kernel) (by decide) ?_
          exact X_iret ⟨(show decode cL_law 2337 = .ok (.ireturn, 1) by decide +kernel), .boolean, rfl, (by decide)⟩ ⟨_, rfl, w⟩
      by_cases z40 : (mI h x0 x5.toNatClampNeg &&& (nI 63)) = (nI 40)
      · have w := w.2.2.2.2.2.2.2.2.2.2.2.2.2.2.2.2.2.2.2.2.2.2.2.2.2.2.2.2.2.2.2.2.2.2.2.2.2.2.2.2.1 z40
        refine X_tableIn (tgt := 2338) (show decode cL_law 44 = .ok (.tableswitch 2881 0 54 #[236, 292, 372, 440, 496, 552, 615, 683, 739, 795, 851, 864, 920, 976, 1032, 1095, 1151, 1219, 1287, 1367, 1435, 1448, 1473, 1529, 1585, 1648, 1711, 1767, 1823, 1879, 1935, 1991, 2066, 2079, 2092, 2167, 2180, 2193, 2237, 2281, 2294, 2307, 2321, 2386, 2452, 2465, 2478, 2534, 2590, 2648, 2692, 2736, 2780, 2824, 2837], 236) by decide +kernel) (by rw [z40]; decide) (by rw [z40]; decide) (by rw [z40] <;> rfl) (by decide) ?_
        refine X_aload_n (j := 1) (show decode cL_law 2338 = .ok (.aload_n 1, 1) by decide +kernel) rfl rfl ?_
        obtain ⟨s617, w⟩ := w
        refine X_vI (rc' := (n * 33 + 66)) (rs' := (n * 8198 + 16396)) (as := []) mv_L_299 (show decode cL_law 2339 = .ok (.invokevirtual 299, 3) by decide +kernel) (by decide) (by omega) (by omega) rfl rfl (Nat.le_of_ble_eq_true rfl) (rcvD s617 (by decide) rfl) (kX9_arrived w) (fun E h hk => hk.elim) (fun r612 h611 w => ?_)
        refine X_aload_n (j := 2) (show decode cL_law 2342 = .ok (.aload_n 2, 1) by decide +kernel) rfl rfl ?_
        obtain ⟨s616, w⟩ := w
        refine X_vI (rc' := (n * 33 + 66)) (rs' := (n * 8198 + 16396)) (as := []) mv_L_302 (show decode cL_law 2343 = .ok (.invokevirtual 302, 3) by decide +kernel) (by decide) (by omega) (by omega) rfl rfl (Nat.le_of_ble_eq_true rfl) (rcvD s616 (by decide) rfl) (kX10_arrived w) (fun E h hk => hk.elim) (fun r614 h613 w => ?_)
        refine X_icmp_eq (tgt := 2925) (show decode cL_law 2346 = .ok (.if_icmp .eq 579, 3) by decide +kernel) (by decide) ⟨fun c615 => ?_, fun c615 => ?_⟩
        · have w := w.1 c615
          refine X_iinc (j := 5) (v := _ + (nI 4)) (ls' := [(0, .ref _), (1, .ref _), (2, .ref _), (3, .ref _), (4, .ref _), (5, .int _)]) (show decode cL_law 2925 = .ok (.iinc 5 4, 3) by decide +kernel) rfl rfl (Nat.le_of_ble_eq_true rfl) rfl ?_
          refine X_goto (tgt := 28) (show decode cL_law 2928 = .ok (.goto (-2900), 3) by decide +kernel) (by decide) ?_
          refine X_room (rc' := (n * 33 + 33)) (rs' := (n * 8198 + 8198)) (by omega) (by omega) ?_
          exact ih _ _ _ _ _ _ _ w
        · have w := w.2 c615
          refine X_iconst (v := (nI 0)) (show decode cL_law 2349 = .ok (.iconst 0, 1) by decide +kernel) (by decide) ?_
          exact X_iret ⟨(show decode cL_law 2350 = .ok (.ireturn, 1) by decide +kernel), .boolean, rfl, (by decide)⟩ ⟨_, rfl, w⟩
      by_cases z41 : (mI h x0 x5.toNatClampNeg &&& (nI 63)) = (nI 41)
      · have w := w.2.2.2.2.2.2.2.2.2.2.2.2.2.2.2.2.2.2.2.2.2.2.2.2.2.2.2.2.2.2.2.2.2.2.2.2.2.2.2.2.2.1 z41
        refine X_tableIn (tgt := 2351) (show decode cL_law 44 = .ok (.tableswitch 2881 0 54 #[236, 292, 372, 440, 496, 552, 615, 683, 739, 795, 851, 864, 920, 976, 1032, 1095, 1151, 1219, 1287, 1367, 1435, 1448, 1473, 1529, 1585, 1648, 1711, 1767, 1823, 1879, 1935, 1991, 2066, 2079, 2092, 2167, 2180, 2193, 2237, 2281, 2294, 2307, 2321, 2386, 2452, 2465, 2478, 2534, 2590, 2648, 2692, 2736, 2780, 2824, 2837], 236) by decide +kernel) (by rw [z41]; decide) (by rw [z41]; decide) (by rw [z41] <;> rfl) (by decide) ?_
        refine X_aload_n (j := 1) (show decode cL_law 2351 = .ok (.aload_n 1, 1) by decide +kernel) rfl rfl ?_
        obtain ⟨s624, w⟩ := w
        refine X_vL (rc' := (n * 33 + 66)) (rs' := (n * 8198 + 16396)) (as := []) mv_L_303 (show decode cL_law 2352 = .ok (.invokevirtual 303, 3) by decide +kernel) (by decide) (by omega) (by omega) rfl rfl (Nat.le_of_ble_eq_true rfl) (rcvD s624 (by decide) rfl) (kX9_totalDelay w) (fun E h hk => hk.elim) (fun r619 h618 w => ?_)
        refine X_aload_n (j := 2) (show decode cL_law 2355 = .ok (.aload_n 2, 1) by decide +kernel) rfl rfl ?_
        obtain ⟨s623, w⟩ := w
        refine X_vL (rc' := (n * 33 + 66)) (rs' := (n * 8198 + 16396)) (as := []) mv_L_307 (show decode cL_law 2356 = .ok (.invokevirtual 307, 3) by decide +kernel) (by decide) (by omega) (by omega) rfl rfl (Nat.le_of_ble_eq_true rfl) (rcvD s623 (by decide) rfl) (kX10_totalDelay w) (fun E h hk => hk.elim) (fun r621 h620 w => ?_)
        refine X_lcmp (show decode cL_law 2359 = .ok (.lcmp, 1) by decide +kernel) ?_
        refine X_if_eq (tgt := 2925) (show decode cL_law 2360 = .ok (.ifCond .eq 565, 3) by decide +kernel) (by decide) ⟨fun c622 => ?_, fun c622 => ?_⟩
        · have w := w.1 c622
          refine X_iinc (j := 5) (v := _ + (nI 4)) (ls' := [(0, .ref _), (1, .ref _), (2, .ref _), (3, .ref _), (4, .ref _), (5, .int _)]) (show decode cL_law 2925 = .ok (.iinc 5 4, 3) by decide +kernel) rfl rfl (Nat.le_of_ble_eq_true rfl) rfl ?_
          refine X_goto (tgt := 28) (show decode cL_law 2928 = .ok (.goto (-2900), 3) by decide +kernel) (by decide) ?_
          refine X_room (rc' := (n * 33 + 33)) (rs' := (n * 8198 + 8198)) (by omega) (by omega) ?_
          exact ih _ _ _ _ _ _ _ w
        · have w := w.2 c622
          refine X_iconst (v := (nI 0)) (show decode cL_law 2363 = .ok (.iconst 0, 1) by decide +kernel) (by decide) ?_
          exact X_iret ⟨(show decode cL_law 2364 = .ok (.ireturn, 1) by decide +kernel), .boolean, rfl, (by decide)⟩ ⟨_, rfl, w⟩
      by_cases z42 : (mI h x0 x5.toNatClampNeg &&& (nI 63)) = (nI 42)
      · have w := w.2.2.2.2.2.2.2.2.2.2.2.2.2.2.2.2.2.2.2.2.2.2.2.2.2.2.2.2.2.2.2.2.2.2.2.2.2.2.2.2.2.2.1 z42
        refine X_tableIn (tgt := 2365) (show decode cL_law 44 = .ok (.tableswitch 2881 0 54 #[236, 292, 372, 440, 496, 552, 615, 683, 739, 795, 851, 864, 920, 976, 1032, 1095, 1151, 1219, 1287, 1367, 1435, 1448, 1473, 1529, 1585, 1648, 1711, 1767, 1823, 1879, 1935, 1991, 2066, 2079, 2092, 2167, 2180, 2193, 2237, 2281, 2294, 2307, 2321, 2386, 2452, 2465, 2478, 2534, 2590, 2648, 2692, 2736, 2780, 2824, 2837], 236) by decide +kernel) (by rw [z42]; decide) (by rw [z42]; decide) (by rw [z42] <;> rfl) (by decide) ?_
        refine X_aload_n (j := 1) (show decode cL_law 2365 = .ok (.aload_n 1, 1) by decide +kernel) rfl rfl ?_
        refine X_aload (j := 4) (show decode cL_law 2366 = .ok (.aload 4, 2) by decide +kernel) rfl ?_
        refine X_sH (rc' := (n * 33 + 65)) (rs' := (n * 8198 + 16390)) (as := [.ref _, .ref _]) msh_L_308 (show decode cL_law 2368 = .ok (.invokestatic 308, 3) by decide +kernel) (by decide) (by omega) (by omega) rfl rfl (Nat.le_of_ble_eq_true rfl) (kL_meanDelay w) (fun r626 h625 w => ?_)
        refine X_istore (ls' := [(0, .ref _), (1, .ref _), (2, .ref _), (3, .ref _), (4, .ref _), (5, .int _), (6, .int _)]) (show decode cL_law 2371 = .ok (.istore 6, 2) by decide +kernel) (by decide) rfl ?_
        refine X_aload_n (j := 2) (show decode cL_law 2373 = .ok (.aload_n 2, 1) by decide +kernel) rfl rfl ?_
        obtain ⟨s640, w⟩ := w
        refine X_vD (rc' := (n * 33 + 65)) (rs' := (n * 8198 + 16390)) (as := []) mv_L_311 (show decode cL_law 2374 = .ok (.invokevirtual 311, 3) by decide +kernel) (by decide) (by omega) (by omega) rfl rfl (Nat.le_of_ble_eq_true rfl) (rcvD s640 (by decide) rfl) (kX10_meanDelay w) (fun E h hk => hk.elim) (fun r628 h627 w => ?_)
        refine X_dstore (ls' := [(0, .ref _), (1, .ref _), (2, .ref _), (3, .ref _), (4, .ref _), (5, .int _), (6, .int _), (7, .double _)]) (show decode cL_law 2377 = .ok (.dstore 7, 2) by decide +kernel) (by decide) rfl ?_
        refine X_aload_n (j := 2) (show decode cL_law 2379 = .ok (.aload_n 2, 1) by decide +kernel) rfl rfl ?_
        obtain ⟨s639, w⟩ := w
        refine X_vI (rc' := (n * 33 + 65)) (rs' := (n * 8198 + 16390)) (as := []) mv_L_168 (show decode cL_law 2380 = .ok (.invokevirtual 168, 3) by decide +kernel) (by decide) (by omega) (by omega) rfl rfl (Nat.le_of_ble_eq_true rfl) (rcvD s639 (by decide) rfl) (kX10_thrown w) (fun E h hk => hk.elim) (fun r630 h629 w => ?_)
        refine X_iload (j := 6) (show decode cL_law 2383 = .ok (.iload 6, 2) by decide +kernel) rfl ?_
        refine X_icmp_eq (tgt := 2390) (show decode cL_law 2385 = .ok (.if_icmp .eq 5, 3) by decide +kernel) (by decide) ⟨fun c631 => ?_, fun c631 => ?_⟩
        · have w := w.1 c631
          refine X_iload (j := 6) (show decode cL_law 2390 = .ok (.iload 6, 2) by decide +kernel) rfl ?_
          refine X_if_ne (tgt := 2427) (show decode cL_law 2392 = .ok (.ifCond .ne 35, 3) by decide +kernel) (by decide) ⟨fun c632 => ?_, fun c632 => ?_⟩
          · have w := w.1 c632
            refine X_goto (tgt := 2925) (show decode cL_law 2427 = .ok (.goto 498, 3) by decide +kernel) (by decide) ?_
            refine X_iinc (j := 5) (v := _ + (nI 4)) (ls' := [(0, .ref _), (1, .ref _), (2, .ref _), (3, .ref _), (4, .ref _), (5, .int _), (6, .int _), (7, .double _)]) (show decode cL_law 2925 = .ok (.iinc 5 4, 3) by decide +kernel) rfl rfl (Nat.le_of_ble_eq_true rfl) rfl ?_
            refine X_goto (tgt := 28) (show decode cL_law 2928 = .ok (.goto (-2900), 3) by decide +kernel) (by decide) ?_
            refine X_room (rc' := (n * 33 + 33)) (rs' := (n * 8198 + 8198)) (by omega) (by omega) ?_
            refine X_pick (ls' := [(0, .ref _), (1, .ref _), (2, .ref _), (3, .ref _), (4, .ref _), (5, .int _)]) [0, 1, 2, 3, 4, 5] rfl ?_
            exact ih _ _ _ _ _ _ _ w
          · have w := w.2 c632
            refine X_aload (j := 4) (show decode cL_law 2395 = .ok (.aload 4, 2) by decide +kernel) rfl ?_
            refine X_iconst (v := (nI 0)) (show decode cL_law 2397 = .ok (.iconst 0, 1) by decide +kernel) (by decide) ?_
            obtain ⟨s633, w⟩ := w
            obtain ⟨s634, w⟩ := w
            obtain ⟨s635, w⟩ := w
            refine X_dald (show decode cL_law 2398 = .ok (.daload, 1) by decide +kernel) (isA_eq s633) s634 s635 ?_
            refine X_dload (j := 7) (show decode cL_law 2399 = .ok (.dload 7, 2) by decide +kernel) rfl ?_
            refine X_dcmp (show decode cL_law 2401 = .ok (.dcmp .l, 1) by decide +kernel) ?_
            refine X_if_eq (tgt := 2427) (show decode cL_law 2402 = .ok (.ifCond .eq 25, 3) by decide +kernel) (by decide) ⟨fun c636 => ?_, fun c636 => ?_⟩
            · have w := w.1 c636
              refine X_goto (tgt := 2925) (show decode cL_law 2427 = .ok (.goto 498, 3) by decide +kernel) (by decide) ?_
              refine X_iinc (j := 5) (v := _ + (nI 4)) (ls' := [(0, .ref _), (1, .ref _), (2, .ref _), (3, .ref _), (4, .ref _), (5, .int _), (6, .int _), (7, .double _)]) (show decode cL_law 2925 = .ok (.iinc 5 4, 3) by decide +kernel) rfl rfl (Nat.le_of_ble_eq_true rfl) rfl ?_
              refine X_goto (tgt := 28) (show decode cL_law 2928 = .ok (.goto (-2900), 3) by decide +kernel) (by decide) ?_
              refine X_room (rc' := (n * 33 + 33)) (rs' := (n * 8198 + 8198)) (by omega) (by omega) ?_
              refine X_pick (ls' := [(0, .ref _), (1, .ref _), (2, .ref _), (3, .ref _), (4, .ref _), (5, .int _)]) [0, 1, 2, 3, 4, 5] rfl ?_
              exact ih _ _ _ _ _ _ _ w
            · have w := w.2 c636
              refine X_aload (j := 4) (show decode cL_law 2405 = .ok (.aload 4, 2) by decide +kernel) rfl ?_
              refine X_iconst (v := (nI 0)) (show decode cL_law 2407 = .ok (.iconst 0, 1) by decide +kernel) (by decide) ?_
              refine X_dald (show decode cL_law 2408 = .ok (.daload, 1) by decide +kernel) (isA_eq s633) s634 s635 ?_
              refine X_aload (j := 4) (show decode cL_law 2409 = .ok (.aload 4, 2) by decide +kernel) rfl ?_
              refine X_iconst (v := (nI 0)) (show decode cL_law 2411 = .ok (.iconst 0, 1) by decide +kernel) (by decide) ?_
              refine X_dald (show decode cL_law 2412 = .ok (.daload, 1) by decide +kernel) (isA_eq s633) s634 s635 ?_
              refine X_dcmp (show decode cL_law 2413 = .ok (.dcmp .l, 1) by decide +kernel) ?_
              refine X_if_eq (tgt := 2425) (show decode cL_law 2414 = .ok (.ifCond .eq 11, 3) by decide +kernel) (by decide) ⟨fun c637 => ?_, fun c637 => ?_⟩
              · have w := w.1 c637
                refine X_iconst (v := (nI 0)) (show decode cL_law 2425 = .ok (.iconst 0, 1) by decide +kernel) (by decide) ?_
                exact X_iret ⟨(show decode cL_law 2426 = .ok (.ireturn, 1) by decide +kernel), .boolean, rfl, (by decide)⟩ ⟨_, rfl, w⟩
              · have w := w.2 c637
                refine X_dload (j := 7) (show decode cL_law 2417 = .ok (.dload 7, 2) by decide +kernel) rfl ?_
                refine X_dload (j := 7) (show decode cL_law 2419 = .ok (.dload 7, 2) by decide +kernel) rfl ?_
                refine X_dcmp (show decode cL_law 2421 = .ok (.dcmp .l, 1) by decide +kernel) ?_
                refine X_if_ne (tgt := 2427) (show decode cL_law 2422 = .ok (.ifCond .ne 5, 3) by decide +kernel) (by decide) ⟨fun c638 => ?_, fun c638 => ?_⟩
                · have w := w.1 c638
                  refine X_goto (tgt := 2925) (show decode cL_law 2427 = .ok (.goto 498, 3) by decide +kernel) (by decide) ?_
                  refine X_iinc (j := 5) (v := _ + (nI 4)) (ls' := [(0, .ref _), (1, .ref _), (2, .ref _), (3, .ref _), (4, .ref _), (5, .int _), (6, .int _), (7, .double _)]) (show decode cL_law 2925 = .ok (.iinc 5 4, 3) by decide +kernel) rfl rfl (Nat.le_of_ble_eq_true rfl) rfl ?_
                  refine X_goto (tgt := 28) (show decode cL_law 2928 = .ok (.goto (-2900), 3) by decide +kernel) (by decide) ?_
                  refine X_room (rc' := (n * 33 + 33)) (rs' := (n * 8198 + 8198)) (by omega) (by omega) ?_
                  refine X_pick (ls' := [(0, .ref _), (1, .ref _), (2, .ref _), (3, .ref _), (4, .ref _), (5, .int _)]) [0, 1, 2, 3, 4, 5] rfl ?_
                  exact ih _ _ _ _ _ _ _ w
                · have w := w.2 c638
                  refine X_iconst (v := (nI 0)) (show decode cL_law 2425 = .ok (.iconst 0, 1) by decide +kernel) (by decide) ?_
                  exact X_iret ⟨(show decode cL_law 2426 = .ok (.ireturn, 1) by decide +kernel), .boolean, rfl, (by decide)⟩ ⟨_, rfl, w⟩
        · have w := w.2 c631
          refine X_iconst (v := (nI 0)) (show decode cL_law 2388 = .ok (.iconst 0, 1) by decide +kernel) (by decide) ?_
          exact X_iret ⟨(show decode cL_law 2389 = .ok (.ireturn, 1) by decide +kernel), .boolean, rfl, (by decide)⟩ ⟨_, rfl, w⟩
      by_cases z43 : (mI h x0 x5.toNatClampNeg &&& (nI 63)) = (nI 43)
      · have w := w.2.2.2.2.2.2.2.2.2.2.2.2.2.2.2.2.2.2.2.2.2.2.2.2.2.2.2.2.2.2.2.2.2.2.2.2.2.2.2.2.2.2.2.1 z43
        refine X_tableIn (tgt := 2430) (show decode cL_law 44 = .ok (.tableswitch 2881 0 54 #[236, 292, 372, 440, 496, 552, 615, 683, 739, 795, 851, 864, 920, 976, 1032, 1095, 1151, 1219, 1287, 1367, 1435, 1448, 1473, 1529, 1585, 1648, 1711, 1767, 1823, 1879, 1935, 1991, 2066, 2079, 2092, 2167, 2180, 2193, 2237, 2281, 2294, 2307, 2321, 2386, 2452, 2465, 2478, 2534, 2590, 2648, 2692, 2736, 2780, 2824, 2837], 236) by decide +kernel) (by rw [z43]; decide) (by rw [z43]; decide) (by rw [z43] <;> rfl) (by decide) ?_
        refine X_aload_n (j := 1) (show decode cL_law 2430 = .ok (.aload_n 1, 1) by decide +kernel) rfl rfl ?_
        refine X_aload (j := 4) (show decode cL_law 2431 = .ok (.aload 4, 2) by decide +kernel) rfl ?_
        refine X_sH (rc' := (n * 33 + 65)) (rs' := (n * 8198 + 16390)) (as := [.ref _, .ref _]) msh_L_312 (show decode cL_law 2433 = .ok (.invokestatic 312, 3) by decide +kernel) (by decide) (by omega) (by omega) rfl rfl (Nat.le_of_ble_eq_true rfl) (kL_usedShare w) (fun r642 h641 w => ?_)
        refine X_istore (ls' := [(0, .ref _), (1, .ref _), (2, .ref _), (3, .ref _), (4, .ref _), (5, .int _), (6, .int _)]) (show decode cL_law 2436 = .ok (.istore 6, 2) by decide +kernel) (by decide) rfl ?_
        refine X_aload_n (j := 2) (show decode cL_law 2438 = .ok (.aload_n 2, 1) by decide +kernel) rfl rfl ?_
        obtain ⟨s657, w⟩ := w
        refine X_vF (rc' := (n * 33 + 65)) (rs' := (n * 8198 + 16390)) (as := []) mv_L_314 (show decode cL_law 2439 = .ok (.invokevirtual 314, 3) by decide +kernel) (by decide) (by omega) (by omega) rfl rfl (Nat.le_of_ble_eq_true rfl) (rcvD s657 (by decide) rfl) (kX10_usedShare w) (fun E h hk => hk.elim) (fun r644 h643 w => ?_)
        refine X_fstore (ls' := [(0, .ref _), (1, .ref _), (2, .ref _), (3, .ref _), (4, .ref _), (5, .int _), (6, .int _), (7, .float _)]) (show decode cL_law 2442 = .ok (.fstore 7, 2) by decide +kernel) (by decide) rfl ?_
        refine X_aload_n (j := 2) (show decode cL_law 2444 = .ok (.aload_n 2, 1) by decide +kernel) rfl rfl ?_
        obtain ⟨s656, w⟩ := w
        refine X_vI (rc' := (n * 33 + 65)) (rs' := (n * 8198 + 16390)) (as := []) mv_L_168 (show decode cL_law 2445 = .ok (.invokevirtual 168, 3) by decide +kernel) (by decide) (by omega) (by omega) rfl rfl (Nat.le_of_ble_eq_true rfl) (rcvD s656 (by decide) rfl) (kX10_thrown w) (fun E h hk => hk.elim) (fun r646 h645 w => ?_)
        refine X_iload (j := 6) (show decode cL_law 2448 = .ok (.iload 6, 2) by decide +kernel) rfl ?_
        refine X_icmp_eq (tgt := 2455) (show decode cL_law 2450 = .ok (.if_icmp .eq 5, 3) by decide +kernel) (by decide) ⟨fun c647 => ?_, fun c647 => ?_⟩
        · have w := w.1 c647
          refine X_iload (j := 6) (show decode cL_law 2455 = .ok (.iload 6, 2) by decide +kernel) rfl ?_
          refine X_if_ne (tgt := 2493) (show decode cL_law 2457 = .ok (.ifCond .ne 36, 3) by decide +kernel) (by decide) ⟨fun c648 => ?_, fun c648 => ?_⟩
          · have w := w.1 c648
            refine X_goto (tgt := 2925) (show decode cL_law 2493 = .ok (.goto 432, 3) by decide +kernel) (by decide) ?_
            refine X_iinc (j := 5) (v := _ + (nI 4)) (ls' := [(0, .ref _), (1, .ref _), (2, .ref _), (3, .ref _), (4, .ref _), (5, .int _), (6, .int _), (7, .float _)]) (show decode cL_law 2925 = .ok (.iinc 5 4, 3) by decide +kernel) rfl rfl (Nat.le_of_ble_eq_true rfl) rfl ?_
            refine X_goto (tgt := 28) (show decode cL_law 2928 = .ok (.goto (-2900), 3) by decide +kernel) (by decide) ?_
            refine X_room (rc' := (n * 33 + 33)) (rs' := (n * 8198 + 8198)) (by omega) (by omega) ?_
            refine X_pick (ls' := [(0, .ref _), (1, .ref _), (2, .ref _), (3, .ref _), (4, .ref _), (5, .int _)]) [0, 1, 2, 3, 4, 5] rfl ?_
            exact ih _ _ _ _ _ _ _ w
          · have w := w.2 c648
            refine X_aload (j := 4) (show decode cL_law 2460 = .ok (.aload 4, 2) by decide +kernel) rfl ?_
            refine X_iconst (v := (nI 0)) (show decode cL_law 2462 = .ok (.iconst 0, 1) by decide +kernel) (by decide) ?_
            obtain ⟨s649, w⟩ := w
            obtain ⟨s650, w⟩ := w
            obtain ⟨s651, w⟩ := w
            refine X_dald (show decode cL_law 2463 = .ok (.daload, 1) by decide +kernel) (isA_eq s649) s650 s651 ?_
            refine X_fload (j := 7) (show decode cL_law 2464 = .ok (.fload 7, 2) by decide +kernel) rfl ?_
            obtain ⟨s652, w⟩ := w
            refine X_f2d (show decode cL_law 2466 = .ok (.f2d, 1) by decide +kernel) s652 ?_
            refine X_dcmp (show decode cL_law 2467 = .ok (.dcmp .l, 1) by decide +kernel) ?_
            refine X_if_eq (tgt := 2493) (show decode cL_law 2468 = .ok (.ifCond .eq 25, 3) by decide +kernel) (by decide) ⟨fun c653 => ?_, fun c653 => ?_⟩
            · have w := w.1 c653
              refine X_goto (tgt := 2925) (show decode cL_law 2493 = .ok (.goto 432, 3) by decide +kernel) (by decide) ?_
              refine X_iinc (j := 5) (v := _ + (nI 4)) (ls' := [(0, .ref _), (1, .ref _), (2, .ref _), (3, .ref _), (4, .ref _), (5, .int _), (6, .int _), (7, .float _)]) (show decode cL_law 2925 = .ok (.iinc 5 4, 3) by decide +kernel) rfl rfl (Nat.le_of_ble_eq_true rfl) rfl ?_
              refine X_goto (tgt := 28) (show decode cL_law 2928 = .ok (.goto (-2900), 3) by decide +kernel) (by decide) ?_
              refine X_room (rc' := (n * 33 + 33)) (rs' := (n * 8198 + 8198)) (by omega) (by omega) ?_
              refine X_pick (ls' := [(0, .ref _), (1, .ref _), (2, .ref _), (3, .ref _), (4, .ref _), (5, .int _)]) [0, 1, 2, 3, 4, 5] rfl ?_
              exact ih _ _ _ _ _ _ _ w
            · have w := w.2 c653
              refine X_aload (j := 4) (show decode cL_law 2471 = .ok (.aload 4, 2) by decide +kernel) rfl ?_
              refine X_iconst (v := (nI 0)) (show decode cL_law 2473 = .ok (.iconst 0, 1) by decide +kernel) (by decide) ?_
              refine X_dald (show decode cL_law 2474 = .ok (.daload, 1) by decide +kernel) (isA_eq s649) s650 s651 ?_
              refine X_aload (j := 4) (show decode cL_law 2475 = .ok (.aload 4, 2) by decide +kernel) rfl ?_
              refine X_iconst (v := (nI 0)) (show decode cL_law 2477 = .ok (.iconst 0, 1) by decide +kernel) (by decide) ?_
              refine X_dald (show decode cL_law 2478 = .ok (.daload, 1) by decide +kernel) (isA_eq s649) s650 s651 ?_
              refine X_dcmp (show decode cL_law 2479 = .ok (.dcmp .l, 1) by decide +kernel) ?_
              refine X_if_eq (tgt := 2491) (show decode cL_law 2480 = .ok (.ifCond .eq 11, 3) by decide +kernel) (by decide) ⟨fun c654 => ?_, fun c654 => ?_⟩
              · have w := w.1 c654
                refine X_iconst (v := (nI 0)) (show decode cL_law 2491 = .ok (.iconst 0, 1) by decide +kernel) (by decide) ?_
                exact X_iret ⟨(show decode cL_law 2492 = .ok (.ireturn, 1) by decide +kernel), .boolean, rfl, (by decide)⟩ ⟨_, rfl, w⟩
              · have w := w.2 c654
                refine X_fload (j := 7) (show decode cL_law 2483 = .ok (.fload 7, 2) by decide +kernel) rfl ?_
                refine X_fload (j := 7) (show decode cL_law 2485 = .ok (.fload 7, 2) by decide +kernel) rfl ?_
                refine X_fcmp (show decode cL_law 2487 = .ok (.fcmp .l, 1) by decide +kernel) ?_
                refine X_if_ne (tgt := 2493) (show decode cL_law 2488 = .ok (.ifCond .ne 5, 3) by decide +kernel) (by decide) ⟨fun c655 => ?_, fun c655 => ?_⟩
                · have w := w.1 c655
                  refine X_goto (tgt := 2925) (show decode cL_law 2493 = .ok (.goto 432, 3) by decide +kernel) (by decide) ?_
                  refine X_iinc (j := 5) (v := _ + (nI 4)) (ls' := [(0, .ref _), (1, .ref _), (2, .ref _), (3, .ref _), (4, .ref _), (5, .int _), (6, .int _), (7, .float _)]) (show decode cL_law 2925 = .ok (.iinc 5 4, 3) by decide +kernel) rfl rfl (Nat.le_of_ble_eq_true rfl) rfl ?_
                  refine X_goto (tgt := 28) (show decode cL_law 2928 = .ok (.goto (-2900), 3) by decide +kernel) (by decide) ?_
                  refine X_room (rc' := (n * 33 + 33)) (rs' := (n * 8198 + 8198)) (by omega) (by omega) ?_
                  refine X_pick (ls' := [(0, .ref _), (1, .ref _), (2, .ref _), (3, .ref _), (4, .ref _), (5, .int _)]) [0, 1, 2, 3, 4, 5] rfl ?_
                  exact ih _ _ _ _ _ _ _ w
                · have w := w.2 c655
                  refine X_iconst (v := (nI 0)) (show decode cL_law 2491 = .ok (.iconst 0, 1) by decide +kernel) (by decide) ?_
                  exact X_iret ⟨(show decode cL_law 2492 = .ok (.ireturn, 1) by decide +kernel), .boolean, rfl, (by decide)⟩ ⟨_, rfl, w⟩
        · have w := w.2 c647
          refine X_iconst (v := (nI 0)) (show decode cL_law 2453 = .ok (.iconst 0, 1) by decide +kernel) (by decide) ?_
          exact X_iret ⟨(show decode cL_law 2454 = .ok (.ireturn, 1) by decide +kernel), .boolean, rfl, (by decide)⟩ ⟨_, rfl, w⟩
      by_cases z44 : (mI h x0 x5.toNatClampNeg &&& (nI 63)) = (nI 44)
      · have w := w.2.2.2.2.2.2.2.2.2.2.2.2.2.2.2.2.2.2.2.2.2.2.2.2.2.2.2.2.2.2.2.2.2.2.2.2.2.2.2.2.2.2.2.2.1 z44
        refine X_tableIn (tgt := 2496) (show decode cL_law 44 = .ok (.tableswitch 2881 0 54 #[236, 292, 372, 440, 496, 552, 615, 683, 739, 795, 851, 864, 920, 976, 1032, 1095, 1151, 1219, 1287, 1367, 1435, 1448, 1473, 1529, 1585, 1648, 1711, 1767, 1823, 1879, 1935, 1991, 2066, 2079, 2092, 2167, 2180, 2193, 2237, 2281, 2294, 2307, 2321, 2386, 2452, 2465, 2478, 2534, 2590, 2648, 2692, 2736, 2780, 2824, 2837], 236) by decide +kernel) (by rw [z44]; decide) (by rw [z44]; decide) (by rw [z44] <;> rfl) (by decide) ?_
        refine X_aload_n (j := 1) (show decode cL_law 2496 = .ok (.aload_n 1, 1) by decide +kernel) rfl rfl ?_
        obtain ⟨s664, w⟩ := w
        refine X_vI (rc' := (n * 33 + 66)) (rs' := (n * 8198 + 16396)) (as := []) mv_L_315 (show decode cL_law 2497 = .ok (.invokevirtual 315, 3) by decide +kernel) (by decide) (by omega) (by omega) rfl rfl (Nat.le_of_ble_eq_true rfl) (rcvD s664 (by decide) rfl) (kX9_isConsistent w) (fun E h hk => hk.elim) (fun r659 h658 w => ?_)
        refine X_aload_n (j := 2) (show decode cL_law 2500 = .ok (.aload_n 2, 1) by decide +kernel) rfl rfl ?_
        obtain ⟨s663, w⟩ := w
        refine X_vI (rc' := (n * 33 + 66)) (rs' := (n * 8198 + 16396)) (as := []) mv_L_319 (show decode cL_law 2501 = .ok (.invokevirtual 319, 3) by decide +kernel) (by decide) (by omega) (by omega) rfl rfl (Nat.le_of_ble_eq_true rfl) (rcvD s663 (by decide) rfl) (kX10_isConsistent w) (fun E h hk => hk.elim) (fun r661 h660 w => ?_)
        refine X_icmp_eq (tgt := 2925) (show decode cL_law 2504 = .ok (.if_icmp .eq 421, 3) by decide +kernel) (by decide) ⟨fun c662 => ?_, fun c662 => ?_⟩
        · have w := w.1 c662
          refine X_iinc (j := 5) (v := _ + (nI 4)) (ls' := [(0, .ref _), (1, .ref _), (2, .ref _), (3, .ref _), (4, .ref _), (5, .int _)]) (show decode cL_law 2925 = .ok (.iinc 5 4, 3) by decide +kernel) rfl rfl (Nat.le_of_ble_eq_true rfl) rfl ?_
          refine X_goto (tgt := 28) (show decode cL_law 2928 = .ok (.goto (-2900), 3) by decide +kernel) (by decide) ?_
          refine X_room (rc' := (n * 33 + 33)) (rs' := (n * 8198 + 8198)) (by omega) (by omega) ?_
          exact ih _ _ _ _ _ _ _ w
        · have w := w.2 c662
          refine X_iconst (v := (nI 0)) (show decode cL_law 2507 = .ok (.iconst 0, 1) by decide +kernel) (by decide) ?_
          exact X_iret ⟨(show decode cL_law 2508 = .ok (.ireturn, 1) by decide +kernel), .boolean, rfl, (by decide)⟩ ⟨_, rfl, w⟩
      by_cases z45 : (mI h x0 x5.toNatClampNeg &&& (nI 63)) = (nI 45)
      · have w := w.2.2.2.2.2.2.2.2.2.2.2.2.2.2.2.2.2.2.2.2.2.2.2.2.2.2.2.2.2.2.2.2.2.2.2.2.2.2.2.2.2.2.2.2.2.1 z45
        refine X_tableIn (tgt := 2509) (show decode cL_law 44 = .ok (.tableswitch 2881 0 54 #[236, 292, 372, 440, 496, 552, 615, 683, 739, 795, 851, 864, 920, 976, 1032, 1095, 1151, 1219, 1287, 1367, 1435, 1448, 1473, 1529, 1585, 1648, 1711, 1767, 1823, 1879, 1935, 1991, 2066, 2079, 2092, 2167, 2180, 2193, 2237, 2281, 2294, 2307, 2321, 2386, 2452, 2465, 2478, 2534, 2590, 2648, 2692, 2736, 2780, 2824, 2837], 236) by decide +kernel) (by rw [z45]; decide) (by rw [z45]; decide) (by rw [z45] <;> rfl) (by decide) ?_
        refine X_aload_n (j := 1) (show decode cL_law 2509 = .ok (.aload_n 1, 1) by decide +kernel) rfl rfl ?_
        obtain ⟨s671, w⟩ := w
        refine X_vI (rc' := (n * 33 + 37)) (rs' := (n * 8198 + 8972)) (as := []) mv_L_320 (show decode cL_law 2510 = .ok (.invokevirtual 320, 3) by decide +kernel) (by decide) (by omega) (by omega) rfl rfl (Nat.le_of_ble_eq_true rfl) (rcvD s671 (by decide) rfl) (kX9_writeBlocks w) (fun E h hk => hk.elim) (fun r666 h665 w => ?_)
        refine X_aload_n (j := 2) (show decode cL_law 2513 = .ok (.aload_n 2, 1) by decide +kernel) rfl rfl ?_
        obtain ⟨s670, w⟩ := w
        refine X_vI (rc' := (n * 33 + 37)) (rs' := (n * 8198 + 8972)) (as := []) mv_L_323 (show decode cL_law 2514 = .ok (.invokevirtual 323, 3) by decide +kernel) (by decide) (by omega) (by omega) rfl rfl (Nat.le_of_ble_eq_true rfl) (rcvD s670 (by decide) rfl) (kX10_writeBlocks w) (fun E h hk => hk.elim) (fun r668 h667 w => ?_)
        refine X_icmp_eq (tgt := 2925) (show decode cL_law 2517 = .ok (.if_icmp .eq 408, 3) by decide +kernel) (by decide) ⟨fun c669 => ?_, fun c669 => ?_⟩
        · have w := w.1 c669
          refine X_iinc (j := 5) (v := _ + (nI 4)) (ls' := [(0, .ref _), (1, .ref _), (2, .ref _), (3, .ref _), (4, .ref _), (5, .int _)]) (show decode cL_law 2925 = .ok (.iinc 5 4, 3) by decide +kernel) rfl rfl (Nat.le_of_ble_eq_true rfl) rfl ?_
          refine X_goto (tgt := 28) (show decode cL_law 2928 = .ok (.goto (-2900), 3) by decide +kernel) (by decide) ?_
          refine X_room (rc' := (n * 33 + 33)) (rs' := (n * 8198 + 8198)) (by omega) (by omega) ?_
          exact ih _ _ _ _ _ _ _ w
        · have w := w.2 c669
          refine X_iconst (v := (nI 0)) (show decode cL_law 2520 = .ok (.iconst 0, 1) by decide +kernel) (by decide) ?_
          exact X_iret ⟨(show decode cL_law 2521 = .ok (.ireturn, 1) by decide +kernel), .boolean, rfl, (by decide)⟩ ⟨_, rfl, w⟩
      by_cases z46 : (mI h x0 x5.toNatClampNeg &&& (nI 63)) = (nI 46)
      · have w := w.2.2.2.2.2.2.2.2.2.2.2.2.2.2.2.2.2.2.2.2.2.2.2.2.2.2.2.2.2.2.2.2.2.2.2.2.2.2.2.2.2.2.2.2.2.2.1 z46
        refine X_tableIn (tgt := 2522) (show decode cL_law 44 = .ok (.tableswitch 2881 0 54 #[236, 292, 372, 440, 496, 552, 615, 683, 739, 795, 851, 864, 920, 976, 1032, 1095, 1151, 1219, 1287, 1367, 1435, 1448, 1473, 1529, 1585, 1648, 1711, 1767, 1823, 1879, 1935, 1991, 2066, 2079, 2092, 2167, 2180, 2193, 2237, 2281, 2294, 2307, 2321, 2386, 2452, 2465, 2478, 2534, 2590, 2648, 2692, 2736, 2780, 2824, 2837], 236) by decide +kernel) (by rw [z46]; decide) (by rw [z46]; decide) (by rw [z46] <;> rfl) (by decide) ?_
        refine X_aload_n (j := 1) (show decode cL_law 2522 = .ok (.aload_n 1, 1) by decide +kernel) rfl rfl ?_
        refine X_aload_n (j := 0) (show decode cL_law 2523 = .ok (.aload_n 0, 1) by decide +kernel) rfl rfl ?_
        refine X_iload (j := 5) (show decode cL_law 2524 = .ok (.iload 5, 2) by decide +kernel) rfl ?_
        refine X_iconst (v := (nI 1)) (show decode cL_law 2526 = .ok (.iconst 1, 1) by decide +kernel) (by decide) ?_
        refine X_iadd (show decode cL_law 2527 = .ok (.iadd, 1) by decide +kernel) ?_
        obtain ⟨s672, w⟩ := w
        refine X_iald (show decode cL_law 2528 = .ok (.iaload, 1) by decide +kernel) (isA_eq s9) s672 ?_
        refine X_aload_n (j := 3) (show decode cL_law 2529 = .ok (.aload_n 3, 1) by decide +kernel) rfl rfl ?_
        refine X_sH (rc' := (n * 33 + 33)) (rs' := (n * 8198 + 8198)) (as := [.ref _, .int _, .ref _]) msh_L_324 (show decode cL_law 2530 = .ok (.invokestatic 324, 3) by decide +kernel) (by decide) (by omega) (by omega) rfl rfl (Nat.le_of_ble_eq_true rfl) (kL_writeTrain w) (fun r674 h673 w => ?_)
        refine X_istore (ls' := [(0, .ref _), (1, .ref _), (2, .ref _), (3, .ref _), (4, .ref _), (5, .int _), (6, .int _)]) (show decode cL_law 2533 = .ok (.istore 6, 2) by decide +kernel) (by decide) rfl ?_
        refine X_aload_n (j := 2) (show decode cL_law 2535 = .ok (.aload_n 2, 1) by decide +kernel) rfl rfl ?_
        refine X_aload_n (j := 0) (show decode cL_law 2536 = .ok (.aload_n 0, 1) by decide +kernel) rfl rfl ?_
        refine X_iload (j := 5) (show decode cL_law 2537 = .ok (.iload 5, 2) by decide +kernel) rfl ?_
        refine X_iconst (v := (nI 1)) (show decode cL_law 2539 = .ok (.iconst 1, 1) by decide +kernel) (by decide) ?_
        refine X_iadd (show decode cL_law 2540 = .ok (.iadd, 1) by decide +kernel) ?_
        obtain ⟨s675, w⟩ := w
        obtain ⟨s676, w⟩ := w
        refine X_iald (show decode cL_law 2541 = .ok (.iaload, 1) by decide +kernel) (isA_eq s675) s676 ?_
        obtain ⟨s687, w⟩ := w
        refine X_vI (rc' := (n * 33 + 33)) (rs' := (n * 8198 + 8198)) (as := [.int _]) mv_L_326 (show decode cL_law 2542 = .ok (.invokevirtual 326, 3) by decide +kernel) (by decide) (by omega) (by omega) rfl rfl (Nat.le_of_ble_eq_true rfl) (rcvD s687 (by decide) rfl) (kX10_writeTrain w) (fun E h hk => hk.elim) (fun r678 h677 w => ?_)
        refine X_istore (ls' := [(0, .ref _), (1, .ref _), (2, .ref _), (3, .ref _), (4, .ref _), (5, .int _), (6, .int _), (7, .int _)]) (show decode cL_law 2545 = .ok (.istore 7, 2) by decide +kernel) (by decide) rfl ?_
        refine X_aload_n (j := 2) (show decode cL_law 2547 = .ok (.aload_n 2, 1) by decide +kernel) rfl rfl ?_
        obtain ⟨s686, w⟩ := w
        refine X_vI (rc' := (n * 33 + 33)) (rs' := (n * 8198 + 8198)) (as := []) mv_L_168 (show decode cL_law 2548 = .ok (.invokevirtual 168, 3) by decide +kernel) (by decide) (by omega) (by omega) rfl rfl (Nat.le_of_ble_eq_true rfl) (rcvD s686 (by decide) rfl) (kX10_thrown w) (fun E h hk => hk.elim) (fun r680 h679 w => ?_)
        refine X_iload (j := 6) (show decode cL_law 2551 = .ok (.iload 6, 2) by decide +kernel) rfl ?_
        refine X_icmp_eq (tgt := 2558) (show decode cL_law 2553 = .ok (.if_icmp .eq 5, 3) by decide +kernel) (by decide) ⟨fun c681 => ?_, fun c681 => ?_⟩
        · have w := w.1 c681
          refine X_iload (j := 6) (show decode cL_law 2558 = .ok (.iload 6, 2) by decide +kernel) rfl ?_
          refine X_if_ne (tgt := 2575) (show decode cL_law 2560 = .ok (.ifCond .ne 15, 3) by decide +kernel) (by decide) ⟨fun c682 => ?_, fun c682 => ?_⟩
          · have w := w.1 c682
            refine X_goto (tgt := 2925) (show decode cL_law 2575 = .ok (.goto 350, 3) by decide +kernel) (by decide) ?_
            refine X_iinc (j := 5) (v := _ + (nI 4)) (ls' := [(0, .ref _), (1, .ref _), (2, .ref _), (3, .ref _), (4, .ref _), (5, .int _), (6, .int _), (7, .int _)]) (show decode cL_law 2925 = .ok (.iinc 5 4, 3) by decide +kernel) rfl rfl (Nat.le_of_ble_eq_true rfl) rfl ?_
            refine X_goto (tgt := 28) (show decode cL_law 2928 = .ok (.goto (-2900), 3) by decide +kernel) (by decide) ?_
            refine X_pick (ls' := [(0, .ref _), (1, .ref _), (2, .ref _), (3, .ref _), (4, .ref _), (5, .int _)]) [0, 1, 2, 3, 4, 5] rfl ?_
            exact ih _ _ _ _ _ _ _ w
          · have w := w.2 c682
            refine X_aload_n (j := 3) (show decode cL_law 2563 = .ok (.aload_n 3, 1) by decide +kernel) rfl rfl ?_
            refine X_iconst (v := (nI 0)) (show decode cL_law 2564 = .ok (.iconst 0, 1) by decide +kernel) (by decide) ?_
            obtain ⟨s683, w⟩ := w
            obtain ⟨s684, w⟩ := w
            refine X_lald (show decode cL_law 2565 = .ok (.laload, 1) by decide +kernel) (isA_eq s683) s684 ?_
            refine X_iload (j := 7) (show decode cL_law 2566 = .ok (.iload 7, 2) by decide +kernel) rfl ?_
            refine X_i2l (show decode cL_law 2568 = .ok (.i2l, 1) by decide +kernel) ?_
            refine X_lcmp (show decode cL_law 2569 = .ok (.lcmp, 1) by decide +kernel) ?_
            refine X_if_eq (tgt := 2575) (show decode cL_law 2570 = .ok (.ifCond .eq 5, 3) by decide +kernel) (by decide) ⟨fun c685 => ?_, fun c685 => ?_⟩
            · have w := w.1 c685
              refine X_goto (tgt := 2925) (show decode cL_law 2575 = .ok (.goto 350, 3) by decide +kernel) (by decide) ?_
              refine X_iinc (j := 5) (v := _ + (nI 4)) (ls' := [(0, .ref _), (1, .ref _), (2, .ref _), (3, .ref _), (4, .ref _), (5, .int _), (6, .int _), (7, .int _)]) (show decode cL_law 2925 = .ok (.iinc 5 4, 3) by decide +kernel) rfl rfl (Nat.le_of_ble_eq_true rfl) rfl ?_
              refine X_goto (tgt := 28) (show decode cL_law 2928 = .ok (.goto (-2900), 3) by decide +kernel) (by decide) ?_
              refine X_pick (ls' := [(0, .ref _), (1, .ref _), (2, .ref _), (3, .ref _), (4, .ref _), (5, .int _)]) [0, 1, 2, 3, 4, 5] rfl ?_
              exact ih _ _ _ _ _ _ _ w
            · have w := w.2 c685
              refine X_iconst (v := (nI 0)) (show decode cL_law 2573 = .ok (.iconst 0, 1) by decide +kernel) (by decide) ?_
              exact X_iret ⟨(show decode cL_law 2574 = .ok (.ireturn, 1) by decide +kernel), .boolean, rfl, (by decide)⟩ ⟨_, rfl, w⟩
        · have w := w.2 c681
          refine X_iconst (v := (nI 0)) (show decode cL_law 2556 = .ok (.iconst 0, 1) by decide +kernel) (by decide) ?_
          exact X_iret ⟨(show decode cL_law 2557 = .ok (.ireturn, 1) by decide +kernel), .boolean, rfl, (by decide)⟩ ⟨_, rfl, w⟩
      by_cases z47 : (mI h x0 x5.toNatClampNeg &&& (nI 63)) = (nI 47)
      · have w := w.2.2.2.2.2.2.2.2.2.2.2.2.2.2.2.2.2.2.2.2.2.2.2.2.2.2.2.2.2.2.2.2.2.2.2.2.2.2.2.2.2.2.2.2.2.2.2.1 z47
        refine X_tableIn (tgt := 2578) (show decode cL_law 44 = .ok (.tableswitch 2881 0 54 #[236, 292, 372, 440, 496, 552, 615, 683, 739, 795, 851, 864, 920, 976, 1032, 1095, 1151, 1219, 1287, 1367, 1435, 1448, 1473, 1529, 1585, 1648, 1711, 1767, 1823, 1879, 1935, 1991, 2066, 2079, 2092, 2167, 2180, 2193, 2237, 2281, 2294, 2307, 2321, 2386, 2452, 2465, 2478, 2534, 2590, 2648, 2692, 2736, 2780, 2824, 2837], 236) by decide +kernel) (by rw [z47]; decide) (by rw [z47]; decide) (by rw [z47] <;> rfl) (by decide) ?_
        refine X_aload_n (j := 1) (show decode cL_law 2578 = .ok (.aload_n 1, 1) by decide +kernel) rfl rfl ?_
        refine X_aload_n (j := 0) (show decode cL_law 2579 = .ok (.aload_n 0, 1) by decide +kernel) rfl rfl ?_
        refine X_iload (j := 5) (show decode cL_law 2580 = .ok (.iload 5, 2) by decide +kernel) rfl ?_
        refine X_iconst (v := (nI 1)) (show decode cL_law 2582 = .ok (.iconst 1, 1) by decide +kernel) (by decide) ?_
        refine X_iadd (show decode cL_law 2583 = .ok (.iadd, 1) by decide +kernel) ?_
        obtain ⟨s688, w⟩ := w
        refine X_iald (show decode cL_law 2584 = .ok (.iaload, 1) by decide +kernel) (isA_eq s9) s688 ?_
        refine X_aload_n (j := 3) (show decode cL_law 2585 = .ok (.aload_n 3, 1) by decide +kernel) rfl rfl ?_
        refine X_sH (rc' := (n * 33 + 65)) (rs' := (n * 8198 + 16390)) (as := [.ref _, .int _, .ref _]) msh_L_327 (show decode cL_law 2586 = .ok (.invokestatic 327, 3) by decide +kernel) (by decide) (by omega) (by omega) rfl rfl (Nat.le_of_ble_eq_true rfl) (kL_charAt w) (fun r690 h689 w => ?_)
        refine X_istore (ls' := [(0, .ref _), (1, .ref _), (2, .ref _), (3, .ref _), (4, .ref _), (5, .int _), (6, .int _)]) (show decode cL_law 2589 = .ok (.istore 6, 2) by decide +kernel) (by decide) rfl ?_
        refine X_aload_n (j := 2) (show decode cL_law 2591 = .ok (.aload_n 2, 1) by decide +kernel) rfl rfl ?_
        refine X_aload_n (j := 0) (show decode cL_law 2592 = .ok (.aload_n 0, 1) by decide +kernel) rfl rfl ?_
        refine X_iload (j := 5) (show decode cL_law 2593 = .ok (.iload 5, 2) by decide +kernel) rfl ?_
        refine X_iconst (v := (nI 1)) (show decode cL_law 2595 = .ok (.iconst 1, 1) by decide +kernel) (by decide) ?_
        refine X_iadd (show decode cL_law 2596 = .ok (.iadd, 1) by decide +kernel) ?_
        obtain ⟨s691, w⟩ := w
        obtain ⟨s692, w⟩ := w
        refine X_iald (show decode cL_law 2597 = .ok (.iaload, 1) by decide +kernel) (isA_eq s691) s692 ?_
        obtain ⟨s703, w⟩ := w
        refine X_vI (rc' := (n * 33 + 65)) (rs' := (n * 8198 + 16390)) (as := [.int _]) mv_L_329 (show decode cL_law 2598 = .ok (.invokevirtual 329, 3) by decide +kernel) (by decide) (by omega) (by omega) rfl rfl (Nat.le_of_ble_eq_true rfl) (rcvD s703 (by decide) rfl) (kX10_charAt w) (fun E h hk => hk.elim) (fun r694 h693 w => ?_)
        refine X_istore (ls' := [(0, .ref _), (1, .ref _), (2, .ref _), (3, .ref _), (4, .ref _), (5, .int _), (6, .int _), (7, .int _)]) (show decode cL_law 2601 = .ok (.istore 7, 2) by decide +kernel) (by decide) rfl ?_
        refine X_aload_n (j := 2) (show decode cL_law 2603 = .ok (.aload_n 2, 1) by decide +kernel) rfl rfl ?_
        obtain ⟨s702, w⟩ := w
        refine X_vI (rc' := (n * 33 + 65)) (rs' := (n * 8198 + 16390)) (as := []) mv_L_168 (show decode cL_law 2604 = .ok (.invokevirtual 168, 3) by decide +kernel) (by decide) (by omega) (by omega) rfl rfl (Nat.le_of_ble_eq_true rfl) (rcvD s702 (by decide) rfl) (kX10_thrown w) (fun E h hk => hk.elim) (fun r696 h695 w => ?_)
        refine X_iload (j := 6) (show decode cL_law 2607 = .ok (.iload 6, 2) by decide +kernel) rfl ?_
        refine X_icmp_eq (tgt := 2614) (show decode cL_law 2609 = .ok (.if_icmp .eq 5, 3) by decide +kernel) (by decide) ⟨fun c697 => ?_, fun c697 => ?_⟩
        · have w := w.1 c697
          refine X_iload (j := 6) (show decode cL_law 2614 = .ok (.iload 6, 2) by decide +kernel) rfl ?_
          refine X_if_ne (tgt := 2631) (show decode cL_law 2616 = .ok (.ifCond .ne 15, 3) by decide +kernel) (by decide) ⟨fun c698 => ?_, fun c698 => ?_⟩
          · have w := w.1 c698
            refine X_goto (tgt := 2925) (show decode cL_law 2631 = .ok (.goto 294, 3) by decide +kernel) (by decide) ?_
            refine X_iinc (j := 5) (v := _ + (nI 4)) (ls' := [(0, .ref _), (1, .ref _), (2, .ref _), (3, .ref _), (4, .ref _), (5, .int _), (6, .int _), (7, .int _)]) (show decode cL_law 2925 = .ok (.iinc 5 4, 3) by decide +kernel) rfl rfl (Nat.le_of_ble_eq_true rfl) rfl ?_
            refine X_goto (tgt := 28) (show decode cL_law 2928 = .ok (.goto (-2900), 3) by decide +kernel) (by decide) ?_
            refine X_room (rc' := (n * 33 + 33)) (rs' := (n * 8198 + 8198)) (by omega) (by omega) ?_
            refine X_pick (ls' := [(0, .ref _), (1, .ref _), (2, .ref _), (3, .ref _), (4, .ref _), (5, .int _)]) [0, 1, 2, 3, 4, 5] rfl ?_
            exact ih _ _ _ _ _ _ _ w
          · have w := w.2 c698
            refine X_aload_n (j := 3) (show decode cL_law 2619 = .ok (.aload_n 3, 1) by decide +kernel) rfl rfl ?_
            refine X_iconst (v := (nI 0)) (show decode cL_law 2620 = .ok (.iconst 0, 1) by decide +kernel) (by decide) ?_
            obtain ⟨s699, w⟩ := w
            obtain ⟨s700, w⟩ := w
            refine X_lald (show decode cL_law 2621 = .ok (.laload, 1) by decide +kernel) (isA_eq s699) s700 ?_
            refine X_iload (j := 7) (show decode cL_law 2622 = .ok (.iload 7, 2) by decide +kernel) rfl ?_
            refine X_i2l (show decode cL_law 2624 = .ok (.i2l, 1) by decide +kernel) ?_
            refine X_lcmp (show decode cL_law 2625 = .ok (.lcmp, 1) by decide +kernel) ?_
            refine X_if_eq (tgt := 2631) (show decode cL_law 2626 = .ok (.ifCond .eq 5, 3) by decide +kernel) (by decide) ⟨fun c701 => ?_, fun c701 => ?_⟩
            · have w := w.1 c701
              refine X_goto (tgt := 2925) (show decode cL_law 2631 = .ok (.goto 294, 3) by decide +kernel) (by decide) ?_
              refine X_iinc (j := 5) (v := _ + (nI 4)) (ls' := [(0, .ref _), (1, .ref _), (2, .ref _), (3, .ref _), (4, .ref _), (5, .int _), (6, .int _), (7, .int _)]) (show decode cL_law 2925 = .ok (.iinc 5 4, 3) by decide +kernel) rfl rfl (Nat.le_of_ble_eq_true rfl) rfl ?_
              refine X_goto (tgt := 28) (show decode cL_law 2928 = .ok (.goto (-2900), 3) by decide +kernel) (by decide) ?_
              refine X_room (rc' := (n * 33 + 33)) (rs' := (n * 8198 + 8198)) (by omega) (by omega) ?_
              refine X_pick (ls' := [(0, .ref _), (1, .ref _), (2, .ref _), (3, .ref _), (4, .ref _), (5, .int _)]) [0, 1, 2, 3, 4, 5] rfl ?_
              exact ih _ _ _ _ _ _ _ w
            · have w := w.2 c701
              refine X_iconst (v := (nI 0)) (show decode cL_law 2629 = .ok (.iconst 0, 1) by decide +kernel) (by decide) ?_
              exact X_iret ⟨(show decode cL_law 2630 = .ok (.ireturn, 1) by decide +kernel), .boolean, rfl, (by decide)⟩ ⟨_, rfl, w⟩
        · have w := w.2 c697
          refine X_iconst (v := (nI 0)) (show decode cL_law 2612 = .ok (.iconst 0, 1) by decide +kernel) (by decide) ?_
          exact X_iret ⟨(show decode cL_law 2613 = .ok (.ireturn, 1) by decide +kernel), .boolean, rfl, (by decide)⟩ ⟨_, rfl, w⟩
      by_cases z48 : (mI h x0 x5.toNatClampNeg &&& (nI 63)) = (nI 48)
      · have w := w.2.2.2.2.2.2.2.2.2.2.2.2.2.2.2.2.2.2.2.2.2.2.2.2.2.2.2.2.2.2.2.2.2.2.2.2.2.2.2.2.2.2.2.2.2.2.2.2.1 z48
        refine X_tableIn (tgt := 2634) (show decode cL_law 44 = .ok (.tableswitch 2881 0 54 #[236, 292, 372, 440, 496, 552, 615, 683, 739, 795, 851, 864, 920, 976, 1032, 1095, 1151, 1219, 1287, 1367, 1435, 1448, 1473, 1529, 1585, 1648, 1711, 1767, 1823, 1879, 1935, 1991, 2066, 2079, 2092, 2167, 2180, 2193, 2237, 2281, 2294, 2307, 2321, 2386, 2452, 2465, 2478, 2534, 2590, 2648, 2692, 2736, 2780, 2824, 2837], 236) by decide +kernel) (by rw [z48]; decide) (by rw [z48]; decide) (by rw [z48] <;> rfl) (by decide) ?_
        refine X_aload_n (j := 1) (show decode cL_law 2634 = .ok (.aload_n 1, 1) by decide +kernel) rfl rfl ?_
        refine X_aload_n (j := 0) (show decode cL_law 2635 = .ok (.aload_n 0, 1) by decide +kernel) rfl rfl ?_
        refine X_iload (j := 5) (show decode cL_law 2636 = .ok (.iload 5, 2) by decide +kernel) rfl ?_
        refine X_iconst (v := (nI 1)) (show decode cL_law 2638 = .ok (.iconst 1, 1) by decide +kernel) (by decide) ?_
        refine X_iadd (show decode cL_law 2639 = .ok (.iadd, 1) by decide +kernel) ?_
        obtain ⟨s704, w⟩ := w
        refine X_iald (show decode cL_law 2640 = .ok (.iaload, 1) by decide +kernel) (isA_eq s9) s704 ?_
        refine X_i2c (show decode cL_law 2641 = .ok (.i2c, 1) by decide +kernel) ?_
        refine X_aload_n (j := 3) (show decode cL_law 2642 = .ok (.aload_n 3, 1) by decide +kernel) rfl rfl ?_
        refine X_sH (rc' := (n * 33 + 65)) (rs' := (n * 8198 + 16390)) (as := [.ref _, .int _, .ref _]) msh_L_330 (show decode cL_law 2643 = .ok (.invokestatic 330, 3) by decide +kernel) (by decide) (by omega) (by omega) rfl rfl (Nat.le_of_ble_eq_true rfl) (kL_type w) (fun r706 h705 w => ?_)
        refine X_istore (ls' := [(0, .ref _), (1, .ref _), (2, .ref _), (3, .ref _), (4, .ref _), (5, .int _), (6, .int _)]) (show decode cL_law 2646 = .ok (.istore 6, 2) by decide +kernel) (by decide) rfl ?_
        refine X_aload_n (j := 2) (show decode cL_law 2648 = .ok (.aload_n 2, 1) by decide +kernel) rfl rfl ?_
        refine X_aload_n (j := 0) (show decode cL_law 2649 = .ok (.aload_n 0, 1) by decide +kernel) rfl rfl ?_
        refine X_iload (j := 5) (show decode cL_law 2650 = .ok (.iload 5, 2) by decide +kernel) rfl ?_
        refine X_iconst (v := (nI 1)) (show decode cL_law 2652 = .ok (.iconst 1, 1) by decide +kernel) (by decide) ?_
        refine X_iadd (show decode cL_law 2653 = .ok (.iadd, 1) by decide +kernel) ?_
        obtain ⟨s707, w⟩ := w
        obtain ⟨s708, w⟩ := w
        refine X_iald (show decode cL_law 2654 = .ok (.iaload, 1) by decide +kernel) (isA_eq s707) s708 ?_
        refine X_i2c (show decode cL_law 2655 = .ok (.i2c, 1) by decide +kernel) ?_
        obtain ⟨s719, w⟩ := w
        refine X_vI (rc' := (n * 33 + 65)) (rs' := (n * 8198 + 16390)) (as := [.int _]) mv_L_333 (show decode cL_law 2656 = .ok (.invokevirtual 333, 3) by decide +kernel) (by decide) (by omega) (by omega) rfl rfl (Nat.le_of_ble_eq_true rfl) (rcvD s719 (by decide) rfl) (kX10_type w) (fun E h hk => hk.elim) (fun r710 h709 w => ?_)
        refine X_istore (ls' := [(0, .ref _), (1, .ref _), (2, .ref _), (3, .ref _), (4, .ref _), (5, .int _), (6, .int _), (7, .int _)]) (show decode cL_law 2659 = .ok (.istore 7, 2) by decide +kernel) (by decide) rfl ?_
        refine X_aload_n (j := 2) (show decode cL_law 2661 = .ok (.aload_n 2, 1) by decide +kernel) rfl rfl ?_
        obtain ⟨s718, w⟩ := w
        refine X_vI (rc' := (n * 33 + 65)) (rs' := (n * 8198 + 16390)) (as := []) mv_L_168 (show decode cL_law 2662 = .ok (.invokevirtual 168, 3) by decide +kernel) (by decide) (by omega) (by omega) rfl rfl (Nat.le_of_ble_eq_true rfl) (rcvD s718 (by decide) rfl) (kX10_thrown w) (fun E h hk => hk.elim) (fun r712 h711 w => ?_)
        refine X_iload (j := 6) (show decode cL_law 2665 = .ok (.iload 6, 2) by decide +kernel) rfl ?_
        refine X_icmp_eq (tgt := 2672) (show decode cL_law 2667 = .ok (.if_icmp .eq 5, 3) by decide +kernel) (by decide) ⟨fun c713 => ?_, fun c713 => ?_⟩
        · have w := w.1 c713
          refine X_iload (j := 6) (show decode cL_law 2672 = .ok (.iload 6, 2) by decide +kernel) rfl ?_
          refine X_if_ne (tgt := 2689) (show decode cL_law 2674 = .ok (.ifCond .ne 15, 3) by decide +kernel) (by decide) ⟨fun c714 => ?_, fun c714 => ?_⟩
          · have w := w.1 c714
            refine X_goto (tgt := 2925) (show decode cL_law 2689 = .ok (.goto 236, 3) by decide +kernel) (by decide) ?_
            refine X_iinc (j := 5) (v := _ + (nI 4)) (ls' := [(0, .ref _), (1, .ref _), (2, .ref _), (3, .ref _), (4, .ref _), (5, .int _), (6, .int _), (7, .int _)]) (show decode cL_law 2925 = .ok (.iinc 5 4, 3) by decide +kernel) rfl rfl (Nat.le_of_ble_eq_true rfl) rfl ?_
            refine X_goto (tgt := 28) (show decode cL_law 2928 = .ok (.goto (-2900), 3) by decide +kernel) (by decide) ?_
            refine X_room (rc' := (n * 33 + 33)) (rs' := (n * 8198 + 8198)) (by omega) (by omega) ?_
            refine X_pick (ls' := [(0, .ref _), (1, .ref _), (2, .ref _), (3, .ref _), (4, .ref _), (5, .int _)]) [0, 1, 2, 3, 4, 5] rfl ?_
            exact ih _ _ _ _ _ _ _ w
          · have w := w.2 c714
            refine X_aload_n (j := 3) (show decode cL_law 2677 = .ok (.aload_n 3, 1) by decide +kernel) rfl rfl ?_
            refine X_iconst (v := (nI 0)) (show decode cL_law 2678 = .ok (.iconst 0, 1) by decide +kernel) (by decide) ?_
            obtain ⟨s715, w⟩ := w
            obtain ⟨s716, w⟩ := w
            refine X_lald (show decode cL_law 2679 = .ok (.laload, 1) by decide +kernel) (isA_eq s715) s716 ?_
            refine X_iload (j := 7) (show decode cL_law 2680 = .ok (.iload 7, 2) by decide +kernel) rfl ?_
            refine X_i2l (show decode cL_law 2682 = .ok (.i2l, 1) by decide +kernel) ?_
            refine X_lcmp (show decode cL_law 2683 = .ok (.lcmp, 1) by decide +kernel) ?_
            refine X_if_eq (tgt := 2689) (show decode cL_law 2684 = .ok (.ifCond .eq 5, 3) by decide +kernel) (by decide) ⟨fun c717 => ?_, fun c717 => ?_⟩
            · have w := w.1 c717
              refine X_goto (tgt := 2925) (show decode cL_law 2689 = .ok (.goto 236, 3) by decide +kernel) (by decide) ?_
              refine X_iinc (j := 5) (v := _ + (nI 4)) (ls' := [(0, .ref _), (1, .ref _), (2, .ref _), (3, .ref _), (4, .ref _), (5, .int _), (6, .int _), (7, .int _)]) (show decode cL_law 2925 = .ok (.iinc 5 4, 3) by decide +kernel) rfl rfl (Nat.le_of_ble_eq_true rfl) rfl ?_
              refine X_goto (tgt := 28) (show decode cL_law 2928 = .ok (.goto (-2900), 3) by decide +kernel) (by decide) ?_
              refine X_room (rc' := (n * 33 + 33)) (rs' := (n * 8198 + 8198)) (by omega) (by omega) ?_
              refine X_pick (ls' := [(0, .ref _), (1, .ref _), (2, .ref _), (3, .ref _), (4, .ref _), (5, .int _)]) [0, 1, 2, 3, 4, 5] rfl ?_
              exact ih _ _ _ _ _ _ _ w
            · have w := w.2 c717
              refine X_iconst (v := (nI 0)) (show decode cL_law 2687 = .ok (.iconst 0, 1) by decide +kernel) (by decide) ?_
              exact X_iret ⟨(show decode cL_law 2688 = .ok (.ireturn, 1) by decide +kernel), .boolean, rfl, (by decide)⟩ ⟨_, rfl, w⟩
        · have w := w.2 c713
          refine X_iconst (v := (nI 0)) (show decode cL_law 2670 = .ok (.iconst 0, 1) by decide +kernel) (by decide) ?_
          exact X_iret ⟨(show decode cL_law 2671 = .ok (.ireturn, 1) by decide +kernel), .boolean, rfl, (by decide)⟩ ⟨_, rfl, w⟩
      by_cases z49 : (mI h x0 x5.toNatClampNeg &&& (nI 63)) = (nI 49)
      · have w := w.2.2.2.2.2.2.2.2.2.2.2.2.2.2.2.2.2.2.2.2.2.2.2.2.2.2.2.2.2.2.2.2.2.2.2.2.2.2.2.2.2.2.2.2.2.2.2.2.2.1 z49
        refine X_tableIn (tgt := 2692) (show decode cL_law 44 = .ok (.tableswitch 2881 0 54 #[236, 292, 372, 440, 496, 552, 615, 683, 739, 795, 851, 864, 920, 976, 1032, 1095, 1151, 1219, 1287, 1367, 1435, 1448, 1473, 1529, 1585, 1648, 1711, 1767, 1823, 1879, 1935, 1991, 2066, 2079, 2092, 2167, 2180, 2193, 2237, 2281, 2294, 2307, 2321, 2386, 2452, 2465, 2478, 2534, 2590, 2648, 2692, 2736, 2780, 2824, 2837], 236) by decide +kernel) (by rw [z49]; decide) (by rw [z49]; decide) (by rw [z49] <;> rfl) (by decide) ?_
        refine X_aload_n (j := 1) (show decode cL_law 2692 = .ok (.aload_n 1, 1) by decide +kernel) rfl rfl ?_
        refine X_aload_n (j := 3) (show decode cL_law 2693 = .ok (.aload_n 3, 1) by decide +kernel) rfl rfl ?_
        refine X_sH (rc' := (n * 33 + 65)) (rs' := (n * 8198 + 16390)) (as := [.ref _, .ref _]) msh_L_334 (show decode cL_law 2694 = .ok (.invokestatic 334, 3) by decide +kernel) (by decide) (by omega) (by omega) rfl rfl (Nat.le_of_ble_eq_true rfl) (kL_run w) (fun r721 h720 w => ?_)
        refine X_istore (ls' := [(0, .ref _), (1, .ref _), (2, .ref _), (3, .ref _), (4, .ref _), (5, .int _), (6, .int _)]) (show decode cL_law 2697 = .ok (.istore 6, 2) by decide +kernel) (by decide) rfl ?_
        refine X_aload_n (j := 2) (show decode cL_law 2699 = .ok (.aload_n 2, 1) by decide +kernel) rfl rfl ?_
        obtain ⟨s732, w⟩ := w
        refine X_vI (rc' := (n * 33 + 65)) (rs' := (n * 8198 + 16390)) (as := []) mv_L_336 (show decode cL_law 2700 = .ok (.invokevirtual 336, 3) by decide +kernel) (by decide) (by omega) (by omega) rfl rfl (Nat.le_of_ble_eq_true rfl) (rcvD s732 (by decide) rfl) (kX10_run w) (fun E h hk => hk.elim) (fun r723 h722 w => ?_)
        refine X_istore (ls' := [(0, .ref _), (1, .ref _), (2, .ref _), (3, .ref _), (4, .ref _), (5, .int _), (6, .int _), (7, .int _)]) (show decode cL_law 2703 = .ok (.istore 7, 2) by decide +kernel) (by decide) rfl ?_
        refine X_aload_n (j := 2) (show decode cL_law 2705 = .ok (.aload_n 2, 1) by decide +kernel) rfl rfl ?_
        obtain ⟨s731, w⟩ := w
        refine X_vI (rc' := (n * 33 + 65)) (rs' := (n * 8198 + 16390)) (as := []) mv_L_168 (show decode cL_law 2706 = .ok (.invokevirtual 168, 3) by decide +kernel) (by decide) (by omega) (by omega) rfl rfl (Nat.le_of_ble_eq_true rfl) (rcvD s731 (by decide) rfl) (kX10_thrown w) (fun E h hk => hk.elim) (fun r725 h724 w => ?_)
        refine X_iload (j := 6) (show decode cL_law 2709 = .ok (.iload 6, 2) by decide +kernel) rfl ?_
        refine X_icmp_eq (tgt := 2716) (show decode cL_law 2711 = .ok (.if_icmp .eq 5, 3) by decide +kernel) (by decide) ⟨fun c726 => ?_, fun c726 => ?_⟩
        · have w := w.1 c726
          refine X_iload (j := 6) (show decode cL_law 2716 = .ok (.iload 6, 2) by decide +kernel) rfl ?_
          refine X_if_ne (tgt := 2733) (show decode cL_law 2718 = .ok (.ifCond .ne 15, 3) by decide +kernel) (by decide) ⟨fun c727 => ?_, fun c727 => ?_⟩
          · have w := w.1 c727
            refine X_goto (tgt := 2925) (show decode cL_law 2733 = .ok (.goto 192, 3) by decide +kernel) (by decide) ?_
            refine X_iinc (j := 5) (v := _ + (nI 4)) (ls' := [(0, .ref _), (1, .ref _), (2, .ref _), (3, .ref _), (4, .ref _), (5, .int _), (6, .int _), (7, .int _)]) (show decode cL_law 2925 = .ok (.iinc 5 4, 3) by decide +kernel) rfl rfl (Nat.le_of_ble_eq_true rfl) rfl ?_
            refine X_goto (tgt := 28) (show decode cL_law 2928 = .ok (.goto (-2900), 3) by decide +kernel) (by decide) ?_
            refine X_room (rc' := (n * 33 + 33)) (rs' := (n * 8198 + 8198)) (by omega) (by omega) ?_
            refine X_pick (ls' := [(0, .ref _), (1, .ref _), (2, .ref _), (3, .ref _), (4, .ref _), (5, .int _)]) [0, 1, 2, 3, 4, 5] rfl ?_
            exact ih _ _ _ _ _ _ _ w
          · have w := w.2 c727
            refine X_aload_n (j := 3) (show decode cL_law 2721 = .ok (.aload_n 3, 1) by decide +kernel) rfl rfl ?_
            refine X_iconst (v := (nI 0)) (show decode cL_law 2722 = .ok (.iconst 0, 1) by decide +kernel) (by decide) ?_
            obtain ⟨s728, w⟩ := w
            obtain ⟨s729, w⟩ := w
            refine X_lald (show decode cL_law 2723 = .ok (.laload, 1) by decide +kernel) (isA_eq s728) s729 ?_
            refine X_iload (j := 7) (show decode cL_law 2724 = .ok (.iload 7, 2) by decide +kernel) rfl ?_
            refine X_i2l (show decode cL_law 2726 = .ok (.i2l, 1) by decide +kernel) ?_
            refine X_lcmp (show decode cL_law 2727 = .ok (.lcmp, 1) by decide +kernel) ?_
            refine X_if_eq (tgt := 2733) (show decode cL_law 2728 = .ok (.ifCond .eq 5, 3) by decide +kernel) (by decide) ⟨fun c730 => ?_, fun c730 => ?_⟩
            · have w := w.1 c730
              refine X_goto (tgt := 2925) (show decode cL_law 2733 = .ok (.goto 192, 3) by decide +kernel) (by decide) ?_
              refine X_iinc (j := 5) (v := _ + (nI 4)) (ls' := [(0, .ref _), (1, .ref _), (2, .ref _), (3, .ref _), (4, .ref _), (5, .int _), (6, .int _), (7, .int _)]) (show decode cL_law 2925 = .ok (.iinc 5 4, 3) by decide +kernel) rfl rfl (Nat.le_of_ble_eq_true rfl) rfl ?_
              refine X_goto (tgt := 28) (show decode cL_law 2928 = .ok (.goto (-2900), 3) by decide +kernel) (by decide) ?_
              refine X_room (rc' := (n * 33 + 33)) (rs' := (n * 8198 + 8198)) (by omega) (by omega) ?_
              refine X_pick (ls' := [(0, .ref _), (1, .ref _), (2, .ref _), (3, .ref _), (4, .ref _), (5, .int _)]) [0, 1, 2, 3, 4, 5] rfl ?_
              exact ih _ _ _ _ _ _ _ w
            · have w := w.2 c730
              refine X_iconst (v := (nI 0)) (show decode cL_law 2731 = .ok (.iconst 0, 1) by decide +kernel) (by decide) ?_
              exact X_iret ⟨(show decode cL_law 2732 = .ok (.ireturn, 1) by decide +kernel), .boolean, rfl, (by decide)⟩ ⟨_, rfl, w⟩
        · have w := w.2 c726
          refine X_iconst (v := (nI 0)) (show decode cL_law 2714 = .ok (.iconst 0, 1) by decide +kernel) (by decide) ?_
          exact X_iret ⟨(show decode cL_law 2715 = .ok (.ireturn, 1) by decide +kernel), .boolean, rfl, (by decide)⟩ ⟨_, rfl, w⟩
      by_cases z50 : (mI h x0 x5.toNatClampNeg &&& (nI 63)) = (nI 50)
      · have w := w.2.2.2.2.2.2.2.2.2.2.2.2.2.2.2.2.2.2.2.2.2.2.2.2.2.2.2.2.2.2.2.2.2.2.2.2.2.2.2.2.2.2.2.2.2.2.2.2.2.2.1 z50
        refine X_tableIn (tgt := 2736) (show decode cL_law 44 = .ok (.tableswitch 2881 0 54 #[236, 292, 372, 440, 496, 552, 615, 683, 739, 795, 851, 864, 920, 976, 1032, 1095, 1151, 1219, 1287, 1367, 1435, 1448, 1473, 1529, 1585, 1648, 1711, 1767, 1823, 1879, 1935, 1991, 2066, 2079, 2092, 2167, 2180, 2193, 2237, 2281, 2294, 2307, 2321, 2386, 2452, 2465, 2478, 2534, 2590, 2648, 2692, 2736, 2780, 2824, 2837], 236) by decide +kernel) (by rw [z50]; decide) (by rw [z50]; decide) (by rw [z50] <;> rfl) (by decide) ?_
        refine X_aload_n (j := 1) (show decode cL_law 2736 = .ok (.aload_n 1, 1) by decide +kernel) rfl rfl ?_
        refine X_aload_n (j := 3) (show decode cL_law 2737 = .ok (.aload_n 3, 1) by decide +kernel) rfl rfl ?_
        refine X_sH (rc' := (n * 33 + 65)) (rs' := (n * 8198 + 16390)) (as := [.ref _, .ref _]) msh_L_337 (show decode cL_law 2738 = .ok (.invokestatic 337, 3) by decide +kernel) (by decide) (by omega) (by omega) rfl rfl (Nat.le_of_ble_eq_true rfl) (kL_errorPosition w) (fun r734 h733 w => ?_)
        refine X_istore (ls' := [(0, .ref _), (1, .ref _), (2, .ref _), (3, .ref _), (4, .ref _), (5, .int _), (6, .int _)]) (show decode cL_law 2741 = .ok (.istore 6, 2) by decide +kernel) (by decide) rfl ?_
        refine X_aload_n (j := 2) (show decode cL_law 2743 = .ok (.aload_n 2, 1) by decide +kernel) rfl rfl ?_
        obtain ⟨s745, w⟩ := w
        refine X_vI (rc' := (n * 33 + 65)) (rs' := (n * 8198 + 16390)) (as := []) mv_L_339 (show decode cL_law 2744 = .ok (.invokevirtual 339, 3) by decide +kernel) (by decide) (by omega) (by omega) rfl rfl (Nat.le_of_ble_eq_true rfl) (rcvD s745 (by decide) rfl) (kX10_errorPosition w) (fun E h hk => hk.elim) (fun r736 h735 w => ?_)
        refine X_istore (ls' := [(0, .ref _), (1, .ref _), (2, .ref _), (3, .ref _), (4, .ref _), (5, .int _), (6, .int _), (7, .int _)]) (show decode cL_law 2747 = .ok (.istore 7, 2) by decide +kernel) (by decide) rfl ?_
        refine X_aload_n (j := 2) (show decode cL_law 2749 = .ok (.aload_n 2, 1) by decide +kernel) rfl rfl ?_
        obtain ⟨s744, w⟩ := w
        refine X_vI (rc' := (n * 33 + 65)) (rs' := (n * 8198 + 16390)) (as := []) mv_L_168 (show decode cL_law 2750 = .ok (.invokevirtual 168, 3) by decide +kernel) (by decide) (by omega) (by omega) rfl rfl (Nat.le_of_ble_eq_true rfl) (rcvD s744 (by decide) rfl) (kX10_thrown w) (fun E h hk => hk.elim) (fun r738 h737 w => ?_)
        refine X_iload (j := 6) (show decode cL_law 2753 = .ok (.iload 6, 2) by decide +kernel) rfl ?_
        refine X_icmp_eq (tgt := 2760) (show decode cL_law 2755 = .ok (.if_icmp .eq 5, 3) by decide +kernel) (by decide) ⟨fun c739 => ?_, fun c739 => ?_⟩
        · have w := w.1 c739
          refine X_iload (j := 6) (show decode cL_law 2760 = .ok (.iload 6, 2) by decide +kernel) rfl ?_
          refine X_if_ne (tgt := 2777) (show decode cL_law 2762 = .ok (.ifCond .ne 15, 3) by decide +kernel) (by decide) ⟨fun c740 => ?_, fun c740 => ?_⟩
          · have w := w.1 c740
            refine X_goto (tgt := 2925) (show decode cL_law 2777 = .ok (.goto 148, 3) by decide +kernel) (by decide) ?_
            refine X_iinc (j := 5) (v := _ + (nI 4)) (ls' := [(0, .ref _), (1, .ref _), (2, .ref _), (3, .ref _), (4, .ref _), (5, .int _), (6, .int _), (7, .int _)]) (show decode cL_law 2925 = .ok (.iinc 5 4, 3) by decide +kernel) rfl rfl (Nat.le_of_ble_eq_true rfl) rfl ?_
            refine X_goto (tgt := 28) (show decode cL_law 2928 = .ok (.goto (-2900), 3) by decide +kernel) (by decide) ?_
            refine X_room (rc' := (n * 33 + 33)) (rs' := (n * 8198 + 8198)) (by omega) (by omega) ?_
            refine X_pick (ls' := [(0, .ref _), (1, .ref _), (2, .ref _), (3, .ref _), (4, .ref _), (5, .int _)]) [0, 1, 2, 3, 4, 5] rfl ?_
            exact ih _ _ _ _ _ _ _ w
          · have w := w.2 c740
            refine X_aload_n (j := 3) (show decode cL_law 2765 = .ok (.aload_n 3, 1) by decide +kernel) rfl rfl ?_
            refine X_iconst (v := (nI 0)) (show decode cL_law 2766 = .ok (.iconst 0, 1) by decide +kernel) (by decide) ?_
            obtain ⟨s741, w⟩ := w
            obtain ⟨s742, w⟩ := w
            refine X_lald (show decode cL_law 2767 = .ok (.laload, 1) by decide +kernel) (isA_eq s741) s742 ?_
            refine X_iload (j := 7) (show decode cL_law 2768 = .ok (.iload 7, 2) by decide +kernel) rfl ?_
            refine X_i2l (show decode cL_law 2770 = .ok (.i2l, 1) by decide +kernel) ?_
            refine X_lcmp (show decode cL_law 2771 = .ok (.lcmp, 1) by decide +kernel) ?_
            refine X_if_eq (tgt := 2777) (show decode cL_law 2772 = .ok (.ifCond .eq 5, 3) by decide +kernel) (by decide) ⟨fun c743 => ?_, fun c743 => ?_⟩
            · have w := w.1 c743
              refine X_goto (tgt := 2925) (show decode cL_law 2777 = .ok (.goto 148, 3) by decide +kernel) (by decide) ?_
              refine X_iinc (j := 5) (v := _ + (nI 4)) (ls' := [(0, .ref _), (1, .ref _), (2, .ref _), (3, .ref _), (4, .ref _), (5, .int _), (6, .int _), (7, .int _)]) (show decode cL_law 2925 = .ok (.iinc 5 4, 3) by decide +kernel) rfl rfl (Nat.le_of_ble_eq_true rfl) rfl ?_
              refine X_goto (tgt := 28) (show decode cL_law 2928 = .ok (.goto (-2900), 3) by decide +kernel) (by decide) ?_
              refine X_room (rc' := (n * 33 + 33)) (rs' := (n * 8198 + 8198)) (by omega) (by omega) ?_
              refine X_pick (ls' := [(0, .ref _), (1, .ref _), (2, .ref _), (3, .ref _), (4, .ref _), (5, .int _)]) [0, 1, 2, 3, 4, 5] rfl ?_
              exact ih _ _ _ _ _ _ _ w
            · have w := w.2 c743
              refine X_iconst (v := (nI 0)) (show decode cL_law 2775 = .ok (.iconst 0, 1) by decide +kernel) (by decide) ?_
              exact X_iret ⟨(show decode cL_law 2776 = .ok (.ireturn, 1) by decide +kernel), .boolean, rfl, (by decide)⟩ ⟨_, rfl, w⟩
        · have w := w.2 c739
          refine X_iconst (v := (nI 0)) (show decode cL_law 2758 = .ok (.iconst 0, 1) by decide +kernel) (by decide) ?_
          exact X_iret ⟨(show decode cL_law 2759 = .ok (.ireturn, 1) by decide +kernel), .boolean, rfl, (by decide)⟩ ⟨_, rfl, w⟩
      by_cases z51 : (mI h x0 x5.toNatClampNeg &&& (nI 63)) = (nI 51)
      · have w := w.2.2.2.2.2.2.2.2.2.2.2.2.2.2.2.2.2.2.2.2.2.2.2.2.2.2.2.2.2.2.2.2.2.2.2.2.2.2.2.2.2.2.2.2.2.2.2.2.2.2.2.1 z51
        refine X_tableIn (tgt := 2780) (show decode cL_law 44 = .ok (.tableswitch 2881 0 54 #[236, 292, 372, 440, 496, 552, 615, 683, 739, 795, 851, 864, 920, 976, 1032, 1095, 1151, 1219, 1287, 1367, 1435, 1448, 1473, 1529, 1585, 1648, 1711, 1767, 1823, 1879, 1935, 1991, 2066, 2079, 2092, 2167, 2180, 2193, 2237, 2281, 2294, 2307, 2321, 2386, 2452, 2465, 2478, 2534, 2590, 2648, 2692, 2736, 2780, 2824, 2837], 236) by decide +kernel) (by rw [z51]; decide) (by rw [z51]; decide) (by rw [z51] <;> rfl) (by decide) ?_
        refine X_aload_n (j := 1) (show decode cL_law 2780 = .ok (.aload_n 1, 1) by decide +kernel) rfl rfl ?_
        refine X_aload_n (j := 3) (show decode cL_law 2781 = .ok (.aload_n 3, 1) by decide +kernel) rfl rfl ?_
        refine X_sH (rc' := (n * 33 + 65)) (rs' := (n * 8198 + 16390)) (as := [.ref _, .ref _]) msh_L_340 (show decode cL_law 2782 = .ok (.invokestatic 340, 3) by decide +kernel) (by decide) (by omega) (by omega) rfl rfl (Nat.le_of_ble_eq_true rfl) (kL_failedCommand w) (fun r747 h746 w => ?_)
        refine X_istore (ls' := [(0, .ref _), (1, .ref _), (2, .ref _), (3, .ref _), (4, .ref _), (5, .int _), (6, .int _)]) (show decode cL_law 2785 = .ok (.istore 6, 2) by decide +kernel) (by decide) rfl ?_
        refine X_aload_n (j := 2) (show decode cL_law 2787 = .ok (.aload_n 2, 1) by decide +kernel) rfl rfl ?_
        obtain ⟨s758, w⟩ := w
        refine X_vI (rc' := (n * 33 + 65)) (rs' := (n * 8198 + 16390)) (as := []) mv_L_342 (show decode cL_law 2788 = .ok (.invokevirtual 342, 3) by decide +kernel) (by decide) (by omega) (by omega) rfl rfl (Nat.le_of_ble_eq_true rfl) (rcvD s758 (by decide) rfl) (kX10_failedCommand w) (fun E h hk => hk.elim) (fun r749 h748 w => ?_)
        refine X_istore (ls' := [(0, .ref _), (1, .ref _), (2, .ref _), (3, .ref _), (4, .ref _), (5, .int _), (6, .int _), (7, .int _)]) (show decode cL_law 2791 = .ok (.istore 7, 2) by decide +kernel) (by decide) rfl ?_
        refine X_aload_n (j := 2) (show decode cL_law 2793 = .ok (.aload_n 2, 1) by decide +kernel) rfl rfl ?_
        obtain ⟨s757, w⟩ := w
        refine X_vI (rc' := (n * 33 + 65)) (rs' := (n * 8198 + 16390)) (as := []) mv_L_168 (show decode cL_law 2794 = .ok (.invokevirtual 168, 3) by decide +kernel) (by decide) (by omega) (by omega) rfl rfl (Nat.le_of_ble_eq_true rfl) (rcvD s757 (by decide) rfl) (kX10_thrown w) (fun E h hk => hk.elim) (fun r751 h750 w => ?_)
        refine X_iload (j := 6) (show decode cL_law 2797 = .ok (.iload 6, 2) by decide +kernel) rfl ?_
        refine X_icmp_eq (tgt := 2804) (show decode cL_law 2799 = .ok (.if_icmp .eq 5, 3) by decide +kernel) (by decide) ⟨fun c752 => ?_, fun c752 => ?_⟩
        · have w := w.1 c752
          refine X_iload (j := 6) (show decode cL_law 2804 = .ok (.iload 6, 2) by decide +kernel) rfl ?_
          refine X_if_ne (tgt := 2821) (show decode cL_law 2806 = .ok (.ifCond .ne 15, 3) by decide +kernel) (by decide) ⟨fun c753 => ?_, fun c753 => ?_⟩
          · have w := w.1 c753
            refine X_goto (tgt := 2925) (show decode cL_law 2821 = .ok (.goto 104, 3) by decide +kernel) (by decide) ?_
            refine X_iinc (j := 5) (v := _ + (nI 4)) (ls' := [(0, .ref _), (1, .ref _), (2, .ref _), (3, .ref _), (4, .ref _), (5, .int _), (6, .int _), (7, .int _)]) (show decode cL_law 2925 = .ok (.iinc 5 4, 3) by decide +kernel) rfl rfl (Nat.le_of_ble_eq_true rfl) rfl ?_
            refine X_goto (tgt := 28) (show decode cL_law 2928 = .ok (.goto (-2900), 3) by decide +kernel) (by decide) ?_
            refine X_room (rc' := (n * 33 + 33)) (rs' := (n * 8198 + 8198)) (by omega) (by omega) ?_
            refine X_pick (ls' := [(0, .ref _), (1, .ref _), (2, .ref _), (3, .ref _), (4, .ref _), (5, .int _)]) [0, 1, 2, 3, 4, 5] rfl ?_
            exact ih _ _ _ _ _ _ _ w
          · have w := w.2 c753
            refine X_aload_n (j := 3) (show decode cL_law 2809 = .ok (.aload_n 3, 1) by decide +kernel) rfl rfl ?_
            refine X_iconst (v := (nI 0)) (show decode cL_law 2810 = .ok (.iconst 0, 1) by decide +kernel) (by decide) ?_
            obtain ⟨s754, w⟩ := w
            obtain ⟨s755, w⟩ := w
            refine X_lald (show decode cL_law 2811 = .ok (.laload, 1) by decide +kernel) (isA_eq s754) s755 ?_
            refine X_iload (j := 7) (show decode cL_law 2812 = .ok (.iload 7, 2) by decide +kernel) rfl ?_
            refine X_i2l (show decode cL_law 2814 = .ok (.i2l, 1) by decide +kernel) ?_
            refine X_lcmp (show decode cL_law 2815 = .ok (.lcmp, 1) by decide +kernel) ?_
            refine X_if_eq (tgt := 2821) (show decode cL_law 2816 = .ok (.ifCond .eq 5, 3) by decide +kernel) (by decide) ⟨fun c756 => ?_, fun c756 => ?_⟩
            · have w := w.1 c756
              refine X_goto (tgt := 2925) (show decode cL_law 2821 = .ok (.goto 104, 3) by decide +kernel) (by decide) ?_
              refine X_iinc (j := 5) (v := _ + (nI 4)) (ls' := [(0, .ref _), (1, .ref _), (2, .ref _), (3, .ref _), (4, .ref _), (5, .int _), (6, .int _), (7, .int _)]) (show decode cL_law 2925 = .ok (.iinc 5 4, 3) by decide +kernel) rfl rfl (Nat.le_of_ble_eq_true rfl) rfl ?_
              refine X_goto (tgt := 28) (show decode cL_law 2928 = .ok (.goto (-2900), 3) by decide +kernel) (by decide) ?_
              refine X_room (rc' := (n * 33 + 33)) (rs' := (n * 8198 + 8198)) (by omega) (by omega) ?_
              refine X_pick (ls' := [(0, .ref _), (1, .ref _), (2, .ref _), (3, .ref _), (4, .ref _), (5, .int _)]) [0, 1, 2, 3, 4, 5] rfl ?_
              exact ih _ _ _ _ _ _ _ w
            · have w := w.2 c756
              refine X_iconst (v := (nI 0)) (show decode cL_law 2819 = .ok (.iconst 0, 1) by decide +kernel) (by decide) ?_
              exact X_iret ⟨(show decode cL_law 2820 = .ok (.ireturn, 1) by decide +kernel), .boolean, rfl, (by decide)⟩ ⟨_, rfl, w⟩
        · have w := w.2 c752
          refine X_iconst (v := (nI 0)) (show decode cL_law 2802 = .ok (.iconst 0, 1) by decide +kernel) (by decide) ?_
          exact X_iret ⟨(show decode cL_law 2803 = .ok (.ireturn, 1) by decide +kernel), .boolean, rfl, (by decide)⟩ ⟨_, rfl, w⟩
      by_cases z52 : (mI h x0 x5.toNatClampNeg &&& (nI 63)) = (nI 52)
      · have w := w.2.2.2.2.2.2.2.2.2.2.2.2.2.2.2.2.2.2.2.2.2.2.2.2.2.2.2.2.2.2.2.2.2.2.2.2.2.2.2.2.2.2.2.2.2.2.2.2.2.2.2.2.1 z52
        refine X_tableIn (tgt := 2824) (show decode cL_law 44 = .ok (.tableswitch 2881 0 54 #[236, 292, 372, 440, 496, 552, 615, 683, 739, 795, 851, 864, 920, 976, 1032, 1095, 1151, 1219, 1287, 1367, 1435, 1448, 1473, 1529, 1585, 1648, 1711, 1767, 1823, 1879, 1935, 1991, 2066, 2079, 2092, 2167, 2180, 2193, 2237, 2281, 2294, 2307, 2321, 2386, 2452, 2465, 2478, 2534, 2590, 2648, 2692, 2736, 2780, 2824, 2837], 236) by decide +kernel) (by rw [z52]; decide) (by rw [z52]; decide) (by rw [z52] <;> rfl) (by decide) ?_
        refine X_aload_n (j := 1) (show decode cL_law 2824 = .ok (.aload_n 1, 1) by decide +kernel) rfl rfl ?_
        refine X_aload_n (j := 3) (show decode cL_law 2825 = .ok (.aload_n 3, 1) by decide +kernel) rfl rfl ?_
        refine X_sH (rc' := (n * 33 + 65)) (rs' := (n * 8198 + 16390)) (as := [.ref _, .ref _]) msh_L_343 (show decode cL_law 2826 = .ok (.invokestatic 343, 3) by decide +kernel) (by decide) (by omega) (by omega) rfl rfl (Nat.le_of_ble_eq_true rfl) (kL_undo w) (fun r760 h759 w => ?_)
        refine X_istore (ls' := [(0, .ref _), (1, .ref _), (2, .ref _), (3, .ref _), (4, .ref _), (5, .int _), (6, .int _)]) (show decode cL_law 2829 = .ok (.istore 6, 2) by decide +kernel) (by decide) rfl ?_
        refine X_aload_n (j := 2) (show decode cL_law 2831 = .ok (.aload_n 2, 1) by decide +kernel) rfl rfl ?_
        obtain ⟨s771, w⟩ := w
        refine X_vI (rc' := (n * 33 + 65)) (rs' := (n * 8198 + 16390)) (as := []) mv_L_345 (show decode cL_law 2832 = .ok (.invokevirtual 345, 3) by decide +kernel) (by decide) (by omega) (by omega) rfl rfl (Nat.le_of_ble_eq_true rfl) (rcvD s771 (by decide) rfl) (kX10_undo w) (fun E h hk => hk.elim) (fun r762 h761 w => ?_)
        refine X_istore (ls' := [(0, .ref _), (1, .ref _), (2, .ref _), (3, .ref _), (4, .ref _), (5, .int _), (6, .int _), (7, .int _)]) (show decode cL_law 2835 = .ok (.istore 7, 2) by decide +kernel) (by decide) rfl ?_
        refine X_aload_n (j := 2) (show decode cL_law 2837 = .ok (.aload_n 2, 1) by decide +kernel) rfl rfl ?_
        obtain ⟨s770, w⟩ := w
        refine X_vI (rc' := (n * 33 + 65)) (rs' := (n * 8198 + 16390)) (as := []) mv_L_168 (show decode cL_law 2838 = .ok (.invokevirtual 168, 3) by decide +kernel) (by decide) (by omega) (by omega) rfl rfl (Nat.le_of_ble_eq_true rfl) (rcvD s770 (by decide) rfl) (kX10_thrown w) (fun E h hk => hk.elim) (fun r764 h763 w => ?_)
        refine X_iload (j := 6) (show decode cL_law 2841 = .ok (.iload 6, 2) by decide +kernel) rfl ?_
        refine X_icmp_eq (tgt := 2848) (show decode cL_law 2843 = .ok (.if_icmp .eq 5, 3) by decide +kernel) (by decide) ⟨fun c765 => ?_, fun c765 => ?_⟩
        · have w := w.1 c765
          refine X_iload (j := 6) (show decode cL_law 2848 = .ok (.iload 6, 2) by decide +kernel) rfl ?_
          refine X_if_ne (tgt := 2865) (show decode cL_law 2850 = .ok (.ifCond .ne 15, 3) by decide +kernel) (by decide) ⟨fun c766 => ?_, fun c766 => ?_⟩
          · have w := w.1 c766
            refine X_goto (tgt := 2925) (show decode cL_law 2865 = .ok (.goto 60, 3) by decide +kernel) (by decide) ?_
            refine X_iinc (j := 5) (v := _ + (nI 4)) (ls' := [(0, .ref _), (1, .ref _), (2, .ref _), (3, .ref _), (4, .ref _), (5, .int _), (6, .int _), (7, .int _)]) (show decode cL_law 2925 = .ok (.iinc 5 4, 3) by decide +kernel) rfl rfl (Nat.le_of_ble_eq_true rfl) rfl ?_
            refine X_goto (tgt := 28) (show decode cL_law 2928 = .ok (.goto (-2900), 3) by decide +kernel) (by decide) ?_
            refine X_room (rc' := (n * 33 + 33)) (rs' := (n * 8198 + 8198)) (by omega) (by omega) ?_
            refine X_pick (ls' := [(0, .ref _), (1, .ref _), (2, .ref _), (3, .ref _), (4, .ref _), (5, .int _)]) [0, 1, 2, 3, 4, 5] rfl ?_
            exact ih _ _ _ _ _ _ _ w
          · have w := w.2 c766
            refine X_aload_n (j := 3) (show decode cL_law 2853 = .ok (.aload_n 3, 1) by decide +kernel) rfl rfl ?_
            refine X_iconst (v := (nI 0)) (show decode cL_law 2854 = .ok (.iconst 0, 1) by decide +kernel) (by decide) ?_
            obtain ⟨s767, w⟩ := w
            obtain ⟨s768, w⟩ := w
            refine X_lald (show decode cL_law 2855 = .ok (.laload, 1) by decide +kernel) (isA_eq s767) s768 ?_
            refine X_iload (j := 7) (show decode cL_law 2856 = .ok (.iload 7, 2) by decide +kernel) rfl ?_
            refine X_i2l (show decode cL_law 2858 = .ok (.i2l, 1) by decide +kernel) ?_
            refine X_lcmp (show decode cL_law 2859 = .ok (.lcmp, 1) by decide +kernel) ?_
            refine X_if_eq (tgt := 2865) (show decode cL_law 2860 = .ok (.ifCond .eq 5, 3) by decide +kernel) (by decide) ⟨fun c769 => ?_, fun c769 => ?_⟩
            · have w := w.1 c769
              refine X_goto (tgt := 2925) (show decode cL_law 2865 = .ok (.goto 60, 3) by decide +kernel) (by decide) ?_
              refine X_iinc (j := 5) (v := _ + (nI 4)) (ls' := [(0, .ref _), (1, .ref _), (2, .ref _), (3, .ref _), (4, .ref _), (5, .int _), (6, .int _), (7, .int _)]) (show decode cL_law 2925 = .ok (.iinc 5 4, 3) by decide +kernel) rfl rfl (Nat.le_of_ble_eq_true rfl) rfl ?_
              refine X_goto (tgt := 28) (show decode cL_law 2928 = .ok (.goto (-2900), 3) by decide +kernel) (by decide) ?_
              refine X_room (rc' := (n * 33 + 33)) (rs' := (n * 8198 + 8198)) (by omega) (by omega) ?_
              refine X_pick (ls' := [(0, .ref _), (1, .ref _), (2, .ref _), (3, .ref _), (4, .ref _), (5, .int _)]) [0, 1, 2, 3, 4, 5] rfl ?_
              exact ih _ _ _ _ _ _ _ w
            · have w := w.2 c769
              refine X_iconst (v := (nI 0)) (show decode cL_law 2863 = .ok (.iconst 0, 1) by decide +kernel) (by decide) ?_
              exact X_iret ⟨(show decode cL_law 2864 = .ok (.ireturn, 1) by decide +kernel), .boolean, rfl, (by decide)⟩ ⟨_, rfl, w⟩
        · have w := w.2 c765
          refine X_iconst (v := (nI 0)) (show decode cL_law 2846 = .ok (.iconst 0, 1) by decide +kernel) (by decide) ?_
          exact X_iret ⟨(show decode cL_law 2847 = .ok (.ireturn, 1) by decide +kernel), .boolean, rfl, (by decide)⟩ ⟨_, rfl, w⟩
      by_cases z53 : (mI h x0 x5.toNatClampNeg &&& (nI 63)) = (nI 53)
      · have w := w.2.2.2.2.2.2.2.2.2.2.2.2.2.2.2.2.2.2.2.2.2.2.2.2.2.2.2.2.2.2.2.2.2.2.2.2.2.2.2.2.2.2.2.2.2.2.2.2.2.2.2.2.2.1 z53
        refine X_tableIn (tgt := 2868) (show decode cL_law 44 = .ok (.tableswitch 2881 0 54 #[236, 292, 372, 440, 496, 552, 615, 683, 739, 795, 851, 864, 920, 976, 1032, 1095, 1151, 1219, 1287, 1367, 1435, 1448, 1473, 1529, 1585, 1648, 1711, 1767, 1823, 1879, 1935, 1991, 2066, 2079, 2092, 2167, 2180, 2193, 2237, 2281, 2294, 2307, 2321, 2386, 2452, 2465, 2478, 2534, 2590, 2648, 2692, 2736, 2780, 2824, 2837], 236) by decide +kernel) (by rw [z53]; decide) (by rw [z53]; decide) (by rw [z53] <;> rfl) (by decide) ?_
        refine X_aload_n (j := 1) (show decode cL_law 2868 = .ok (.aload_n 1, 1) by decide +kernel) rfl rfl ?_
        obtain ⟨s778, w⟩ := w
        refine X_vI (rc' := (n * 33 + 66)) (rs' := (n * 8198 + 16396)) (as := []) mv_L_346 (show decode cL_law 2869 = .ok (.invokevirtual 346, 3) by decide +kernel) (by decide) (by omega) (by omega) rfl rfl (Nat.le_of_ble_eq_true rfl) (rcvD s778 (by decide) rfl) (kX9_save w) (fun E h hk => hk.elim) (fun r773 h772 w => ?_)
        refine X_aload_n (j := 2) (show decode cL_law 2872 = .ok (.aload_n 2, 1) by decide +kernel) rfl rfl ?_
        obtain ⟨s777, w⟩ := w
        refine X_vI (rc' := (n * 33 + 66)) (rs' := (n * 8198 + 16396)) (as := []) mv_L_349 (show decode cL_law 2873 = .ok (.invokevirtual 349, 3) by decide +kernel) (by decide) (by omega) (by omega) rfl rfl (Nat.le_of_ble_eq_true rfl) (rcvD s777 (by decide) rfl) (kX10_save w) (fun E h hk => hk.elim) (fun r775 h774 w => ?_)
        refine X_icmp_eq (tgt := 2925) (show decode cL_law 2876 = .ok (.if_icmp .eq 49, 3) by decide +kernel) (by decide) ⟨fun c776 => ?_, fun c776 => ?_⟩
        · have w := w.1 c776
          refine X_iinc (j := 5) (v := _ + (nI 4)) (ls' := [(0, .ref _), (1, .ref _), (2, .ref _), (3, .ref _), (4, .ref _), (5, .int _)]) (show decode cL_law 2925 = .ok (.iinc 5 4, 3) by decide +kernel) rfl rfl (Nat.le_of_ble_eq_true rfl) rfl ?_
          refine X_goto (tgt := 28) (show decode cL_law 2928 = .ok (.goto (-2900), 3) by decide +kernel) (by decide) ?_
          refine X_room (rc' := (n * 33 + 33)) (rs' := (n * 8198 + 8198)) (by omega) (by omega) ?_
          exact ih _ _ _ _ _ _ _ w
        · have w := w.2 c776
          refine X_iconst (v := (nI 0)) (show decode cL_law 2879 = .ok (.iconst 0, 1) by decide +kernel) (by decide) ?_
          exact X_iret ⟨(show decode cL_law 2880 = .ok (.ireturn, 1) by decide +kernel), .boolean, rfl, (by decide)⟩ ⟨_, rfl, w⟩
      by_cases z54 : (mI h x0 x5.toNatClampNeg &&& (nI 63)) = (nI 54)
      · have w := w.2.2.2.2.2.2.2.2.2.2.2.2.2.2.2.2.2.2.2.2.2.2.2.2.2.2.2.2.2.2.2.2.2.2.2.2.2.2.2.2.2.2.2.2.2.2.2.2.2.2.2.2.2.2.1 z54
        refine X_tableIn (tgt := 2881) (show decode cL_law 44 = .ok (.tableswitch 2881 0 54 #[236, 292, 372, 440, 496, 552, 615, 683, 739, 795, 851, 864, 920, 976, 1032, 1095, 1151, 1219, 1287, 1367, 1435, 1448, 1473, 1529, 1585, 1648, 1711, 1767, 1823, 1879, 1935, 1991, 2066, 2079, 2092, 2167, 2180, 2193, 2237, 2281, 2294, 2307, 2321, 2386, 2452, 2465, 2478, 2534, 2590, 2648, 2692, 2736, 2780, 2824, 2837], 236) by decide +kernel) (by rw [z54]; decide) (by rw [z54]; decide) (by rw [z54] <;> rfl) (by decide) ?_
        refine X_aload_n (j := 1) (show decode cL_law 2881 = .ok (.aload_n 1, 1) by decide +kernel) rfl rfl ?_
        refine X_aload_n (j := 3) (show decode cL_law 2882 = .ok (.aload_n 3, 1) by decide +kernel) rfl rfl ?_
        refine X_sH (rc' := (n * 33 + 65)) (rs' := (n * 8198 + 16390)) (as := [.ref _, .ref _]) msh_L_350 (show decode cL_law 2883 = .ok (.invokestatic 350, 3) by decide +kernel) (by decide) (by omega) (by omega) rfl rfl (Nat.le_of_ble_eq_true rfl) (kL_restore w) (fun r780 h779 w => ?_)
        refine X_istore (ls' := [(0, .ref _), (1, .ref _), (2, .ref _), (3, .ref _), (4, .ref _), (5, .int _), (6, .int _)]) (show decode cL_law 2886 = .ok (.istore 6, 2) by decide +kernel) (by decide) rfl ?_
        refine X_aload_n (j := 2) (show decode cL_law 2888 = .ok (.aload_n 2, 1) by decide +kernel) rfl rfl ?_
        obtain ⟨s791, w⟩ := w
        refine X_vI (rc' := (n * 33 + 65)) (rs' := (n * 8198 + 16390)) (as := []) mv_L_352 (show decode cL_law 2889 = .ok (.invokevirtual 352, 3) by decide +kernel) (by decide) (by omega) (by omega) rfl rfl (Nat.le_of_ble_eq_true rfl) (rcvD s791 (by decide) rfl) (kX10_restore w) (fun E h hk => hk.elim) (fun r782 h781 w => ?_)
        refine X_istore (ls' := [(0, .ref _), (1, .ref _), (2, .ref _), (3, .ref _), (4, .ref _), (5, .int _), (6, .int _), (7, .int _)]) (show decode cL_law 2892 = .ok (.istore 7, 2) by decide +kernel) (by decide) rfl ?_
        refine X_aload_n (j := 2) (show decode cL_law 2894 = .ok (.aload_n 2, 1) by decide +kernel) rfl rfl ?_
        obtain ⟨s790, w⟩ := w
        refine X_vI (rc' := (n * 33 + 65)) (rs' := (n * 8198 + 16390)) (as := []) mv_L_168 (show decode cL_law 2895 = .ok (.invokevirtual 168, 3) by decide +kernel) (by decide) (by omega) (by omega) rfl rfl (Nat.le_of_ble_eq_true rfl) (rcvD s790 (by decide) rfl) (kX10_thrown w) (fun E h hk => hk.elim) (fun r784 h783 w => ?_)
        refine X_iload (j := 6) (show decode cL_law 2898 = .ok (.iload 6, 2) by decide +kernel) rfl ?_
        refine X_icmp_eq (tgt := 2905) (show decode cL_law 2900 = .ok (.if_icmp .eq 5, 3) by decide +kernel) (by decide) ⟨fun c785 => ?_, fun c785 => ?_⟩
        · have w := w.1 c785
          refine X_iload (j := 6) (show decode cL_law 2905 = .ok (.iload 6, 2) by decide +kernel) rfl ?_
          refine X_if_ne (tgt := 2922) (show decode cL_law 2907 = .ok (.ifCond .ne 15, 3) by decide +kernel) (by decide) ⟨fun c786 => ?_, fun c786 => ?_⟩
          · have w := w.1 c786
            refine X_goto (tgt := 2925) (show decode cL_law 2922 = .ok (.goto 3, 3) by decide +kernel) (by decide) ?_
            refine X_iinc (j := 5) (v := _ + (nI 4)) (ls' := [(0, .ref _), (1, .ref _), (2, .ref _), (3, .ref _), (4, .ref _), (5, .int _), (6, .int _), (7, .int _)]) (show decode cL_law 2925 = .ok (.iinc 5 4, 3) by decide +kernel) rfl rfl (Nat.le_of_ble_eq_true rfl) rfl ?_
            refine X_goto (tgt := 28) (show decode cL_law 2928 = .ok (.goto (-2900), 3) by decide +kernel) (by decide) ?_
            refine X_room (rc' := (n * 33 + 33)) (rs' := (n * 8198 + 8198)) (by omega) (by omega) ?_
            refine X_pick (ls' := [(0, .ref _), (1, .ref _), (2, .ref _), (3, .ref _), (4, .ref _), (5, .int _)]) [0, 1, 2, 3, 4, 5] rfl ?_
            exact ih _ _ _ _ _ _ _ w
          · have w := w.2 c786
            refine X_aload_n (j := 3) (show decode cL_law 2910 = .ok (.aload_n 3, 1) by decide +kernel) rfl rfl ?_
            refine X_iconst (v := (nI 0)) (show decode cL_law 2911 = .ok (.iconst 0, 1) by decide +kernel) (by decide) ?_
            obtain ⟨s787, w⟩ := w
            obtain ⟨s788, w⟩ := w
            refine X_lald (show decode cL_law 2912 = .ok (.laload, 1) by decide +kernel) (isA_eq s787) s788 ?_
            refine X_iload (j := 7) (show decode cL_law 2913 = .ok (.iload 7, 2) by decide +kernel) rfl ?_
            refine X_i2l (show decode cL_law 2915 = .ok (.i2l, 1) by decide +kernel) ?_
            refine X_lcmp (show decode cL_law 2916 = .ok (.lcmp, 1) by decide +kernel) ?_
            refine X_if_eq (tgt := 2922) (show decode cL_law 2917 = .ok (.ifCond .eq 5, 3) by decide +kernel) (by decide) ⟨fun c789 => ?_, fun c789 => ?_⟩
            · have w := w.1 c789
              refine X_goto (tgt := 2925) (show decode cL_law 2922 = .ok (.goto 3, 3) by decide +kernel) (by decide) ?_
              refine X_iinc (j := 5) (v := _ + (nI 4)) (ls' := [(0, .ref _), (1, .ref _), (2, .ref _), (3, .ref _), (4, .ref _), (5, .int _), (6, .int _), (7, .int _)]) (show decode cL_law 2925 = .ok (.iinc 5 4, 3) by decide +kernel) rfl rfl (Nat.le_of_ble_eq_true rfl) rfl ?_
              refine X_goto (tgt := 28) (show decode cL_law 2928 = .ok (.goto (-2900), 3) by decide +kernel) (by decide) ?_
              refine X_room (rc' := (n * 33 + 33)) (rs' := (n * 8198 + 8198)) (by omega) (by omega) ?_
              refine X_pick (ls' := [(0, .ref _), (1, .ref _), (2, .ref _), (3, .ref _), (4, .ref _), (5, .int _)]) [0, 1, 2, 3, 4, 5] rfl ?_
              exact ih _ _ _ _ _ _ _ w
            · have w := w.2 c789
              refine X_iconst (v := (nI 0)) (show decode cL_law 2920 = .ok (.iconst 0, 1) by decide +kernel) (by decide) ?_
              exact X_iret ⟨(show decode cL_law 2921 = .ok (.ireturn, 1) by decide +kernel), .boolean, rfl, (by decide)⟩ ⟨_, rfl, w⟩
        · have w := w.2 c785
          refine X_iconst (v := (nI 0)) (show decode cL_law 2903 = .ok (.iconst 0, 1) by decide +kernel) (by decide) ?_
          exact X_iret ⟨(show decode cL_law 2904 = .ok (.ireturn, 1) by decide +kernel), .boolean, rfl, (by decide)⟩ ⟨_, rfl, w⟩
      have w := w.2.2.2.2.2.2.2.2.2.2.2.2.2.2.2.2.2.2.2.2.2.2.2.2.2.2.2.2.2.2.2.2.2.2.2.2.2.2.2.2.2.2.2.2.2.2.2.2.2.2.2.2.2.2.2 ⟨z0, z1, z2, z3, z4, z5, z6, z7, z8, z9, z10, z11, z12, z13, z14, z15, z16, z17, z18, z19, z20, z21, z22, z23, z24, z25, z26, z27, z28, z29, z30, z31, z32, z33, z34, z35, z36, z37, z38, z39, z40, z41, z42, z43, z44, z45, z46, z47, z48, z49, z50, z51, z52, z53, z54⟩
      refine X_tab (lo := 0) (hi := 54) (tgt := 2925) (show decode cL_law 44 = .ok (.tableswitch 2881 0 54 #[236, 292, 372, 440, 496, 552, 615, 683, 739, 795, 851, 864, 920, 976, 1032, 1095, 1151, 1219, 1287, 1367, 1435, 1448, 1473, 1529, 1585, 1648, 1711, 1767, 1823, 1879, 1935, 1991, 2066, 2079, 2092, 2167, 2180, 2193, 2237, 2281, 2294, 2307, 2321, 2386, 2452, 2465, 2478, 2534, 2590, 2648, 2692, 2736, 2780, 2824, 2837], 236) by decide +kernel) (by decide) (fun g1 g2 => ?_) ?_
      · have g3 : ((mI h x0 x5.toNatClampNeg &&& (nI 63))).toInt = 0 ∨ ((mI h x0 x5.toNatClampNeg &&& (nI 63))).toInt = 1 ∨ ((mI h x0 x5.toNatClampNeg &&& (nI 63))).toInt = 2 ∨ ((mI h x0 x5.toNatClampNeg &&& (nI 63))).toInt = 3 ∨ ((mI h x0 x5.toNatClampNeg &&& (nI 63))).toInt = 4 ∨ ((mI h x0 x5.toNatClampNeg &&& (nI 63))).toInt = 5 ∨ ((mI h x0 x5.toNatClampNeg &&& (nI 63))).toInt = 6 ∨ ((mI h x0 x5.toNatClampNeg &&& (nI 63))).toInt = 7 ∨ ((mI h x0 x5.toNatClampNeg &&& (nI 63))).toInt = 8 ∨ ((mI h x0 x5.toNatClampNeg &&& (nI 63))).toInt = 9 ∨ ((mI h x0 x5.toNatClampNeg &&& (nI 63))).toInt = 10 ∨ ((mI h x0 x5.toNatClampNeg &&& (nI 63))).toInt = 11 ∨ ((mI h x0 x5.toNatClampNeg &&& (nI 63))).toInt = 12 ∨ ((mI h x0 x5.toNatClampNeg &&& (nI 63))).toInt = 13 ∨ ((mI h x0 x5.toNatClampNeg &&& (nI 63))).toInt = 14 ∨ ((mI h x0 x5.toNatClampNeg &&& (nI 63))).toInt = 15 ∨ ((mI h x0 x5.toNatClampNeg &&& (nI 63))).toInt = 16 ∨ ((mI h x0 x5.toNatClampNeg &&& (nI 63))).toInt = 17 ∨ ((mI h x0 x5.toNatClampNeg &&& (nI 63))).toInt = 18 ∨ ((mI h x0 x5.toNatClampNeg &&& (nI 63))).toInt = 19 ∨ ((mI h x0 x5.toNatClampNeg &&& (nI 63))).toInt = 20 ∨ ((mI h x0 x5.toNatClampNeg &&& (nI 63))).toInt = 21 ∨ ((mI h x0 x5.toNatClampNeg &&& (nI 63))).toInt = 22 ∨ ((mI h x0 x5.toNatClampNeg &&& (nI 63))).toInt = 23 ∨ ((mI h x0 x5.toNatClampNeg &&& (nI 63))).toInt = 24 ∨ ((mI h x0 x5.toNatClampNeg &&& (nI 63))).toInt = 25 ∨ ((mI h x0 x5.toNatClampNeg &&& (nI 63))).toInt = 26 ∨ ((mI h x0 x5.toNatClampNeg &&& (nI 63))).toInt = 27 ∨ ((mI h x0 x5.toNatClampNeg &&& (nI 63))).toInt = 28 ∨ ((mI h x0 x5.toNatClampNeg &&& (nI 63))).toInt = 29 ∨ ((mI h x0 x5.toNatClampNeg &&& (nI 63))).toInt = 30 ∨ ((mI h x0 x5.toNatClampNeg &&& (nI 63))).toInt = 31 ∨ ((mI h x0 x5.toNatClampNeg &&& (nI 63))).toInt = 32 ∨ ((mI h x0 x5.toNatClampNeg &&& (nI 63))).toInt = 33 ∨ ((mI h x0 x5.toNatClampNeg &&& (nI 63))).toInt = 34 ∨ ((mI h x0 x5.toNatClampNeg &&& (nI 63))).toInt = 35 ∨ ((mI h x0 x5.toNatClampNeg &&& (nI 63))).toInt = 36 ∨ ((mI h x0 x5.toNatClampNeg &&& (nI 63))).toInt = 37 ∨ ((mI h x0 x5.toNatClampNeg &&& (nI 63))).toInt = 38 ∨ ((mI h x0 x5.toNatClampNeg &&& (nI 63))).toInt = 39 ∨ ((mI h x0 x5.toNatClampNeg &&& (nI 63))).toInt = 40 ∨ ((mI h x0 x5.toNatClampNeg &&& (nI 63))).toInt = 41 ∨ ((mI h x0 x5.toNatClampNeg &&& (nI 63))).toInt = 42 ∨ ((mI h x0 x5.toNatClampNeg &&& (nI 63))).toInt = 43 ∨ ((mI h x0 x5.toNatClampNeg &&& (nI 63))).toInt = 44 ∨ ((mI h x0 x5.toNatClampNeg &&& (nI 63))).toInt = 45 ∨ ((mI h x0 x5.toNatClampNeg &&& (nI 63))).toInt = 46 ∨ ((mI h x0 x5.toNatClampNeg &&& (nI 63))).toInt = 47 ∨ ((mI h x0 x5.toNatClampNeg &&& (nI 63))).toInt = 48 ∨ ((mI h x0 x5.toNatClampNeg &&& (nI 63))).toInt = 49 ∨ ((mI h x0 x5.toNatClampNeg &&& (nI 63))).toInt = 50 ∨ ((mI h x0 x5.toNatClampNeg &&& (nI 63))).toInt = 51 ∨ ((mI h x0 x5.toNatClampNeg &&& (nI 63))).toInt = 52 ∨ ((mI h x0 x5.toNatClampNeg &&& (nI 63))).toInt = 53 ∨ ((mI h x0 x5.toNatClampNeg &&& (nI 63))).toInt = 54 := by omega
        rcases g3 with g3 | g3 | g3 | g3 | g3 | g3 | g3 | g3 | g3 | g3 | g3 | g3 | g3 | g3 | g3 | g3 | g3 | g3 | g3 | g3 | g3 | g3 | g3 | g3 | g3 | g3 | g3 | g3 | g3 | g3 | g3 | g3 | g3 | g3 | g3 | g3 | g3 | g3 | g3 | g3 | g3 | g3 | g3 | g3 | g3 | g3 | g3 | g3 | g3 | g3 | g3 | g3 | g3 | g3 | g3
        · exact absurd (i32_of (k := (nI 0)) (g3.trans (by decide))) z0
        · exact absurd (i32_of (k := (nI 1)) (g3.trans (by decide))) z1
        · exact absurd (i32_of (k := (nI 2)) (g3.trans (by decide))) z2
        · exact absurd (i32_of (k := (nI 3)) (g3.trans (by decide))) z3
        · exact absurd (i32_of (k := (nI 4)) (g3.trans (by decide))) z4
        · exact absurd (i32_of (k := (nI 5)) (g3.trans (by decide))) z5
        · exact absurd (i32_of (k := (nI 6)) (g3.trans (by decide))) z6
        · exact absurd (i32_of (k := (nI 7)) (g3.trans (by decide))) z7
        · exact absurd (i32_of (k := (nI 8)) (g3.trans (by decide))) z8
        · exact absurd (i32_of (k := (nI 9)) (g3.trans (by decide))) z9
        · exact absurd (i32_of (k := (nI 10)) (g3.trans (by decide))) z10
        · exact absurd (i32_of (k := (nI 11)) (g3.trans (by decide))) z11
        · exact absurd (i32_of (k := (nI 12)) (g3.trans (by decide))) z12
        · exact absurd (i32_of (k := (nI 13)) (g3.trans (by decide))) z13
        · exact absurd (i32_of (k := (nI 14)) (g3.trans (by decide))) z14
        · exact absurd (i32_of (k := (nI 15)) (g3.trans (by decide))) z15
        · exact absurd (i32_of (k := (nI 16)) (g3.trans (by decide))) z16
        · exact absurd (i32_of (k := (nI 17)) (g3.trans (by decide))) z17
        · exact absurd (i32_of (k := (nI 18)) (g3.trans (by decide))) z18
        · exact absurd (i32_of (k := (nI 19)) (g3.trans (by decide))) z19
        · exact absurd (i32_of (k := (nI 20)) (g3.trans (by decide))) z20
        · exact absurd (i32_of (k := (nI 21)) (g3.trans (by decide))) z21
        · exact absurd (i32_of (k := (nI 22)) (g3.trans (by decide))) z22
        · exact absurd (i32_of (k := (nI 23)) (g3.trans (by decide))) z23
        · exact absurd (i32_of (k := (nI 24)) (g3.trans (by decide))) z24
        · exact absurd (i32_of (k := (nI 25)) (g3.trans (by decide))) z25
        · exact absurd (i32_of (k := (nI 26)) (g3.trans (by decide))) z26
        · exact absurd (i32_of (k := (nI 27)) (g3.trans (by decide))) z27
        · exact absurd (i32_of (k := (nI 28)) (g3.trans (by decide))) z28
        · exact absurd (i32_of (k := (nI 29)) (g3.trans (by decide))) z29
        · exact absurd (i32_of (k := (nI 30)) (g3.trans (by decide))) z30
        · exact absurd (i32_of (k := (nI 31)) (g3.trans (by decide))) z31
        · exact absurd (i32_of (k := (nI 32)) (g3.trans (by decide))) z32
        · exact absurd (i32_of (k := (nI 33)) (g3.trans (by decide))) z33
        · exact absurd (i32_of (k := (nI 34)) (g3.trans (by decide))) z34
        · exact absurd (i32_of (k := (nI 35)) (g3.trans (by decide))) z35
        · exact absurd (i32_of (k := (nI 36)) (g3.trans (by decide))) z36
        · exact absurd (i32_of (k := (nI 37)) (g3.trans (by decide))) z37
        · exact absurd (i32_of (k := (nI 38)) (g3.trans (by decide))) z38
        · exact absurd (i32_of (k := (nI 39)) (g3.trans (by decide))) z39
        · exact absurd (i32_of (k := (nI 40)) (g3.trans (by decide))) z40
        · exact absurd (i32_of (k := (nI 41)) (g3.trans (by decide))) z41
        · exact absurd (i32_of (k := (nI 42)) (g3.trans (by decide))) z42
        · exact absurd (i32_of (k := (nI 43)) (g3.trans (by decide))) z43
        · exact absurd (i32_of (k := (nI 44)) (g3.trans (by decide))) z44
        · exact absurd (i32_of (k := (nI 45)) (g3.trans (by decide))) z45
        · exact absurd (i32_of (k := (nI 46)) (g3.trans (by decide))) z46
        · exact absurd (i32_of (k := (nI 47)) (g3.trans (by decide))) z47
        · exact absurd (i32_of (k := (nI 48)) (g3.trans (by decide))) z48
        · exact absurd (i32_of (k := (nI 49)) (g3.trans (by decide))) z49
        · exact absurd (i32_of (k := (nI 50)) (g3.trans (by decide))) z50
        · exact absurd (i32_of (k := (nI 51)) (g3.trans (by decide))) z51
        · exact absurd (i32_of (k := (nI 52)) (g3.trans (by decide))) z52
        · exact absurd (i32_of (k := (nI 53)) (g3.trans (by decide))) z53
        · exact absurd (i32_of (k := (nI 54)) (g3.trans (by decide))) z54
      · skip
        refine X_iinc (j := 5) (v := _ + (nI 4)) (ls' := [(0, .ref _), (1, .ref _), (2, .ref _), (3, .ref _), (4, .ref _), (5, .int _)]) (show decode cL_law 2925 = .ok (.iinc 5 4, 3) by decide +kernel) rfl rfl (Nat.le_of_ble_eq_true rfl) rfl ?_
        refine X_goto (tgt := 28) (show decode cL_law 2928 = .ok (.goto (-2900), 3) by decide +kernel) (by decide) ?_
        refine X_room (rc' := (n * 33 + 33)) (rs' := (n * 8198 + 8198)) (by omega) (by omega) ?_
        exact ih _ _ _ _ _ _ _ w
set_option maxRecDepth 100000 in
set_option maxHeartbeats 4000000 in
theorem kL_law {a0 : Nat} {h : AH} {K : Int32 → AH → Prop} (w : wL_law a0 h K) : Cn mL_law (cwd mL_law) 20 17633 4224280 [.ref a0] h (KI K) T0 := by
  refine Cn_of (by decide +kernel) rfl (Nat.le_of_ble_eq_true rfl) ?_
  show X mL_law 20 (KI K) T0 17633 4224280 0 [(0, .ref a0)] [] h
  unfold wL_law at w
  refine X_new (rc' := 17632) (rs' := 4224268) nw_L_8 (show decode cL_law 0 = .ok (.new 8, 3) by decide +kernel) (Nat.le_of_ble_eq_true rfl) (Nat.le_of_ble_eq_true rfl) ?_
  have w := w _ rfl
  refine X_dup (show decode cL_law 3 = .ok (.dup, 1) by decide +kernel) rfl ?_
  obtain ⟨s794, w⟩ := w
  refine X_iV (rc' := 16977) (rs' := 4217324) (as := []) mi_L_158 (show decode cL_law 4 = .ok (.invokespecial 158, 3) by decide +kernel) (by decide) (Nat.le_of_ble_eq_true rfl) (Nat.le_of_ble_eq_true rfl) rfl rfl (Nat.le_of_ble_eq_true rfl) s794 (kX9_init w) (fun h2 w => ?_)
  refine X_astore_n (ls' := [(0, .ref _), (1, .ref _)]) (show decode cL_law 7 = .ok (.astore_n 1, 1) by decide +kernel) rfl (by decide) rfl ?_
  refine X_new (rc' := 16976) (rs' := 4217297) nw_L_159 (show decode cL_law 8 = .ok (.new 159, 3) by decide +kernel) (Nat.le_of_ble_eq_true rfl) (Nat.le_of_ble_eq_true rfl) ?_
  have w := w _ rfl
  refine X_dup (show decode cL_law 11 = .ok (.dup, 1) by decide +kernel) rfl ?_
  obtain ⟨s793, w⟩ := w
  refine X_iV (rc' := 16964) (rs' := 4213774) (as := []) mi_L_161 (show decode cL_law 12 = .ok (.invokespecial 161, 3) by decide +kernel) (by decide) (Nat.le_of_ble_eq_true rfl) (Nat.le_of_ble_eq_true rfl) rfl rfl (Nat.le_of_ble_eq_true rfl) s793 (kX10_init w) (fun h5 w => ?_)
  refine X_astore_n (ls' := [(0, .ref _), (1, .ref _), (2, .ref _)]) (show decode cL_law 15 = .ok (.astore_n 2, 1) by decide +kernel) rfl (by decide) rfl ?_
  refine X_iconst (v := (nI 1)) (show decode cL_law 16 = .ok (.iconst 1, 1) by decide +kernel) (by decide) ?_
  refine X_newa (N := 1) (rc' := 16963) (rs' := 4213773) na_1 (by decide) (show decode cL_law 17 = .ok (.newarray .long, 2) by decide +kernel) (by decide) (by decide) (Nat.le_of_ble_eq_true rfl) (Nat.le_of_ble_eq_true rfl) (Nat.le_of_ble_eq_true rfl) ?_
  have w := w _ rfl
  refine X_astore_n (ls' := [(0, .ref _), (1, .ref _), (2, .ref _), (3, .ref _)]) (show decode cL_law 19 = .ok (.astore_n 3, 1) by decide +kernel) rfl (by decide) rfl ?_
  refine X_iconst (v := (nI 1)) (show decode cL_law 20 = .ok (.iconst 1, 1) by decide +kernel) (by decide) ?_
  refine X_newa (N := 1) (rc' := 16962) (rs' := 4213772) na_2 (by decide) (show decode cL_law 21 = .ok (.newarray .double, 2) by decide +kernel) (by decide) (by decide) (Nat.le_of_ble_eq_true rfl) (Nat.le_of_ble_eq_true rfl) (Nat.le_of_ble_eq_true rfl) ?_
  have w := w _ rfl
  refine X_astore (ls' := [(0, .ref _), (1, .ref _), (2, .ref _), (3, .ref _), (4, .ref _)]) (show decode cL_law 23 = .ok (.astore 4, 2) by decide +kernel) (by decide) rfl ?_
  refine X_iconst (v := (nI 0)) (show decode cL_law 25 = .ok (.iconst 0, 1) by decide +kernel) (by decide) ?_
  refine X_istore (ls' := [(0, .ref _), (1, .ref _), (2, .ref _), (3, .ref _), (4, .ref _), (5, .int _)]) (show decode cL_law 26 = .ok (.istore 5, 2) by decide +kernel) (by decide) rfl ?_
  obtain ⟨n792, hbn792, w⟩ := w
  refine X_room (rc' := n792 * 33 + 33) (rs' := n792 * 8198 + 8198) (by omega) (by omega) ?_
  exact kL_law_L28  n792 _ _ _ _ _ _ _ w
