set_option maxRecDepth 100000 in
set_option maxHeartbeats 4000000 in
theorem kL_paths {a0 : Nat} {a1 : Int32} {a2 : Int32} {a3 : Nat} {h : AH} {K : Int32 → AH → Prop} (w : wL_paths a0 a1 a2 a3 h K) : Cn mL_paths (cwh mL_paths) 19 2 12 [.ref a0, .int a1, .int a2, .ref a3] h (KI K) T0 := by
  refine CnH_of (by decide +kernel) (Nat.le_of_ble_eq_true rfl) ?_
  show X mL_paths 19 (KI K) T0 2 12 0 [(0, .ref a0), (1, .int a1), (2, .int a2), (3, .ref a3)] [] h
  unfold wL_paths at w
  refine X_aload_n (j := 3) (show decode cL_paths 0 = .ok (.aload_n 3, 1) by decide +kernel) rfl rfl ?_
  refine X_iconst (v := (nI 0)) (show decode cL_paths 1 = .ok (.iconst 0, 1) by decide +kernel) (by decide) ?_
  refine X_aload_n (j := 0) (show decode cL_paths 2 = .ok (.aload_n 0, 1) by decide +kernel) rfl rfl ?_
  refine X_iload_n (j := 1) (show decode cL_paths 3 = .ok (.iload_n 1, 1) by decide +kernel) rfl rfl ?_
  refine X_iload_n (j := 2) (show decode cL_paths 4 = .ok (.iload_n 2, 1) by decide +kernel) rfl rfl ?_
  obtain ⟨s8, w⟩ := w
  refine X_vI (rc' := 0) (rs' := 0) (as := [.int _, .int _]) mv_L_78 (show decode cL_paths 5 = .ok (.invokevirtual 78, 3) by decide +kernel) (by decide) (Nat.le_of_ble_eq_true rfl) (Nat.le_of_ble_eq_true rfl) rfl rfl (Nat.le_of_ble_eq_true rfl) (rcvD s8 (by decide) rfl) (kX9_paths w) (fun E9 h7 hk => ?_) (fun r2 h1 w => ?_)
  · obtain ⟨rfl, w⟩ := hk
    refine XT_catch (name := "java/lang/IndexOutOfBoundsException") (i := 4) (j := 2) (ls' := []) [] (0, 10, 13, 21) [] rfl (fun z hz => absurd hz List.not_mem_nil) (by decide) (by decide) (gw_of (List.mem_of_getElem? (i := 1143) (by decide +kernel)) (by decide +kernel)) (List.mem_of_getElem? (i := 5) rfl) (Or.inr ⟨(show decode cL_paths 13 = .ok (.astore 4, 2) by decide +kernel), rfl⟩) (Nat.le_of_ble_eq_true rfl) (fun q hq => absurd hq List.not_mem_nil) ?_
    refine X_iconst (v := (nI 1)) (show decode cL_paths 15 = .ok (.iconst 1, 1) by decide +kernel) (by decide) ?_
    exact X_iret ⟨(show decode cL_paths 16 = .ok (.ireturn, 1) by decide +kernel), .int, rfl, rfl⟩ ⟨_, rfl, w⟩
  · skip
    refine X_i2l (show decode cL_paths 8 = .ok (.i2l, 1) by decide +kernel) ?_
    obtain ⟨s3, w⟩ := w
    obtain ⟨s4, w⟩ := w
    obtain ⟨s5, w⟩ := w
    refine X_last (show decode cL_paths 9 = .ok (.lastore, 1) by decide +kernel) (isA_eq s3) s4 s5 ?_
    have w := w _ rfl
    refine X_goto (tgt := 17) (show decode cL_paths 10 = .ok (.goto 7, 3) by decide +kernel) (by decide) ?_
    refine X_iconst (v := (nI 0)) (show decode cL_paths 17 = .ok (.iconst 0, 1) by decide +kernel) (by decide) ?_
    exact X_iret ⟨(show decode cL_paths 18 = .ok (.ireturn, 1) by decide +kernel), .int, rfl, rfl⟩ ⟨_, rfl, w⟩
set_option maxRecDepth 100000 in
set_option maxHeartbeats 4000000 in
theorem kL_blockOf {a0 : Nat} {a1 : Int32} {a2 : Nat} {h : AH} {K : Int32 → AH → Prop} (w : wL_blockOf a0 a1 a2 h K) : Cn mL_blockOf (cwh mL_blockOf) 10 1 6 [.ref a0, .int a1, .ref a2] h (KI K) T0 := by
  refine CnH_of (by decide +kernel) (Nat.le_of_ble_eq_true rfl) ?_
  show X mL_blockOf 10 (KI K) T0 1 6 0 [(0, .ref a0), (1, .int a1), (2, .ref a2)] [] h
  unfold wL_blockOf at w
  refine X_aload_n (j := 2) (show decode cL_blockOf 0 = .ok (.aload_n 2, 1) by decide +kernel) rfl rfl ?_
  refine X_iconst (v := (nI 0)) (show decode cL_blockOf 1 = .ok (.iconst 0, 1) by decide +kernel) (by decide) ?_
  refine X_aload_n (j := 0) (show decode cL_blockOf 2 = .ok (.aload_n 0, 1) by decide +kernel) rfl rfl ?_
  refine X_iload_n (j := 1) (show decode cL_blockOf 3 = .ok (.iload_n 1, 1) by decide +kernel) rfl rfl ?_
  obtain ⟨s8, w⟩ := w
  refine X_vI (rc' := 0) (rs' := 0) (as := [.int _]) mv_L_81 (show decode cL_blockOf 4 = .ok (.invokevirtual 81, 3) by decide +kernel) (by decide) (Nat.le_of_ble_eq_true rfl) (Nat.le_of_ble_eq_true rfl) rfl rfl (Nat.le_of_ble_eq_true rfl) (rcvD s8 (by decide) rfl) (kX9_blockOf w) (fun E9 h7 hk => ?_) (fun r2 h1 w => ?_)
  · obtain ⟨rfl, w⟩ := hk
    refine XT_catch (name := "java/util/NoSuchElementException") (i := 3) (j := 1) (ls' := []) [] (0, 9, 12, 43) [] rfl (fun z hz => absurd hz List.not_mem_nil) (by decide) (by decide) (gw_of (List.mem_of_getElem? (i := 1245) (by decide +kernel)) (by decide +kernel)) (List.mem_of_getElem? (i := 8) rfl) (Or.inl ⟨3, rfl, (show decode cL_blockOf 12 = .ok (.astore_n 3, 1) by decide +kernel), rfl⟩) (Nat.le_of_ble_eq_true rfl) (fun q hq => absurd hq List.not_mem_nil) ?_
    refine X_iconst (v := (nI 1)) (show decode cL_blockOf 13 = .ok (.iconst 1, 1) by decide +kernel) (by decide) ?_
    exact X_iret ⟨(show decode cL_blockOf 14 = .ok (.ireturn, 1) by decide +kernel), .int, rfl, rfl⟩ ⟨_, rfl, w⟩
  · skip
    refine X_i2l (show decode cL_blockOf 7 = .ok (.i2l, 1) by decide +kernel) ?_
    obtain ⟨s3, w⟩ := w
    obtain ⟨s4, w⟩ := w
    obtain ⟨s5, w⟩ := w
    refine X_last (show decode cL_blockOf 8 = .ok (.lastore, 1) by decide +kernel) (isA_eq s3) s4 s5 ?_
    have w := w _ rfl
    refine X_goto (tgt := 15) (show decode cL_blockOf 9 = .ok (.goto 6, 3) by decide +kernel) (by decide) ?_
    refine X_iconst (v := (nI 0)) (show decode cL_blockOf 15 = .ok (.iconst 0, 1) by decide +kernel) (by decide) ?_
    exact X_iret ⟨(show decode cL_blockOf 16 = .ok (.ireturn, 1) by decide +kernel), .int, rfl, rfl⟩ ⟨_, rfl, w⟩
set_option maxRecDepth 100000 in
set_option maxHeartbeats 4000000 in
theorem kL_destination {a0 : Nat} {a1 : Int32} {a2 : Nat} {h : AH} {K : Int32 → AH → Prop} (w : wL_destination a0 a1 a2 h K) : Cn mL_destination (cwh mL_destination) 10 1 6 [.ref a0, .int a1, .ref a2] h (KI K) T0 := by
  refine CnH_of (by decide +kernel) (Nat.le_of_ble_eq_true rfl) ?_
  show X mL_destination 10 (KI K) T0 1 6 0 [(0, .ref a0), (1, .int a1), (2, .ref a2)] [] h
  unfold wL_destination at w
  refine X_aload_n (j := 2) (show decode cL_destination 0 = .ok (.aload_n 2, 1) by decide +kernel) rfl rfl ?_
  refine X_iconst (v := (nI 0)) (show decode cL_destination 1 = .ok (.iconst 0, 1) by decide +kernel) (by decide) ?_
  refine X_aload_n (j := 0) (show decode cL_destination 2 = .ok (.aload_n 0, 1) by decide +kernel) rfl rfl ?_
  refine X_iload_n (j := 1) (show decode cL_destination 3 = .ok (.iload_n 1, 1) by decide +kernel) rfl rfl ?_
  obtain ⟨s8, w⟩ := w
  refine X_vI (rc' := 0) (rs' := 0) (as := [.int _]) mv_L_84 (show decode cL_destination 4 = .ok (.invokevirtual 84, 3) by decide +kernel) (by decide) (Nat.le_of_ble_eq_true rfl) (Nat.le_of_ble_eq_true rfl) rfl rfl (Nat.le_of_ble_eq_true rfl) (rcvD s8 (by decide) rfl) (kX9_destination w) (fun E9 h7 hk => ?_) (fun r2 h1 w => ?_)
  · obtain ⟨rfl, w⟩ := hk
    refine XT_catch (name := "java/util/NoSuchElementException") (i := 3) (j := 1) (ls' := []) [] (0, 9, 12, 43) [] rfl (fun z hz => absurd hz List.not_mem_nil) (by decide) (by decide) (gw_of (List.mem_of_getElem? (i := 1245) (by decide +kernel)) (by decide +kernel)) (List.mem_of_getElem? (i := 8) rfl) (Or.inl ⟨3, rfl, (show decode cL_destination 12 = .ok (.astore_n 3, 1) by decide +kernel), rfl⟩) (Nat.le_of_ble_eq_true rfl) (fun q hq => absurd hq List.not_mem_nil) ?_
    refine X_iconst (v := (nI 1)) (show decode cL_destination 13 = .ok (.iconst 1, 1) by decide +kernel) (by decide) ?_
    exact X_iret ⟨(show decode cL_destination 14 = .ok (.ireturn, 1) by decide +kernel), .int, rfl, rfl⟩ ⟨_, rfl, w⟩
  · skip
    refine X_i2l (show decode cL_destination 7 = .ok (.i2l, 1) by decide +kernel) ?_
    obtain ⟨s3, w⟩ := w
    obtain ⟨s4, w⟩ := w
    obtain ⟨s5, w⟩ := w
    refine X_last (show decode cL_destination 8 = .ok (.lastore, 1) by decide +kernel) (isA_eq s3) s4 s5 ?_
    have w := w _ rfl
    refine X_goto (tgt := 15) (show decode cL_destination 9 = .ok (.goto 6, 3) by decide +kernel) (by decide) ?_
    refine X_iconst (v := (nI 0)) (show decode cL_destination 15 = .ok (.iconst 0, 1) by decide +kernel) (by decide) ?_
    exact X_iret ⟨(show decode cL_destination 16 = .ok (.ireturn, 1) by decide +kernel), .int, rfl, rfl⟩ ⟨_, rfl, w⟩
set_option maxRecDepth 100000 in
set_option maxHeartbeats 4000000 in
theorem kL_hasRoute_J15 {K : Int32 → AH → Prop}   (y0 : Nat) (y1 : Int32) (y2 : Int64) (h : AH) (w : wL_hasRoute_J15 K  y0 y1 y2 h) : X mL_hasRoute 10 (KI K) T0 0 0 15 [] [.long y2, .int y1, .ref y0] h := by
  unfold wL_hasRoute_J15 at w
  obtain ⟨s4, w⟩ := w
  obtain ⟨s5, w⟩ := w
  obtain ⟨s6, w⟩ := w
  refine X_last (show decode cL_hasRoute 15 = .ok (.lastore, 1) by decide +kernel) (isA_eq s4) s5 s6 ?_
  have w := w _ rfl
  refine X_goto (tgt := 22) (show decode cL_hasRoute 16 = .ok (.goto 6, 3) by decide +kernel) (by decide) ?_
  refine X_iconst (v := (nI 0)) (show decode cL_hasRoute 22 = .ok (.iconst 0, 1) by decide +kernel) (by decide) ?_
  exact X_iret ⟨(show decode cL_hasRoute 23 = .ok (.ireturn, 1) by decide +kernel), .int, rfl, rfl⟩ ⟨_, rfl, w⟩
set_option maxRecDepth 100000 in
set_option maxHeartbeats 4000000 in
theorem kL_hasRoute {a0 : Nat} {a1 : Int32} {a2 : Nat} {h : AH} {K : Int32 → AH → Prop} (w : wL_hasRoute a0 a1 a2 h K) : Cn mL_hasRoute (cwh mL_hasRoute) 10 1 6 [.ref a0, .int a1, .ref a2] h (KI K) T0 := by
  refine CnH_of (by decide +kernel) (Nat.le_of_ble_eq_true rfl) ?_
  show X mL_hasRoute 10 (KI K) T0 1 6 0 [(0, .ref a0), (1, .int a1), (2, .ref a2)] [] h
  unfold wL_hasRoute at w
  refine X_aload_n (j := 2) (show decode cL_hasRoute 0 = .ok (.aload_n 2, 1) by decide +kernel) rfl rfl ?_
  refine X_iconst (v := (nI 0)) (show decode cL_hasRoute 1 = .ok (.iconst 0, 1) by decide +kernel) (by decide) ?_
  refine X_aload_n (j := 0) (show decode cL_hasRoute 2 = .ok (.aload_n 0, 1) by decide +kernel) rfl rfl ?_
  refine X_iload_n (j := 1) (show decode cL_hasRoute 3 = .ok (.iload_n 1, 1) by decide +kernel) rfl rfl ?_
  obtain ⟨s9, w⟩ := w
  refine X_vI (rc' := 0) (rs' := 0) (as := [.int _]) mv_L_87 (show decode cL_hasRoute 4 = .ok (.invokevirtual 87, 3) by decide +kernel) (by decide) (Nat.le_of_ble_eq_true rfl) (Nat.le_of_ble_eq_true rfl) rfl rfl (Nat.le_of_ble_eq_true rfl) (rcvD s9 (by decide) rfl) (kX9_hasRoute w) (fun E9 h8 hk => ?_) (fun r2 h1 w => ?_)
  · obtain ⟨rfl, w⟩ := hk
    refine XT_catch (name := "java/util/NoSuchElementException") (i := 3) (j := 1) (ls' := []) [] (0, 16, 19, 43) [] rfl (fun z hz => absurd hz List.not_mem_nil) (by decide) (by decide) (gw_of (List.mem_of_getElem? (i := 1245) (by decide +kernel)) (by decide +kernel)) (List.mem_of_getElem? (i := 8) rfl) (Or.inl ⟨3, rfl, (show decode cL_hasRoute 19 = .ok (.astore_n 3, 1) by decide +kernel), rfl⟩) (Nat.le_of_ble_eq_true rfl) (fun q hq => absurd hq List.not_mem_nil) ?_
    refine X_iconst (v := (nI 1)) (show decode cL_hasRoute 20 = .ok (.iconst 1, 1) by decide +kernel) (by decide) ?_
    exact X_iret ⟨(show decode cL_hasRoute 21 = .ok (.ireturn, 1) by decide +kernel), .int, rfl, rfl⟩ ⟨_, rfl, w⟩
  · skip
    refine X_if_eq (tgt := 14) (show decode cL_hasRoute 7 = .ok (.ifCond .eq 7, 3) by decide +kernel) (by decide) ⟨fun c3 => ?_, fun c3 => ?_⟩
    · have w := w.1 c3
      refine X_lconst (v := 0) (show decode cL_hasRoute 14 = .ok (.lconst 0, 1) by decide +kernel) (by decide) ?_
      refine X_pick (ls' := []) [] rfl ?_
      exact kL_hasRoute_J15  _ _ _ _ w
    · have w := w.2 c3
      refine X_lconst (v := 1) (show decode cL_hasRoute 10 = .ok (.lconst 1, 1) by decide +kernel) (by decide) ?_
      refine X_goto (tgt := 15) (show decode cL_hasRoute 11 = .ok (.goto 4, 3) by decide +kernel) (by decide) ?_
      refine X_pick (ls' := []) [] rfl ?_
      exact kL_hasRoute_J15  _ _ _ _ w
set_option maxRecDepth 100000 in
set_option maxHeartbeats 4000000 in
theorem kL_isClear_J15 {K : Int32 → AH → Prop}   (y0 : Nat) (y1 : Int32) (y2 : Int64) (h : AH) (w : wL_isClear_J15 K  y0 y1 y2 h) : X mL_isClear 10 (KI K) T0 0 0 15 [] [.long y2, .int y1, .ref y0] h := by
  unfold wL_isClear_J15 at w
  obtain ⟨s4, w⟩ := w
  obtain ⟨s5, w⟩ := w
  obtain ⟨s6, w⟩ := w
  refine X_last (show decode cL_isClear 15 = .ok (.lastore, 1) by decide +kernel) (isA_eq s4) s5 s6 ?_
  have w := w _ rfl
  refine X_goto (tgt := 22) (show decode cL_isClear 16 = .ok (.goto 6, 3) by decide +kernel) (by decide) ?_
  refine X_iconst (v := (nI 0)) (show decode cL_isClear 22 = .ok (.iconst 0, 1) by decide +kernel) (by decide) ?_
  exact X_iret ⟨(show decode cL_isClear 23 = .ok (.ireturn, 1) by decide +kernel), .int, rfl, rfl⟩ ⟨_, rfl, w⟩
set_option maxRecDepth 100000 in
set_option maxHeartbeats 4000000 in
theorem kL_isClear {a0 : Nat} {a1 : Int32} {a2 : Nat} {h : AH} {K : Int32 → AH → Prop} (w : wL_isClear a0 a1 a2 h K) : Cn mL_isClear (cwh mL_isClear) 10 1 6 [.ref a0, .int a1, .ref a2] h (KI K) T0 := by
  refine CnH_of (by decide +kernel) (Nat.le_of_ble_eq_true rfl) ?_
  show X mL_isClear 10 (KI K) T0 1 6 0 [(0, .ref a0), (1, .int a1), (2, .ref a2)] [] h
  unfold wL_isClear at w
  refine X_aload_n (j := 2) (show decode cL_isClear 0 = .ok (.aload_n 2, 1) by decide +kernel) rfl rfl ?_
  refine X_iconst (v := (nI 0)) (show decode cL_isClear 1 = .ok (.iconst 0, 1) by decide +kernel) (by decide) ?_
  refine X_aload_n (j := 0) (show decode cL_isClear 2 = .ok (.aload_n 0, 1) by decide +kernel) rfl rfl ?_
  refine X_iload_n (j := 1) (show decode cL_isClear 3 = .ok (.iload_n 1, 1) by decide +kernel) rfl rfl ?_
  obtain ⟨s9, w⟩ := w
  refine X_vI (rc' := 0) (rs' := 0) (as := [.int _]) mv_L_90 (show decode cL_isClear 4 = .ok (.invokevirtual 90, 3) by decide +kernel) (by decide) (Nat.le_of_ble_eq_true rfl) (Nat.le_of_ble_eq_true rfl) rfl rfl (Nat.le_of_ble_eq_true rfl) (rcvD s9 (by decide) rfl) (kX9_isClear w) (fun E9 h8 hk => ?_) (fun r2 h1 w => ?_)
  · obtain ⟨rfl, w⟩ := hk
    refine XT_catch (name := "java/util/NoSuchElementException") (i := 3) (j := 1) (ls' := []) [] (0, 16, 19, 43) [] rfl (fun z hz => absurd hz List.not_mem_nil) (by decide) (by decide) (gw_of (List.mem_of_getElem? (i := 1245) (by decide +kernel)) (by decide +kernel)) (List.mem_of_getElem? (i := 8) rfl) (Or.inl ⟨3, rfl, (show decode cL_isClear 19 = .ok (.astore_n 3, 1) by decide +kernel), rfl⟩) (Nat.le_of_ble_eq_true rfl) (fun q hq => absurd hq List.not_mem_nil) ?_
    refine X_iconst (v := (nI 1)) (show decode cL_isClear 20 = .ok (.iconst 1, 1) by decide +kernel) (by decide) ?_
    exact X_iret ⟨(show decode cL_isClear 21 = .ok (.ireturn, 1) by decide +kernel), .int, rfl, rfl⟩ ⟨_, rfl, w⟩
  · skip
    refine X_if_eq (tgt := 14) (show decode cL_isClear 7 = .ok (.ifCond .eq 7, 3) by decide +kernel) (by decide) ⟨fun c3 => ?_, fun c3 => ?_⟩
    · have w := w.1 c3
      refine X_lconst (v := 0) (show decode cL_isClear 14 = .ok (.lconst 0, 1) by decide +kernel) (by decide) ?_
      refine X_pick (ls' := []) [] rfl ?_
      exact kL_isClear_J15  _ _ _ _ w
    · have w := w.2 c3
      refine X_lconst (v := 1) (show decode cL_isClear 10 = .ok (.lconst 1, 1) by decide +kernel) (by decide) ?_
      refine X_goto (tgt := 15) (show decode cL_isClear 11 = .ok (.goto 4, 3) by decide +kernel) (by decide) ?_
      refine X_pick (ls' := []) [] rfl ?_
      exact kL_isClear_J15  _ _ _ _ w
set_option maxRecDepth 100000 in
set_option maxHeartbeats 4000000 in
theorem kL_minutesUntilNext {a0 : Nat} {a1 : Int32} {a2 : Nat} {h : AH} {K : Int32 → AH → Prop} (w : wL_minutesUntilNext a0 a1 a2 h K) : Cn mL_minutesUntilNext (cwh mL_minutesUntilNext) 11 2 12 [.ref a0, .int a1, .ref a2] h (KI K) T0 := by
  refine CnH_of (by decide +kernel) (Nat.le_of_ble_eq_true rfl) ?_
  show X mL_minutesUntilNext 11 (KI K) T0 2 12 0 [(0, .ref a0), (1, .int a1), (2, .ref a2)] [] h
  unfold wL_minutesUntilNext at w
  refine X_aload_n (j := 2) (show decode cL_minutesUntilNext 0 = .ok (.aload_n 2, 1) by decide +kernel) rfl rfl ?_
  refine X_iconst (v := (nI 0)) (show decode cL_minutesUntilNext 1 = .ok (.iconst 0, 1) by decide +kernel) (by decide) ?_
  refine X_aload_n (j := 0) (show decode cL_minutesUntilNext 2 = .ok (.aload_n 0, 1) by decide +kernel) rfl rfl ?_
  refine X_iload_n (j := 1) (show decode cL_minutesUntilNext 3 = .ok (.iload_n 1, 1) by decide +kernel) rfl rfl ?_
  obtain ⟨s8, w⟩ := w
  refine X_vI (rc' := 0) (rs' := 0) (as := [.int _]) mv_L_93 (show decode cL_minutesUntilNext 4 = .ok (.invokevirtual 93, 3) by decide +kernel) (by decide) (Nat.le_of_ble_eq_true rfl) (Nat.le_of_ble_eq_true rfl) rfl rfl (Nat.le_of_ble_eq_true rfl) (rcvD s8 (by decide) rfl) (kX9_minutesUntilNext w) (fun E9 h7 hk => ?_) (fun r2 h1 w => ?_)
  · obtain ⟨rfl, w⟩ := hk
    refine XT_catch (name := "java/util/NoSuchElementException") (i := 3) (j := 1) (ls' := []) [] (0, 9, 12, 43) [] rfl (fun z hz => absurd hz List.not_mem_nil) (by decide) (by decide) (gw_of (List.mem_of_getElem? (i := 1245) (by decide +kernel)) (by decide +kernel)) (List.mem_of_getElem? (i := 8) rfl) (Or.inl ⟨3, rfl, (show decode cL_minutesUntilNext 12 = .ok (.astore_n 3, 1) by decide +kernel), rfl⟩) (Nat.le_of_ble_eq_true rfl) (fun q hq => absurd hq List.not_mem_nil) ?_
    refine X_iconst (v := (nI 1)) (show decode cL_minutesUntilNext 13 = .ok (.iconst 1, 1) by decide +kernel) (by decide) ?_
    exact X_iret ⟨(show decode cL_minutesUntilNext 14 = .ok (.ireturn, 1) by decide +kernel), .int, rfl, rfl⟩ ⟨_, rfl, w⟩
  · skip
    refine X_i2l (show decode cL_minutesUntilNext 7 = .ok (.i2l, 1) by decide +kernel) ?_
    obtain ⟨s3, w⟩ := w
    obtain ⟨s4, w⟩ := w
    obtain ⟨s5, w⟩ := w
    refine X_last (show decode cL_minutesUntilNext 8 = .ok (.lastore, 1) by decide +kernel) (isA_eq s3) s4 s5 ?_
    have w := w _ rfl
    refine X_goto (tgt := 15) (show decode cL_minutesUntilNext 9 = .ok (.goto 6, 3) by decide +kernel) (by decide) ?_
    refine X_iconst (v := (nI 0)) (show decode cL_minutesUntilNext 15 = .ok (.iconst 0, 1) by decide +kernel) (by decide) ?_
    exact X_iret ⟨(show decode cL_minutesUntilNext 16 = .ok (.ireturn, 1) by decide +kernel), .int, rfl, rfl⟩ ⟨_, rfl, w⟩
set_option maxRecDepth 100000 in
set_option maxHeartbeats 4000000 in
theorem kL_minutesUntilArrival {a0 : Nat} {a1 : Int32} {a2 : Nat} {h : AH} {K : Int32 → AH → Prop} (w : wL_minutesUntilArrival a0 a1 a2 h K) : Cn mL_minutesUntilArrival (cwh mL_minutesUntilArrival) 11 2 12 [.ref a0, .int a1, .ref a2] h (KI K) T0 := by
  refine CnH_of (by decide +kernel) (Nat.le_of_ble_eq_true rfl) ?_
  show X mL_minutesUntilArrival 11 (KI K) T0 2 12 0 [(0, .ref a0), (1, .int a1), (2, .ref a2)] [] h
  unfold wL_minutesUntilArrival at w
  refine X_aload_n (j := 2) (show decode cL_minutesUntilArrival 0 = .ok (.aload_n 2, 1) by decide +kernel) rfl rfl ?_
  refine X_iconst (v := (nI 0)) (show decode cL_minutesUntilArrival 1 = .ok (.iconst 0, 1) by decide +kernel) (by decide) ?_
  refine X_aload_n (j := 0) (show decode cL_minutesUntilArrival 2 = .ok (.aload_n 0, 1) by decide +kernel) rfl rfl ?_
  refine X_iload_n (j := 1) (show decode cL_minutesUntilArrival 3 = .ok (.iload_n 1, 1) by decide +kernel) rfl rfl ?_
  obtain ⟨s8, w⟩ := w
  refine X_vI (rc' := 0) (rs' := 0) (as := [.int _]) mv_L_96 (show decode cL_minutesUntilArrival 4 = .ok (.invokevirtual 96, 3) by decide +kernel) (by decide) (Nat.le_of_ble_eq_true rfl) (Nat.le_of_ble_eq_true rfl) rfl rfl (Nat.le_of_ble_eq_true rfl) (rcvD s8 (by decide) rfl) (kX9_minutesUntilArrival w) (fun E9 h7 hk => ?_) (fun r2 h1 w => ?_)
  · obtain ⟨rfl, w⟩ := hk
    refine XT_catch (name := "java/util/NoSuchElementException") (i := 3) (j := 1) (ls' := []) [] (0, 9, 12, 43) [] rfl (fun z hz => absurd hz List.not_mem_nil) (by decide) (by decide) (gw_of (List.mem_of_getElem? (i := 1245) (by decide +kernel)) (by decide +kernel)) (List.mem_of_getElem? (i := 8) rfl) (Or.inl ⟨3, rfl, (show decode cL_minutesUntilArrival 12 = .ok (.astore_n 3, 1) by decide +kernel), rfl⟩) (Nat.le_of_ble_eq_true rfl) (fun q hq => absurd hq List.not_mem_nil) ?_
    refine X_iconst (v := (nI 1)) (show decode cL_minutesUntilArrival 13 = .ok (.iconst 1, 1) by decide +kernel) (by decide) ?_
    exact X_iret ⟨(show decode cL_minutesUntilArrival 14 = .ok (.ireturn, 1) by decide +kernel), .int, rfl, rfl⟩ ⟨_, rfl, w⟩
  · skip
    refine X_i2l (show decode cL_minutesUntilArrival 7 = .ok (.i2l, 1) by decide +kernel) ?_
    obtain ⟨s3, w⟩ := w
    obtain ⟨s4, w⟩ := w
    obtain ⟨s5, w⟩ := w
    refine X_last (show decode cL_minutesUntilArrival 8 = .ok (.lastore, 1) by decide +kernel) (isA_eq s3) s4 s5 ?_
    have w := w _ rfl
    refine X_goto (tgt := 15) (show decode cL_minutesUntilArrival 9 = .ok (.goto 6, 3) by decide +kernel) (by decide) ?_
    refine X_iconst (v := (nI 0)) (show decode cL_minutesUntilArrival 15 = .ok (.iconst 0, 1) by decide +kernel) (by decide) ?_
    exact X_iret ⟨(show decode cL_minutesUntilArrival 16 = .ok (.ireturn, 1) by decide +kernel), .int, rfl, rfl⟩ ⟨_, rfl, w⟩
set_option maxRecDepth 100000 in
set_option maxHeartbeats 4000000 in
theorem kL_minutesUntilArrivalByPassing {a0 : Nat} {a1 : Int32} {a2 : Nat} {h : AH} {K : Int32 → AH → Prop} (w : wL_minutesUntilArrivalByPassing a0 a1 a2 h K) : Cn mL_minutesUntilArrivalByPassing (cwh mL_minutesUntilArrivalByPassing) 11 2 12 [.ref a0, .int a1, .ref a2] h (KI K) T0 := by
  refine CnH_of (by decide +kernel) (Nat.le_of_ble_eq_true rfl) ?_
  show X mL_minutesUntilArrivalByPassing 11 (KI K) T0 2 12 0 [(0, .ref a0), (1, .int a1), (2, .ref a2)] [] h
  unfold wL_minutesUntilArrivalByPassing at w
  refine X_aload_n (j := 2) (show decode cL_minutesUntilArrivalByPassing 0 = .ok (.aload_n 2, 1) by decide +kernel) rfl rfl ?_
  refine X_iconst (v := (nI 0)) (show decode cL_minutesUntilArrivalByPassing 1 = .ok (.iconst 0, 1) by decide +kernel) (by decide) ?_
  refine X_aload_n (j := 0) (show decode cL_minutesUntilArrivalByPassing 2 = .ok (.aload_n 0, 1) by decide +kernel) rfl rfl ?_
  refine X_iload_n (j := 1) (show decode cL_minutesUntilArrivalByPassing 3 = .ok (.iload_n 1, 1) by decide +kernel) rfl rfl ?_
  obtain ⟨s8, w⟩ := w
  refine X_vI (rc' := 0) (rs' := 0) (as := [.int _]) mv_L_99 (show decode cL_minutesUntilArrivalByPassing 4 = .ok (.invokevirtual 99, 3) by decide +kernel) (by decide) (Nat.le_of_ble_eq_true rfl) (Nat.le_of_ble_eq_true rfl) rfl rfl (Nat.le_of_ble_eq_true rfl) (rcvD s8 (by decide) rfl) (kX9_minutesUntilArrivalByPassing w) (fun E9 h7 hk => ?_) (fun r2 h1 w => ?_)
  · obtain ⟨rfl, w⟩ := hk
    refine XT_catch (name := "java/util/NoSuchElementException") (i := 3) (j := 1) (ls' := []) [] (0, 9, 12, 43) [] rfl (fun z hz => absurd hz List.not_mem_nil) (by decide) (by decide) (gw_of (List.mem_of_getElem? (i := 1245) (by decide +kernel)) (by decide +kernel)) (List.mem_of_getElem? (i := 8) rfl) (Or.inl ⟨3, rfl, (show decode cL_minutesUntilArrivalByPassing 12 = .ok (.astore_n 3, 1) by decide +kernel), rfl⟩) (Nat.le_of_ble_eq_true rfl) (fun q hq => absurd hq List.not_mem_nil) ?_
    refine X_iconst (v := (nI 1)) (show decode cL_minutesUntilArrivalByPassing 13 = .ok (.iconst 1, 1) by decide +kernel) (by decide) ?_
    exact X_iret ⟨(show decode cL_minutesUntilArrivalByPassing 14 = .ok (.ireturn, 1) by decide +kernel), .int, rfl, rfl⟩ ⟨_, rfl, w⟩
  · skip
    refine X_i2l (show decode cL_minutesUntilArrivalByPassing 7 = .ok (.i2l, 1) by decide +kernel) ?_
    obtain ⟨s3, w⟩ := w
    obtain ⟨s4, w⟩ := w
    obtain ⟨s5, w⟩ := w
    refine X_last (show decode cL_minutesUntilArrivalByPassing 8 = .ok (.lastore, 1) by decide +kernel) (isA_eq s3) s4 s5 ?_
    have w := w _ rfl
    refine X_goto (tgt := 15) (show decode cL_minutesUntilArrivalByPassing 9 = .ok (.goto 6, 3) by decide +kernel) (by decide) ?_
    refine X_iconst (v := (nI 0)) (show decode cL_minutesUntilArrivalByPassing 15 = .ok (.iconst 0, 1) by decide +kernel) (by decide) ?_
    exact X_iret ⟨(show decode cL_minutesUntilArrivalByPassing 16 = .ok (.ireturn, 1) by decide +kernel), .int, rfl, rfl⟩ ⟨_, rfl, w⟩
set_option maxRecDepth 100000 in
set_option maxHeartbeats 4000000 in
theorem kL_delay {a0 : Nat} {a1 : Int32} {a2 : Nat} {h : AH} {K : Int32 → AH → Prop} (w : wL_delay a0 a1 a2 h K) : Cn mL_delay (cwh mL_delay) 10 1 6 [.ref a0, .int a1, .ref a2] h (KI K) T0 := by
  refine CnH_of (by decide +kernel) (Nat.le_of_ble_eq_true rfl) ?_
  show X mL_delay 10 (KI K) T0 1 6 0 [(0, .ref a0), (1, .int a1), (2, .ref a2)] [] h
  unfold wL_delay at w
  refine X_aload_n (j := 2) (show decode cL_delay 0 = .ok (.aload_n 2, 1) by decide +kernel) rfl rfl ?_
  refine X_iconst (v := (nI 0)) (show decode cL_delay 1 = .ok (.iconst 0, 1) by decide +kernel) (by decide) ?_
  refine X_aload_n (j := 0) (show decode cL_delay 2 = .ok (.aload_n 0, 1) by decide +kernel) rfl rfl ?_
  refine X_iload_n (j := 1) (show decode cL_delay 3 = .ok (.iload_n 1, 1) by decide +kernel) rfl rfl ?_
  obtain ⟨s8, w⟩ := w
  refine X_vI (rc' := 0) (rs' := 0) (as := [.int _]) mv_L_102 (show decode cL_delay 4 = .ok (.invokevirtual 102, 3) by decide +kernel) (by decide) (Nat.le_of_ble_eq_true rfl) (Nat.le_of_ble_eq_true rfl) rfl rfl (Nat.le_of_ble_eq_true rfl) (rcvD s8 (by decide) rfl) (kX9_delay w) (fun E9 h7 hk => ?_) (fun r2 h1 w => ?_)
  · obtain ⟨rfl, w⟩ := hk
    refine XT_catch (name := "java/util/NoSuchElementException") (i := 3) (j := 1) (ls' := []) [] (0, 9, 12, 43) [] rfl (fun z hz => absurd hz List.not_mem_nil) (by decide) (by decide) (gw_of (List.mem_of_getElem? (i := 1245) (by decide +kernel)) (by decide +kernel)) (List.mem_of_getElem? (i := 8) rfl) (Or.inl ⟨3, rfl, (show decode cL_delay 12 = .ok (.astore_n 3, 1) by decide +kernel), rfl⟩) (Nat.le_of_ble_eq_true rfl) (fun q hq => absurd hq List.not_mem_nil) ?_
    refine X_iconst (v := (nI 1)) (show decode cL_delay 13 = .ok (.iconst 1, 1) by decide +kernel) (by decide) ?_
    exact X_iret ⟨(show decode cL_delay 14 = .ok (.ireturn, 1) by decide +kernel), .int, rfl, rfl⟩ ⟨_, rfl, w⟩
  · skip
    refine X_i2l (show decode cL_delay 7 = .ok (.i2l, 1) by decide +kernel) ?_
    obtain ⟨s3, w⟩ := w
    obtain ⟨s4, w⟩ := w
    obtain ⟨s5, w⟩ := w
    refine X_last (show decode cL_delay 8 = .ok (.lastore, 1) by decide +kernel) (isA_eq s3) s4 s5 ?_
    have w := w _ rfl
    refine X_goto (tgt := 15) (show decode cL_delay 9 = .ok (.goto 6, 3) by decide +kernel) (by decide) ?_
    refine X_iconst (v := (nI 0)) (show decode cL_delay 15 = .ok (.iconst 0, 1) by decide +kernel) (by decide) ?_
    exact X_iret ⟨(show decode cL_delay 16 = .ok (.ireturn, 1) by decide +kernel), .int, rfl, rfl⟩ ⟨_, rfl, w⟩
set_option maxRecDepth 100000 in
set_option maxHeartbeats 4000000 in
theorem kL_queued {a0 : Nat} {a1 : Int32} {a2 : Nat} {h : AH} {K : Int32 → AH → Prop} (w : wL_queued a0 a1 a2 h K) : Cn mL_queued (cwh mL_queued) 9 1 6 [.ref a0, .int a1, .ref a2] h (KI K) T0 := by
  refine CnH_of (by decide +kernel) (Nat.le_of_ble_eq_true rfl) ?_
  show X mL_queued 9 (KI K) T0 1 6 0 [(0, .ref a0), (1, .int a1), (2, .ref a2)] [] h
  unfold wL_queued at w
  refine X_aload_n (j := 2) (show decode cL_queued 0 = .ok (.aload_n 2, 1) by decide +kernel) rfl rfl ?_
  refine X_iconst (v := (nI 0)) (show decode cL_queued 1 = .ok (.iconst 0, 1) by decide +kernel) (by decide) ?_
  refine X_aload_n (j := 0) (show decode cL_queued 2 = .ok (.aload_n 0, 1) by decide +kernel) rfl rfl ?_
  refine X_iload_n (j := 1) (show decode cL_queued 3 = .ok (.iload_n 1, 1) by decide +kernel) rfl rfl ?_
  obtain ⟨s8, w⟩ := w
  refine X_vI (rc' := 0) (rs' := 0) (as := [.int _]) mv_L_105 (show decode cL_queued 4 = .ok (.invokevirtual 105, 3) by decide +kernel) (by decide) (Nat.le_of_ble_eq_true rfl) (Nat.le_of_ble_eq_true rfl) rfl rfl (Nat.le_of_ble_eq_true rfl) (rcvD s8 (by decide) rfl) (kX9_queued w) (fun E9 h7 hk => ?_) (fun r2 h1 w => ?_)
  · obtain ⟨rfl, w⟩ := hk
    refine XT_catch (name := "java/util/NoSuchElementException") (i := 3) (j := 1) (ls' := []) [] (0, 9, 12, 43) [] rfl (fun z hz => absurd hz List.not_mem_nil) (by decide) (by decide) (gw_of (List.mem_of_getElem? (i := 1245) (by decide +kernel)) (by decide +kernel)) (List.mem_of_getElem? (i := 8) rfl) (Or.inl ⟨3, rfl, (show decode cL_queued 12 = .ok (.astore_n 3, 1) by decide +kernel), rfl⟩) (Nat.le_of_ble_eq_true rfl) (fun q hq => absurd hq List.not_mem_nil) ?_
    refine X_iconst (v := (nI 1)) (show decode cL_queued 13 = .ok (.iconst 1, 1) by decide +kernel) (by decide) ?_
    exact X_iret ⟨(show decode cL_queued 14 = .ok (.ireturn, 1) by decide +kernel), .int, rfl, rfl⟩ ⟨_, rfl, w⟩
  · skip
    refine X_i2l (show decode cL_queued 7 = .ok (.i2l, 1) by decide +kernel) ?_
    obtain ⟨s3, w⟩ := w
    obtain ⟨s4, w⟩ := w
    obtain ⟨s5, w⟩ := w
    refine X_last (show decode cL_queued 8 = .ok (.lastore, 1) by decide +kernel) (isA_eq s3) s4 s5 ?_
    have w := w _ rfl
    refine X_goto (tgt := 15) (show decode cL_queued 9 = .ok (.goto 6, 3) by decide +kernel) (by decide) ?_
    refine X_iconst (v := (nI 0)) (show decode cL_queued 15 = .ok (.iconst 0, 1) by decide +kernel) (by decide) ?_
    exact X_iret ⟨(show decode cL_queued 16 = .ok (.ireturn, 1) by decide +kernel), .int, rfl, rfl⟩ ⟨_, rfl, w⟩
set_option maxRecDepth 100000 in
set_option maxHeartbeats 4000000 in
theorem kL_waitsFor_J16 {K : Int32 → AH → Prop}   (y0 : Nat) (y1 : Int32) (y2 : Int64) (h : AH) (w : wL_waitsFor_J16 K  y0 y1 y2 h) : X mL_waitsFor 10 (KI K) T0 0 0 16 [] [.long y2, .int y1, .ref y0] h := by
  unfold wL_waitsFor_J16 at w
  obtain ⟨s4, w⟩ := w
  obtain ⟨s5, w⟩ := w
  obtain ⟨s6, w⟩ := w
  refine X_last (show decode cL_waitsFor 16 = .ok (.lastore, 1) by decide +kernel) (isA_eq s4) s5 s6 ?_
  have w := w _ rfl
  refine X_goto (tgt := 24) (show decode cL_waitsFor 17 = .ok (.goto 7, 3) by decide +kernel) (by decide) ?_
  refine X_iconst (v := (nI 0)) (show decode cL_waitsFor 24 = .ok (.iconst 0, 1) by decide +kernel) (by decide) ?_
  exact X_iret ⟨(show decode cL_waitsFor 25 = .ok (.ireturn, 1) by decide +kernel), .int, rfl, rfl⟩ ⟨_, rfl, w⟩
set_option maxRecDepth 100000 in
set_option maxHeartbeats 4000000 in
theorem kL_waitsFor {a0 : Nat} {a1 : Int32} {a2 : Int32} {a3 : Nat} {h : AH} {K : Int32 → AH → Prop} (w : wL_waitsFor a0 a1 a2 a3 h K) : Cn mL_waitsFor (cwh mL_waitsFor) 10 2 12 [.ref a0, .int a1, .int a2, .ref a3] h (KI K) T0 := by
  refine CnH_of (by decide +kernel) (Nat.le_of_ble_eq_true rfl) ?_
  show X mL_waitsFor 10 (KI K) T0 2 12 0 [(0, .ref a0), (1, .int a1), (2, .int a2), (3, .ref a3)] [] h
  unfold wL_waitsFor at w
  refine X_aload_n (j := 3) (show decode cL_waitsFor 0 = .ok (.aload_n 3, 1) by decide +kernel) rfl rfl ?_
  refine X_iconst (v := (nI 0)) (show decode cL_waitsFor 1 = .ok (.iconst 0, 1) by decide +kernel) (by decide) ?_
  refine X_aload_n (j := 0) (show decode cL_waitsFor 2 = .ok (.aload_n 0, 1) by decide +kernel) rfl rfl ?_
  refine X_iload_n (j := 1) (show decode cL_waitsFor 3 = .ok (.iload_n 1, 1) by decide +kernel) rfl rfl ?_
  refine X_iload_n (j := 2) (show decode cL_waitsFor 4 = .ok (.iload_n 2, 1) by decide +kernel) rfl rfl ?_
  obtain ⟨s9, w⟩ := w
  refine X_vI (rc' := 0) (rs' := 0) (as := [.int _, .int _]) mv_L_108 (show decode cL_waitsFor 5 = .ok (.invokevirtual 108, 3) by decide +kernel) (by decide) (Nat.le_of_ble_eq_true rfl) (Nat.le_of_ble_eq_true rfl) rfl rfl (Nat.le_of_ble_eq_true rfl) (rcvD s9 (by decide) rfl) (kX9_waitsFor w) (fun E9 h8 hk => ?_) (fun r2 h1 w => ?_)
  · obtain ⟨rfl, w⟩ := hk
    refine XT_catch (name := "java/util/NoSuchElementException") (i := 4) (j := 2) (ls' := []) [] (0, 17, 20, 43) [] rfl (fun z hz => absurd hz List.not_mem_nil) (by decide) (by decide) (gw_of (List.mem_of_getElem? (i := 1245) (by decide +kernel)) (by decide +kernel)) (List.mem_of_getElem? (i := 8) rfl) (Or.inr ⟨(show decode cL_waitsFor 20 = .ok (.astore 4, 2) by decide +kernel), rfl⟩) (Nat.le_of_ble_eq_true rfl) (fun q hq => absurd hq List.not_mem_nil) ?_
    refine X_iconst (v := (nI 1)) (show decode cL_waitsFor 22 = .ok (.iconst 1, 1) by decide +kernel) (by decide) ?_
    exact X_iret ⟨(show decode cL_waitsFor 23 = .ok (.ireturn, 1) by decide +kernel), .int, rfl, rfl⟩ ⟨_, rfl, w⟩
  · skip
    refine X_if_eq (tgt := 15) (show decode cL_waitsFor 8 = .ok (.ifCond .eq 7, 3) by decide +kernel) (by decide) ⟨fun c3 => ?_, fun c3 => ?_⟩
    · have w := w.1 c3
      refine X_lconst (v := 0) (show decode cL_waitsFor 15 = .ok (.lconst 0, 1) by decide +kernel) (by decide) ?_
      refine X_pick (ls' := []) [] rfl ?_
      exact kL_waitsFor_J16  _ _ _ _ w
    · have w := w.2 c3
      refine X_lconst (v := 1) (show decode cL_waitsFor 11 = .ok (.lconst 1, 1) by decide +kernel) (by decide) ?_
      refine X_goto (tgt := 16) (show decode cL_waitsFor 12 = .ok (.goto 4, 3) by decide +kernel) (by decide) ?_
      refine X_pick (ls' := []) [] rfl ?_
      exact kL_waitsFor_J16  _ _ _ _ w
set_option maxRecDepth 100000 in
set_option maxHeartbeats 4000000 in
theorem kL_conflict_J16 {K : Int32 → AH → Prop}   (y0 : Nat) (y1 : Int32) (y2 : Int64) (h : AH) (w : wL_conflict_J16 K  y0 y1 y2 h) : X mL_conflict 10 (KI K) T0 0 0 16 [] [.long y2, .int y1, .ref y0] h := by
  unfold wL_conflict_J16 at w
  obtain ⟨s4, w⟩ := w
  obtain ⟨s5, w⟩ := w
  obtain ⟨s6, w⟩ := w
  refine X_last (show decode cL_conflict 16 = .ok (.lastore, 1) by decide +kernel) (isA_eq s4) s5 s6 ?_
  have w := w _ rfl
  refine X_goto (tgt := 28) (show decode cL_conflict 17 = .ok (.goto 11, 3) by decide +kernel) (by decide) ?_
  refine X_iconst (v := (nI 0)) (show decode cL_conflict 28 = .ok (.iconst 0, 1) by decide +kernel) (by decide) ?_
  exact X_iret ⟨(show decode cL_conflict 29 = .ok (.ireturn, 1) by decide +kernel), .int, rfl, rfl⟩ ⟨_, rfl, w⟩
set_option maxRecDepth 100000 in
set_option maxHeartbeats 4000000 in
theorem kL_conflict {a0 : Nat} {a1 : Int32} {a2 : Int32} {a3 : Nat} {h : AH} {K : Int32 → AH → Prop} (w : wL_conflict a0 a1 a2 a3 h K) : Cn mL_conflict (cwh mL_conflict) 10 3 18 [.ref a0, .int a1, .int a2, .ref a3] h (KI K) T0 := by
  refine CnH_of (by decide +kernel) (Nat.le_of_ble_eq_true rfl) ?_
  show X mL_conflict 10 (KI K) T0 3 18 0 [(0, .ref a0), (1, .int a1), (2, .int a2), (3, .ref a3)] [] h
  unfold wL_conflict at w
  refine X_aload_n (j := 3) (show decode cL_conflict 0 = .ok (.aload_n 3, 1) by decide +kernel) rfl rfl ?_
  refine X_iconst (v := (nI 0)) (show decode cL_conflict 1 = .ok (.iconst 0, 1) by decide +kernel) (by decide) ?_
  refine X_aload_n (j := 0) (show decode cL_conflict 2 = .ok (.aload_n 0, 1) by decide +kernel) rfl rfl ?_
  refine X_iload_n (j := 1) (show decode cL_conflict 3 = .ok (.iload_n 1, 1) by decide +kernel) rfl rfl ?_
  refine X_iload_n (j := 2) (show decode cL_conflict 4 = .ok (.iload_n 2, 1) by decide +kernel) rfl rfl ?_
  obtain ⟨s9, w⟩ := w
  refine X_vI (rc' := 0) (rs' := 0) (as := [.int _, .int _]) mv_L_112 (show decode cL_conflict 5 = .ok (.invokevirtual 112, 3) by decide +kernel) (by decide) (Nat.le_of_ble_eq_true rfl) (Nat.le_of_ble_eq_true rfl) rfl rfl (Nat.le_of_ble_eq_true rfl) (rcvD s9 (by decide) rfl) (kX9_conflict w) (fun E9 h8 hk => ?_) (fun r2 h1 w => ?_)
  · rcases hk with ⟨rfl, w⟩ | ⟨rfl, w⟩
    · skip
      refine XT_catch (name := "java/util/NoSuchElementException") (i := 4) (j := 2) (ls' := []) [] (0, 17, 20, 43) [(0, 17, 24, 13)] rfl (fun z hz => absurd hz List.not_mem_nil) (by decide) (by decide) (gw_of (List.mem_of_getElem? (i := 1245) (by decide +kernel)) (by decide +kernel)) (List.mem_of_getElem? (i := 8) rfl) (Or.inr ⟨(show decode cL_conflict 20 = .ok (.astore 4, 2) by decide +kernel), rfl⟩) (Nat.le_of_ble_eq_true rfl) (fun q hq => absurd hq List.not_mem_nil) ?_
      refine X_iconst (v := (nI 1)) (show decode cL_conflict 22 = .ok (.iconst 1, 1) by decide +kernel) (by decide) ?_
      exact X_iret ⟨(show decode cL_conflict 23 = .ok (.ireturn, 1) by decide +kernel), .int, rfl, rfl⟩ ⟨_, rfl, w⟩
    · skip
      refine XT_catch (name := "java/lang/IllegalArgumentException") (i := 4) (j := 2) (ls' := []) [(0, 17, 20, 43)] (0, 17, 24, 13) [] rfl (by
            intro z hz
            simp only [List.mem_cons, List.not_mem_nil, or_false] at hz
            rcases hz with rfl
            · exact ⟨by decide, _, gw_of (List.mem_of_getElem? (i := 1245) (by decide +kernel)) (by decide +kernel), List.mem_of_getElem? (i := 9) rfl⟩
            ) (by decide) (by decide) (gw_of (List.mem_of_getElem? (i := 1034) (by decide +kernel)) (by decide +kernel)) (List.mem_of_getElem? (i := 3) rfl) (Or.inr ⟨(show decode cL_conflict 24 = .ok (.astore 4, 2) by decide +kernel), rfl⟩) (Nat.le_of_ble_eq_true rfl) (fun q hq => absurd hq List.not_mem_nil) ?_
      refine X_iconst (v := (nI 2)) (show decode cL_conflict 26 = .ok (.iconst 2, 1) by decide +kernel) (by decide) ?_
      exact X_iret ⟨(show decode cL_conflict 27 = .ok (.ireturn, 1) by decide +kernel), .int, rfl, rfl⟩ ⟨_, rfl, w⟩
  · skip
    refine X_if_eq (tgt := 15) (show decode cL_conflict 8 = .ok (.ifCond .eq 7, 3) by decide +kernel) (by decide) ⟨fun c3 => ?_, fun c3 => ?_⟩
    · have w := w.1 c3
      refine X_lconst (v := 0) (show decode cL_conflict 15 = .ok (.lconst 0, 1) by decide +kernel) (by decide) ?_
      refine X_pick (ls' := []) [] rfl ?_
      exact kL_conflict_J16  _ _ _ _ w
    · have w := w.2 c3
      refine X_lconst (v := 1) (show decode cL_conflict 11 = .ok (.lconst 1, 1) by decide +kernel) (by decide) ?_
      refine X_goto (tgt := 16) (show decode cL_conflict 12 = .ok (.goto 4, 3) by decide +kernel) (by decide) ?_
      refine X_pick (ls' := []) [] rfl ?_
      exact kL_conflict_J16  _ _ _ _ w
set_option maxRecDepth 100000 in
set_option maxHeartbeats 4000000 in
theorem kL_refusalReason {a0 : Nat} {a1 : Nat} {h : AH} {K : Int32 → AH → Prop} (w : wL_refusalReason a0 a1 h K) : Cn mL_refusalReason (cwh mL_refusalReason) 9 1 6 [.ref a0, .ref a1] h (KI K) T0 := by
  refine CnH_of (by decide +kernel) (Nat.le_of_ble_eq_true rfl) ?_
  show X mL_refusalReason 9 (KI K) T0 1 6 0 [(0, .ref a0), (1, .ref a1)] [] h
  unfold wL_refusalReason at w
  refine X_aload_n (j := 1) (show decode cL_refusalReason 0 = .ok (.aload_n 1, 1) by decide +kernel) rfl rfl ?_
  refine X_iconst (v := (nI 0)) (show decode cL_refusalReason 1 = .ok (.iconst 0, 1) by decide +kernel) (by decide) ?_
  refine X_aload_n (j := 0) (show decode cL_refusalReason 2 = .ok (.aload_n 0, 1) by decide +kernel) rfl rfl ?_
  obtain ⟨s8, w⟩ := w
  refine X_vI (rc' := 0) (rs' := 0) (as := []) mv_L_115 (show decode cL_refusalReason 3 = .ok (.invokevirtual 115, 3) by decide +kernel) (by decide) (Nat.le_of_ble_eq_true rfl) (Nat.le_of_ble_eq_true rfl) rfl rfl (Nat.le_of_ble_eq_true rfl) (rcvD s8 (by decide) rfl) (kX9_refusalReason w) (fun E9 h7 hk => ?_) (fun r2 h1 w => ?_)
  · obtain ⟨rfl, w⟩ := hk
    refine XT_catch (name := "java/util/NoSuchElementException") (i := 2) (j := 1) (ls' := []) [] (0, 8, 11, 43) [] rfl (fun z hz => absurd hz List.not_mem_nil) (by decide) (by decide) (gw_of (List.mem_of_getElem? (i := 1245) (by decide +kernel)) (by decide +kernel)) (List.mem_of_getElem? (i := 8) rfl) (Or.inl ⟨2, rfl, (show decode cL_refusalReason 11 = .ok (.astore_n 2, 1) by decide +kernel), rfl⟩) (Nat.le_of_ble_eq_true rfl) (fun q hq => absurd hq List.not_mem_nil) ?_
    refine X_iconst (v := (nI 1)) (show decode cL_refusalReason 12 = .ok (.iconst 1, 1) by decide +kernel) (by decide) ?_
    exact X_iret ⟨(show decode cL_refusalReason 13 = .ok (.ireturn, 1) by decide +kernel), .int, rfl, rfl⟩ ⟨_, rfl, w⟩
  · skip
    refine X_i2l (show decode cL_refusalReason 6 = .ok (.i2l, 1) by decide +kernel) ?_
    obtain ⟨s3, w⟩ := w
    obtain ⟨s4, w⟩ := w
    obtain ⟨s5, w⟩ := w
    refine X_last (show decode cL_refusalReason 7 = .ok (.lastore, 1) by decide +kernel) (isA_eq s3) s4 s5 ?_
    have w := w _ rfl
    refine X_goto (tgt := 14) (show decode cL_refusalReason 8 = .ok (.goto 6, 3) by decide +kernel) (by decide) ?_
    refine X_iconst (v := (nI 0)) (show decode cL_refusalReason 14 = .ok (.iconst 0, 1) by decide +kernel) (by decide) ?_
    exact X_iret ⟨(show decode cL_refusalReason 15 = .ok (.ireturn, 1) by decide +kernel), .int, rfl, rfl⟩ ⟨_, rfl, w⟩
set_option maxRecDepth 100000 in
set_option maxHeartbeats 4000000 in
theorem kL_refusalBlock {a0 : Nat} {a1 : Nat} {h : AH} {K : Int32 → AH → Prop} (w : wL_refusalBlock a0 a1 h K) : Cn mL_refusalBlock (cwh mL_refusalBlock) 9 1 6 [.ref a0, .ref a1] h (KI K) T0 := by
  refine CnH_of (by decide +kernel) (Nat.le_of_ble_eq_true rfl) ?_
  show X mL_refusalBlock 9 (KI K) T0 1 6 0 [(0, .ref a0), (1, .ref a1)] [] h
  unfold wL_refusalBlock at w
  refine X_aload_n (j := 1) (show decode cL_refusalBlock 0 = .ok (.aload_n 1, 1) by decide +kernel) rfl rfl ?_
  refine X_iconst (v := (nI 0)) (show decode cL_refusalBlock 1 = .ok (.iconst 0, 1) by decide +kernel) (by decide) ?_
  refine X_aload_n (j := 0) (show decode cL_refusalBlock 2 = .ok (.aload_n 0, 1) by decide +kernel) rfl rfl ?_
  obtain ⟨s8, w⟩ := w
  refine X_vI (rc' := 0) (rs' := 0) (as := []) mv_L_119 (show decode cL_refusalBlock 3 = .ok (.invokevirtual 119, 3) by decide +kernel) (by decide) (Nat.le_of_ble_eq_true rfl) (Nat.le_of_ble_eq_true rfl) rfl rfl (Nat.le_of_ble_eq_true rfl) (rcvD s8 (by decide) rfl) (kX9_refusalBlock w) (fun E9 h7 hk => ?_) (fun r2 h1 w => ?_)
  · obtain ⟨rfl, w⟩ := hk
    refine XT_catch (name := "java/util/NoSuchElementException") (i := 2) (j := 1) (ls' := []) [] (0, 8, 11, 43) [] rfl (fun z hz => absurd hz List.not_mem_nil) (by decide) (by decide) (gw_of (List.mem_of_getElem? (i := 1245) (by decide +kernel)) (by decide +kernel)) (List.mem_of_getElem? (i := 8) rfl) (Or.inl ⟨2, rfl, (show decode cL_refusalBlock 11 = .ok (.astore_n 2, 1) by decide +kernel), rfl⟩) (Nat.le_of_ble_eq_true rfl) (fun q hq => absurd hq List.not_mem_nil) ?_
    refine X_iconst (v := (nI 1)) (show decode cL_refusalBlock 12 = .ok (.iconst 1, 1) by decide +kernel) (by decide) ?_
    exact X_iret ⟨(show decode cL_refusalBlock 13 = .ok (.ireturn, 1) by decide +kernel), .int, rfl, rfl⟩ ⟨_, rfl, w⟩
  · skip
    refine X_i2l (show decode cL_refusalBlock 6 = .ok (.i2l, 1) by decide +kernel) ?_
    obtain ⟨s3, w⟩ := w
    obtain ⟨s4, w⟩ := w
    obtain ⟨s5, w⟩ := w
    refine X_last (show decode cL_refusalBlock 7 = .ok (.lastore, 1) by decide +kernel) (isA_eq s3) s4 s5 ?_
    have w := w _ rfl
    refine X_goto (tgt := 14) (show decode cL_refusalBlock 8 = .ok (.goto 6, 3) by decide +kernel) (by decide) ?_
    refine X_iconst (v := (nI 0)) (show decode cL_refusalBlock 14 = .ok (.iconst 0, 1) by decide +kernel) (by decide) ?_
    exact X_iret ⟨(show decode cL_refusalBlock 15 = .ok (.ireturn, 1) by decide +kernel), .int, rfl, rfl⟩ ⟨_, rfl, w⟩
set_option maxRecDepth 100000 in
set_option maxHeartbeats 4000000 in
theorem kL_meanDelay {a0 : Nat} {a1 : Nat} {h : AH} {K : Int32 → AH → Prop} (w : wL_meanDelay a0 a1 h K) : Cn mL_meanDelay (cwh mL_meanDelay) 9 1 6 [.ref a0, .ref a1] h (KI K) T0 := by
  refine CnH_of (by decide +kernel) (Nat.le_of_ble_eq_true rfl) ?_
  show X mL_meanDelay 9 (KI K) T0 1 6 0 [(0, .ref a0), (1, .ref a1)] [] h
  unfold wL_meanDelay at w
  refine X_aload_n (j := 1) (show decode cL_meanDelay 0 = .ok (.aload_n 1, 1) by decide +kernel) rfl rfl ?_
  refine X_iconst (v := (nI 0)) (show decode cL_meanDelay 1 = .ok (.iconst 0, 1) by decide +kernel) (by decide) ?_
  refine X_aload_n (j := 0) (show decode cL_meanDelay 2 = .ok (.aload_n 0, 1) by decide +kernel) rfl rfl ?_
  obtain ⟨s8, w⟩ := w
  refine X_vD (rc' := 0) (rs' := 0) (as := []) mv_L_123 (show decode cL_meanDelay 3 = .ok (.invokevirtual 123, 3) by decide +kernel) (by decide) (Nat.le_of_ble_eq_true rfl) (Nat.le_of_ble_eq_true rfl) rfl rfl (Nat.le_of_ble_eq_true rfl) (rcvD s8 (by decide) rfl) (kX9_meanDelay w) (fun E9 h7 hk => ?_) (fun r2 h1 w => ?_)
  · obtain ⟨rfl, w⟩ := hk
    refine XT_catch (name := "java/lang/ArithmeticException") (i := 2) (j := 1) (ls' := []) [] (0, 7, 10, 127) [] rfl (fun z hz => absurd hz List.not_mem_nil) (by decide) (by decide) (gw_of (List.mem_of_getElem? (i := 1559) (by decide +kernel)) (by decide +kernel)) (List.mem_of_getElem? (i := 0) rfl) (Or.inl ⟨2, rfl, (show decode cL_meanDelay 10 = .ok (.astore_n 2, 1) by decide +kernel), rfl⟩) (Nat.le_of_ble_eq_true rfl) (fun q hq => absurd hq List.not_mem_nil) ?_
    refine X_iconst (v := (nI 1)) (show decode cL_meanDelay 11 = .ok (.iconst 1, 1) by decide +kernel) (by decide) ?_
    exact X_iret ⟨(show decode cL_meanDelay 12 = .ok (.ireturn, 1) by decide +kernel), .int, rfl, rfl⟩ ⟨_, rfl, w⟩
  · skip
    obtain ⟨s3, w⟩ := w
    obtain ⟨s4, w⟩ := w
    obtain ⟨s5, w⟩ := w
    refine X_dast (show decode cL_meanDelay 6 = .ok (.dastore, 1) by decide +kernel) (isA_eq s3) s4 s5 ?_
    have w := w _ rfl
    refine X_goto (tgt := 13) (show decode cL_meanDelay 7 = .ok (.goto 6, 3) by decide +kernel) (by decide) ?_
    refine X_iconst (v := (nI 0)) (show decode cL_meanDelay 13 = .ok (.iconst 0, 1) by decide +kernel) (by decide) ?_
    exact X_iret ⟨(show decode cL_meanDelay 14 = .ok (.ireturn, 1) by decide +kernel), .int, rfl, rfl⟩ ⟨_, rfl, w⟩
set_option maxRecDepth 100000 in
set_option maxHeartbeats 4000000 in
theorem kL_usedShare {a0 : Nat} {a1 : Nat} {h : AH} {K : Int32 → AH → Prop} (w : wL_usedShare a0 a1 h K) : Cn mL_usedShare (cwh mL_usedShare) 9 1 6 [.ref a0, .ref a1] h (KI K) T0 := by
  refine CnH_of (by decide +kernel) (Nat.le_of_ble_eq_true rfl) ?_
  show X mL_usedShare 9 (KI K) T0 1 6 0 [(0, .ref a0), (1, .ref a1)] [] h
  unfold wL_usedShare at w
  refine X_aload_n (j := 1) (show decode cL_usedShare 0 = .ok (.aload_n 1, 1) by decide +kernel) rfl rfl ?_
  refine X_iconst (v := (nI 0)) (show decode cL_usedShare 1 = .ok (.iconst 0, 1) by decide +kernel) (by decide) ?_
  refine X_aload_n (j := 0) (show decode cL_usedShare 2 = .ok (.aload_n 0, 1) by decide +kernel) rfl rfl ?_
  obtain ⟨s9, w⟩ := w
  refine X_vF (rc' := 0) (rs' := 0) (as := []) mv_L_129 (show decode cL_usedShare 3 = .ok (.invokevirtual 129, 3) by decide +kernel) (by decide) (Nat.le_of_ble_eq_true rfl) (Nat.le_of_ble_eq_true rfl) rfl rfl (Nat.le_of_ble_eq_true rfl) (rcvD s9 (by decide) rfl) (kX9_usedShare w) (fun E9 h8 hk => ?_) (fun r2 h1 w => ?_)
  · obtain ⟨rfl, w⟩ := hk
    refine XT_catch (name := "java/lang/ArithmeticException") (i := 2) (j := 1) (ls' := []) [] (0, 8, 11, 127) [] rfl (fun z hz => absurd hz List.not_mem_nil) (by decide) (by decide) (gw_of (List.mem_of_getElem? (i := 1559) (by decide +kernel)) (by decide +kernel)) (List.mem_of_getElem? (i := 0) rfl) (Or.inl ⟨2, rfl, (show decode cL_usedShare 11 = .ok (.astore_n 2, 1) by decide +kernel), rfl⟩) (Nat.le_of_ble_eq_true rfl) (fun q hq => absurd hq List.not_mem_nil) ?_
    refine X_iconst (v := (nI 1)) (show decode cL_usedShare 12 = .ok (.iconst 1, 1) by decide +kernel) (by decide) ?_
    exact X_iret ⟨(show decode cL_usedShare 13 = .ok (.ireturn, 1) by decide +kernel), .int, rfl, rfl⟩ ⟨_, rfl, w⟩
  · skip
    obtain ⟨s3, w⟩ := w
    refine X_f2d (show decode cL_usedShare 6 = .ok (.f2d, 1) by decide +kernel) s3 ?_
    obtain ⟨s4, w⟩ := w
    obtain ⟨s5, w⟩ := w
    obtain ⟨s6, w⟩ := w
    refine X_dast (show decode cL_usedShare 7 = .ok (.dastore, 1) by decide +kernel) (isA_eq s4) s5 s6 ?_
    have w := w _ rfl
    refine X_goto (tgt := 14) (show decode cL_usedShare 8 = .ok (.goto 6, 3) by decide +kernel) (by decide) ?_
    refine X_iconst (v := (nI 0)) (show decode cL_usedShare 14 = .ok (.iconst 0, 1) by decide +kernel) (by decide) ?_
    exact X_iret ⟨(show decode cL_usedShare 15 = .ok (.ireturn, 1) by decide +kernel), .int, rfl, rfl⟩ ⟨_, rfl, w⟩
set_option maxRecDepth 100000 in
set_option maxHeartbeats 4000000 in
theorem kL_writeTrain {a0 : Nat} {a1 : Int32} {a2 : Nat} {h : AH} {K : Int32 → AH → Prop} (w : wL_writeTrain a0 a1 a2 h K) : Cn mL_writeTrain (cwh mL_writeTrain) 11 33 8198 [.ref a0, .int a1, .ref a2] h (KI K) T0 := by
  refine CnH_of (by decide +kernel) (Nat.le_of_ble_eq_true rfl) ?_
  show X mL_writeTrain 11 (KI K) T0 33 8198 0 [(0, .ref a0), (1, .int a1), (2, .ref a2)] [] h
  unfold wL_writeTrain at w
  refine X_aload_n (j := 2) (show decode cL_writeTrain 0 = .ok (.aload_n 2, 1) by decide +kernel) rfl rfl ?_
  refine X_iconst (v := (nI 0)) (show decode cL_writeTrain 1 = .ok (.iconst 0, 1) by decide +kernel) (by decide) ?_
  refine X_aload_n (j := 0) (show decode cL_writeTrain 2 = .ok (.aload_n 0, 1) by decide +kernel) rfl rfl ?_
  refine X_iload_n (j := 1) (show decode cL_writeTrain 3 = .ok (.iload_n 1, 1) by decide +kernel) rfl rfl ?_
  obtain ⟨s8, w⟩ := w
  refine X_vI (rc' := 0) (rs' := 0) (as := [.int _]) mv_L_133 (show decode cL_writeTrain 4 = .ok (.invokevirtual 133, 3) by decide +kernel) (by decide) (Nat.le_of_ble_eq_true rfl) (Nat.le_of_ble_eq_true rfl) rfl rfl (Nat.le_of_ble_eq_true rfl) (rcvD s8 (by decide) rfl) (kX9_writeTrain w) (fun E9 h7 hk => ?_) (fun r2 h1 w => ?_)
  · obtain ⟨rfl, w⟩ := hk
    refine XT_catch (name := "java/util/NoSuchElementException") (i := 3) (j := 1) (ls' := []) [] (0, 9, 12, 43) [] rfl (fun z hz => absurd hz List.not_mem_nil) (by decide) (by decide) (gw_of (List.mem_of_getElem? (i := 1245) (by decide +kernel)) (by decide +kernel)) (List.mem_of_getElem? (i := 8) rfl) (Or.inl ⟨3, rfl, (show decode cL_writeTrain 12 = .ok (.astore_n 3, 1) by decide +kernel), rfl⟩) (Nat.le_of_ble_eq_true rfl) (fun q hq => absurd hq List.not_mem_nil) ?_
    refine X_iconst (v := (nI 1)) (show decode cL_writeTrain 13 = .ok (.iconst 1, 1) by decide +kernel) (by decide) ?_
    exact X_iret ⟨(show decode cL_writeTrain 14 = .ok (.ireturn, 1) by decide +kernel), .int, rfl, rfl⟩ ⟨_, rfl, w⟩
  · skip
    refine X_i2l (show decode cL_writeTrain 7 = .ok (.i2l, 1) by decide +kernel) ?_
    obtain ⟨s3, w⟩ := w
    obtain ⟨s4, w⟩ := w
    obtain ⟨s5, w⟩ := w
    refine X_last (show decode cL_writeTrain 8 = .ok (.lastore, 1) by decide +kernel) (isA_eq s3) s4 s5 ?_
    have w := w _ rfl
    refine X_goto (tgt := 15) (show decode cL_writeTrain 9 = .ok (.goto 6, 3) by decide +kernel) (by decide) ?_
    refine X_iconst (v := (nI 0)) (show decode cL_writeTrain 15 = .ok (.iconst 0, 1) by decide +kernel) (by decide) ?_
    exact X_iret ⟨(show decode cL_writeTrain 16 = .ok (.ireturn, 1) by decide +kernel), .int, rfl, rfl⟩ ⟨_, rfl, w⟩
set_option maxRecDepth 100000 in
set_option maxHeartbeats 4000000 in
theorem kL_charAt {a0 : Nat} {a1 : Int32} {a2 : Nat} {h : AH} {K : Int32 → AH → Prop} (w : wL_charAt a0 a1 a2 h K) : Cn mL_charAt (cwh mL_charAt) 9 1 6 [.ref a0, .int a1, .ref a2] h (KI K) T0 := by
  refine CnH_of (by decide +kernel) (Nat.le_of_ble_eq_true rfl) ?_
  show X mL_charAt 9 (KI K) T0 1 6 0 [(0, .ref a0), (1, .int a1), (2, .ref a2)] [] h
  unfold wL_charAt at w
  refine X_aload_n (j := 2) (show decode cL_charAt 0 = .ok (.aload_n 2, 1) by decide +kernel) rfl rfl ?_
  refine X_iconst (v := (nI 0)) (show decode cL_charAt 1 = .ok (.iconst 0, 1) by decide +kernel) (by decide) ?_
  refine X_aload_n (j := 0) (show decode cL_charAt 2 = .ok (.aload_n 0, 1) by decide +kernel) rfl rfl ?_
  refine X_iload_n (j := 1) (show decode cL_charAt 3 = .ok (.iload_n 1, 1) by decide +kernel) rfl rfl ?_
  obtain ⟨s8, w⟩ := w
  refine X_vI (rc' := 0) (rs' := 0) (as := [.int _]) mv_L_136 (show decode cL_charAt 4 = .ok (.invokevirtual 136, 3) by decide +kernel) (by decide) (Nat.le_of_ble_eq_true rfl) (Nat.le_of_ble_eq_true rfl) rfl rfl (Nat.le_of_ble_eq_true rfl) (rcvD s8 (by decide) rfl) (kX9_charAt w) (fun E9 h7 hk => ?_) (fun r2 h1 w => ?_)
  · obtain ⟨rfl, w⟩ := hk
    refine XT_catch (name := "java/lang/IndexOutOfBoundsException") (i := 3) (j := 1) (ls' := []) [] (0, 9, 12, 21) [] rfl (fun z hz => absurd hz List.not_mem_nil) (by decide) (by decide) (gw_of (List.mem_of_getElem? (i := 1143) (by decide +kernel)) (by decide +kernel)) (List.mem_of_getElem? (i := 5) rfl) (Or.inl ⟨3, rfl, (show decode cL_charAt 12 = .ok (.astore_n 3, 1) by decide +kernel), rfl⟩) (Nat.le_of_ble_eq_true rfl) (fun q hq => absurd hq List.not_mem_nil) ?_
    refine X_iconst (v := (nI 1)) (show decode cL_charAt 13 = .ok (.iconst 1, 1) by decide +kernel) (by decide) ?_
    exact X_iret ⟨(show decode cL_charAt 14 = .ok (.ireturn, 1) by decide +kernel), .int, rfl, rfl⟩ ⟨_, rfl, w⟩
  · skip
    refine X_i2l (show decode cL_charAt 7 = .ok (.i2l, 1) by decide +kernel) ?_
    obtain ⟨s3, w⟩ := w
    obtain ⟨s4, w⟩ := w
    obtain ⟨s5, w⟩ := w
    refine X_last (show decode cL_charAt 8 = .ok (.lastore, 1) by decide +kernel) (isA_eq s3) s4 s5 ?_
    have w := w _ rfl
    refine X_goto (tgt := 15) (show decode cL_charAt 9 = .ok (.goto 6, 3) by decide +kernel) (by decide) ?_
    refine X_iconst (v := (nI 0)) (show decode cL_charAt 15 = .ok (.iconst 0, 1) by decide +kernel) (by decide) ?_
    exact X_iret ⟨(show decode cL_charAt 16 = .ok (.ireturn, 1) by decide +kernel), .int, rfl, rfl⟩ ⟨_, rfl, w⟩
set_option maxRecDepth 100000 in
set_option maxHeartbeats 4000000 in
theorem kL_type {a0 : Nat} {a1 : Int32} {a2 : Nat} {h : AH} {K : Int32 → AH → Prop} (w : wL_type a0 a1 a2 h K) : Cn mL_type (cwh mL_type) 9 1 6 [.ref a0, .int a1, .ref a2] h (KI K) T0 := by
  refine CnH_of (by decide +kernel) (Nat.le_of_ble_eq_true rfl) ?_
  show X mL_type 9 (KI K) T0 1 6 0 [(0, .ref a0), (1, .int a1), (2, .ref a2)] [] h
  unfold wL_type at w
  refine X_aload_n (j := 2) (show decode cL_type 0 = .ok (.aload_n 2, 1) by decide +kernel) rfl rfl ?_
  refine X_iconst (v := (nI 0)) (show decode cL_type 1 = .ok (.iconst 0, 1) by decide +kernel) (by decide) ?_
  refine X_aload_n (j := 0) (show decode cL_type 2 = .ok (.aload_n 0, 1) by decide +kernel) rfl rfl ?_
  refine X_iload_n (j := 1) (show decode cL_type 3 = .ok (.iload_n 1, 1) by decide +kernel) rfl rfl ?_
  obtain ⟨s8, w⟩ := w
  refine X_vI (rc' := 0) (rs' := 0) (as := [.int _]) mv_L_139 (show decode cL_type 4 = .ok (.invokevirtual 139, 3) by decide +kernel) (by decide) (Nat.le_of_ble_eq_true rfl) (Nat.le_of_ble_eq_true rfl) rfl rfl (Nat.le_of_ble_eq_true rfl) (rcvD s8 (by decide) rfl) (kX9_type w) (fun E9 h7 hk => ?_) (fun r2 h1 w => ?_)
  · obtain ⟨rfl, w⟩ := hk
    refine XT_catch (name := "java/lang/IllegalStateException") (i := 3) (j := 1) (ls' := []) [] (0, 9, 12, 15) [] rfl (fun z hz => absurd hz List.not_mem_nil) (by decide) (by decide) (gw_of (List.mem_of_getElem? (i := 1035) (by decide +kernel)) (by decide +kernel)) (List.mem_of_getElem? (i := 4) rfl) (Or.inl ⟨3, rfl, (show decode cL_type 12 = .ok (.astore_n 3, 1) by decide +kernel), rfl⟩) (Nat.le_of_ble_eq_true rfl) (fun q hq => absurd hq List.not_mem_nil) ?_
    refine X_iconst (v := (nI 1)) (show decode cL_type 13 = .ok (.iconst 1, 1) by decide +kernel) (by decide) ?_
    exact X_iret ⟨(show decode cL_type 14 = .ok (.ireturn, 1) by decide +kernel), .int, rfl, rfl⟩ ⟨_, rfl, w⟩
  · skip
    refine X_i2l (show decode cL_type 7 = .ok (.i2l, 1) by decide +kernel) ?_
    obtain ⟨s3, w⟩ := w
    obtain ⟨s4, w⟩ := w
    obtain ⟨s5, w⟩ := w
    refine X_last (show decode cL_type 8 = .ok (.lastore, 1) by decide +kernel) (isA_eq s3) s4 s5 ?_
    have w := w _ rfl
    refine X_goto (tgt := 15) (show decode cL_type 9 = .ok (.goto 6, 3) by decide +kernel) (by decide) ?_
    refine X_iconst (v := (nI 0)) (show decode cL_type 15 = .ok (.iconst 0, 1) by decide +kernel) (by decide) ?_
    exact X_iret ⟨(show decode cL_type 16 = .ok (.ireturn, 1) by decide +kernel), .int, rfl, rfl⟩ ⟨_, rfl, w⟩
set_option maxRecDepth 100000 in
set_option maxHeartbeats 4000000 in
theorem kL_run {a0 : Nat} {a1 : Nat} {h : AH} {K : Int32 → AH → Prop} (w : wL_run a0 a1 h K) : Cn mL_run (cwh mL_run) 11 1 6 [.ref a0, .ref a1] h (KI K) T0 := by
  refine CnH_of (by decide +kernel) (Nat.le_of_ble_eq_true rfl) ?_
  show X mL_run 11 (KI K) T0 1 6 0 [(0, .ref a0), (1, .ref a1)] [] h
  unfold wL_run at w
  refine X_aload_n (j := 1) (show decode cL_run 0 = .ok (.aload_n 1, 1) by decide +kernel) rfl rfl ?_
  refine X_iconst (v := (nI 0)) (show decode cL_run 1 = .ok (.iconst 0, 1) by decide +kernel) (by decide) ?_
  refine X_aload_n (j := 0) (show decode cL_run 2 = .ok (.aload_n 0, 1) by decide +kernel) rfl rfl ?_
  obtain ⟨s8, w⟩ := w
  refine X_vI (rc' := 0) (rs' := 0) (as := []) mv_L_143 (show decode cL_run 3 = .ok (.invokevirtual 143, 3) by decide +kernel) (by decide) (Nat.le_of_ble_eq_true rfl) (Nat.le_of_ble_eq_true rfl) rfl rfl (Nat.le_of_ble_eq_true rfl) (rcvD s8 (by decide) rfl) (kX9_run w) (fun E9 h7 hk => ?_) (fun r2 h1 w => ?_)
  · rcases hk with ⟨rfl, w⟩ | ⟨rfl, w⟩
    · skip
      refine XT_catch (name := "java/lang/IllegalArgumentException") (i := 2) (j := 1) (ls' := []) [] (0, 8, 11, 13) [(0, 8, 14, 45)] rfl (fun z hz => absurd hz List.not_mem_nil) (by decide) (by decide) (gw_of (List.mem_of_getElem? (i := 1034) (by decide +kernel)) (by decide +kernel)) (List.mem_of_getElem? (i := 3) rfl) (Or.inl ⟨2, rfl, (show decode cL_run 11 = .ok (.astore_n 2, 1) by decide +kernel), rfl⟩) (Nat.le_of_ble_eq_true rfl) (fun q hq => absurd hq List.not_mem_nil) ?_
      refine X_iconst (v := (nI 1)) (show decode cL_run 12 = .ok (.iconst 1, 1) by decide +kernel) (by decide) ?_
      exact X_iret ⟨(show decode cL_run 13 = .ok (.ireturn, 1) by decide +kernel), .int, rfl, rfl⟩ ⟨_, rfl, w⟩
    · skip
      refine XT_catch (name := "java/lang/UnsupportedOperationException") (i := 2) (j := 1) (ls' := []) [(0, 8, 11, 13)] (0, 8, 14, 45) [] rfl (by
            intro z hz
            simp only [List.mem_cons, List.not_mem_nil, or_false] at hz
            rcases hz with rfl
            · exact ⟨by decide, _, gw_of (List.mem_of_getElem? (i := 1034) (by decide +kernel)) (by decide +kernel), List.mem_of_getElem? (i := 21) rfl⟩
            ) (by decide) (by decide) (gw_of (List.mem_of_getElem? (i := 1246) (by decide +kernel)) (by decide +kernel)) (List.mem_of_getElem? (i := 7) rfl) (Or.inl ⟨2, rfl, (show decode cL_run 14 = .ok (.astore_n 2, 1) by decide +kernel), rfl⟩) (Nat.le_of_ble_eq_true rfl) (fun q hq => absurd hq List.not_mem_nil) ?_
      refine X_iconst (v := (nI 2)) (show decode cL_run 15 = .ok (.iconst 2, 1) by decide +kernel) (by decide) ?_
      exact X_iret ⟨(show decode cL_run 16 = .ok (.ireturn, 1) by decide +kernel), .int, rfl, rfl⟩ ⟨_, rfl, w⟩
  · skip
    refine X_i2l (show decode cL_run 6 = .ok (.i2l, 1) by decide +kernel) ?_
    obtain ⟨s3, w⟩ := w
    obtain ⟨s4, w⟩ := w
    obtain ⟨s5, w⟩ := w
    refine X_last (show decode cL_run 7 = .ok (.lastore, 1) by decide +kernel) (isA_eq s3) s4 s5 ?_
    have w := w _ rfl
    refine X_goto (tgt := 17) (show decode cL_run 8 = .ok (.goto 9, 3) by decide +kernel) (by decide) ?_
    refine X_iconst (v := (nI 0)) (show decode cL_run 17 = .ok (.iconst 0, 1) by decide +kernel) (by decide) ?_
    exact X_iret ⟨(show decode cL_run 18 = .ok (.ireturn, 1) by decide +kernel), .int, rfl, rfl⟩ ⟨_, rfl, w⟩
set_option maxRecDepth 100000 in
set_option maxHeartbeats 4000000 in
theorem kL_errorPosition {a0 : Nat} {a1 : Nat} {h : AH} {K : Int32 → AH → Prop} (w : wL_errorPosition a0 a1 h K) : Cn mL_errorPosition (cwh mL_errorPosition) 9 1 6 [.ref a0, .ref a1] h (KI K) T0 := by
  refine CnH_of (by decide +kernel) (Nat.le_of_ble_eq_true rfl) ?_
  show X mL_errorPosition 9 (KI K) T0 1 6 0 [(0, .ref a0), (1, .ref a1)] [] h
  unfold wL_errorPosition at w
  refine X_aload_n (j := 1) (show decode cL_errorPosition 0 = .ok (.aload_n 1, 1) by decide +kernel) rfl rfl ?_
  refine X_iconst (v := (nI 0)) (show decode cL_errorPosition 1 = .ok (.iconst 0, 1) by decide +kernel) (by decide) ?_
  refine X_aload_n (j := 0) (show decode cL_errorPosition 2 = .ok (.aload_n 0, 1) by decide +kernel) rfl rfl ?_
  obtain ⟨s8, w⟩ := w
  refine X_vI (rc' := 0) (rs' := 0) (as := []) mv_L_146 (show decode cL_errorPosition 3 = .ok (.invokevirtual 146, 3) by decide +kernel) (by decide) (Nat.le_of_ble_eq_true rfl) (Nat.le_of_ble_eq_true rfl) rfl rfl (Nat.le_of_ble_eq_true rfl) (rcvD s8 (by decide) rfl) (kX9_errorPosition w) (fun E9 h7 hk => ?_) (fun r2 h1 w => ?_)
  · obtain ⟨rfl, w⟩ := hk
    refine XT_catch (name := "java/util/NoSuchElementException") (i := 2) (j := 1) (ls' := []) [] (0, 8, 11, 43) [] rfl (fun z hz => absurd hz List.not_mem_nil) (by decide) (by decide) (gw_of (List.mem_of_getElem? (i := 1245) (by decide +kernel)) (by decide +kernel)) (List.mem_of_getElem? (i := 8) rfl) (Or.inl ⟨2, rfl, (show decode cL_errorPosition 11 = .ok (.astore_n 2, 1) by decide +kernel), rfl⟩) (Nat.le_of_ble_eq_true rfl) (fun q hq => absurd hq List.not_mem_nil) ?_
    refine X_iconst (v := (nI 1)) (show decode cL_errorPosition 12 = .ok (.iconst 1, 1) by decide +kernel) (by decide) ?_
    exact X_iret ⟨(show decode cL_errorPosition 13 = .ok (.ireturn, 1) by decide +kernel), .int, rfl, rfl⟩ ⟨_, rfl, w⟩
  · skip
    refine X_i2l (show decode cL_errorPosition 6 = .ok (.i2l, 1) by decide +kernel) ?_
    obtain ⟨s3, w⟩ := w
    obtain ⟨s4, w⟩ := w
    obtain ⟨s5, w⟩ := w
    refine X_last (show decode cL_errorPosition 7 = .ok (.lastore, 1) by decide +kernel) (isA_eq s3) s4 s5 ?_
    have w := w _ rfl
    refine X_goto (tgt := 14) (show decode cL_errorPosition 8 = .ok (.goto 6, 3) by decide +kernel) (by decide) ?_
    refine X_iconst (v := (nI 0)) (show decode cL_errorPosition 14 = .ok (.iconst 0, 1) by decide +kernel) (by decide) ?_
    exact X_iret ⟨(show decode cL_errorPosition 15 = .ok (.ireturn, 1) by decide +kernel), .int, rfl, rfl⟩ ⟨_, rfl, w⟩
set_option maxRecDepth 100000 in
set_option maxHeartbeats 4000000 in
theorem kL_failedCommand {a0 : Nat} {a1 : Nat} {h : AH} {K : Int32 → AH → Prop} (w : wL_failedCommand a0 a1 h K) : Cn mL_failedCommand (cwh mL_failedCommand) 9 1 6 [.ref a0, .ref a1] h (KI K) T0 := by
  refine CnH_of (by decide +kernel) (Nat.le_of_ble_eq_true rfl) ?_
  show X mL_failedCommand 9 (KI K) T0 1 6 0 [(0, .ref a0), (1, .ref a1)] [] h
  unfold wL_failedCommand at w
  refine X_aload_n (j := 1) (show decode cL_failedCommand 0 = .ok (.aload_n 1, 1) by decide +kernel) rfl rfl ?_
  refine X_iconst (v := (nI 0)) (show decode cL_failedCommand 1 = .ok (.iconst 0, 1) by decide +kernel) (by decide) ?_
  refine X_aload_n (j := 0) (show decode cL_failedCommand 2 = .ok (.aload_n 0, 1) by decide +kernel) rfl rfl ?_
  obtain ⟨s8, w⟩ := w
  refine X_vI (rc' := 0) (rs' := 0) (as := []) mv_L_149 (show decode cL_failedCommand 3 = .ok (.invokevirtual 149, 3) by decide +kernel) (by decide) (Nat.le_of_ble_eq_true rfl) (Nat.le_of_ble_eq_true rfl) rfl rfl (Nat.le_of_ble_eq_true rfl) (rcvD s8 (by decide) rfl) (kX9_failedCommand w) (fun E9 h7 hk => ?_) (fun r2 h1 w => ?_)
  · obtain ⟨rfl, w⟩ := hk
    refine XT_catch (name := "java/util/NoSuchElementException") (i := 2) (j := 1) (ls' := []) [] (0, 8, 11, 43) [] rfl (fun z hz => absurd hz List.not_mem_nil) (by decide) (by decide) (gw_of (List.mem_of_getElem? (i := 1245) (by decide +kernel)) (by decide +kernel)) (List.mem_of_getElem? (i := 8) rfl) (Or.inl ⟨2, rfl, (show decode cL_failedCommand 11 = .ok (.astore_n 2, 1) by decide +kernel), rfl⟩) (Nat.le_of_ble_eq_true rfl) (fun q hq => absurd hq List.not_mem_nil) ?_
    refine X_iconst (v := (nI 1)) (show decode cL_failedCommand 12 = .ok (.iconst 1, 1) by decide +kernel) (by decide) ?_
    exact X_iret ⟨(show decode cL_failedCommand 13 = .ok (.ireturn, 1) by decide +kernel), .int, rfl, rfl⟩ ⟨_, rfl, w⟩
  · skip
    refine X_i2l (show decode cL_failedCommand 6 = .ok (.i2l, 1) by decide +kernel) ?_
    obtain ⟨s3, w⟩ := w
    obtain ⟨s4, w⟩ := w
    obtain ⟨s5, w⟩ := w
    refine X_last (show decode cL_failedCommand 7 = .ok (.lastore, 1) by decide +kernel) (isA_eq s3) s4 s5 ?_
    have w := w _ rfl
    refine X_goto (tgt := 14) (show decode cL_failedCommand 8 = .ok (.goto 6, 3) by decide +kernel) (by decide) ?_
    refine X_iconst (v := (nI 0)) (show decode cL_failedCommand 14 = .ok (.iconst 0, 1) by decide +kernel) (by decide) ?_
    exact X_iret ⟨(show decode cL_failedCommand 15 = .ok (.ireturn, 1) by decide +kernel), .int, rfl, rfl⟩ ⟨_, rfl, w⟩
set_option maxRecDepth 100000 in
set_option maxHeartbeats 4000000 in
theorem kL_undo {a0 : Nat} {a1 : Nat} {h : AH} {K : Int32 → AH → Prop} (w : wL_undo a0 a1 h K) : Cn mL_undo (cwh mL_undo) 9 1 6 [.ref a0, .ref a1] h (KI K) T0 := by
  refine CnH_of (by decide +kernel) (Nat.le_of_ble_eq_true rfl) ?_
  show X mL_undo 9 (KI K) T0 1 6 0 [(0, .ref a0), (1, .ref a1)] [] h
  unfold wL_undo at w
  refine X_aload_n (j := 1) (show decode cL_undo 0 = .ok (.aload_n 1, 1) by decide +kernel) rfl rfl ?_
  refine X_iconst (v := (nI 0)) (show decode cL_undo 1 = .ok (.iconst 0, 1) by decide +kernel) (by decide) ?_
  refine X_aload_n (j := 0) (show decode cL_undo 2 = .ok (.aload_n 0, 1) by decide +kernel) rfl rfl ?_
  obtain ⟨s8, w⟩ := w
  refine X_vI (rc' := 0) (rs' := 0) (as := []) mv_L_152 (show decode cL_undo 3 = .ok (.invokevirtual 152, 3) by decide +kernel) (by decide) (Nat.le_of_ble_eq_true rfl) (Nat.le_of_ble_eq_true rfl) rfl rfl (Nat.le_of_ble_eq_true rfl) (rcvD s8 (by decide) rfl) (kX9_undo w) (fun E9 h7 hk => ?_) (fun r2 h1 w => ?_)
  · obtain ⟨rfl, w⟩ := hk
    refine XT_catch (name := "java/lang/IllegalStateException") (i := 2) (j := 1) (ls' := []) [] (0, 8, 11, 15) [] rfl (fun z hz => absurd hz List.not_mem_nil) (by decide) (by decide) (gw_of (List.mem_of_getElem? (i := 1035) (by decide +kernel)) (by decide +kernel)) (List.mem_of_getElem? (i := 4) rfl) (Or.inl ⟨2, rfl, (show decode cL_undo 11 = .ok (.astore_n 2, 1) by decide +kernel), rfl⟩) (Nat.le_of_ble_eq_true rfl) (fun q hq => absurd hq List.not_mem_nil) ?_
    refine X_iconst (v := (nI 1)) (show decode cL_undo 12 = .ok (.iconst 1, 1) by decide +kernel) (by decide) ?_
    exact X_iret ⟨(show decode cL_undo 13 = .ok (.ireturn, 1) by decide +kernel), .int, rfl, rfl⟩ ⟨_, rfl, w⟩
  · skip
    refine X_i2l (show decode cL_undo 6 = .ok (.i2l, 1) by decide +kernel) ?_
    obtain ⟨s3, w⟩ := w
    obtain ⟨s4, w⟩ := w
    obtain ⟨s5, w⟩ := w
    refine X_last (show decode cL_undo 7 = .ok (.lastore, 1) by decide +kernel) (isA_eq s3) s4 s5 ?_
    have w := w _ rfl
    refine X_goto (tgt := 14) (show decode cL_undo 8 = .ok (.goto 6, 3) by decide +kernel) (by decide) ?_
    refine X_iconst (v := (nI 0)) (show decode cL_undo 14 = .ok (.iconst 0, 1) by decide +kernel) (by decide) ?_
    exact X_iret ⟨(show decode cL_undo 15 = .ok (.ireturn, 1) by decide +kernel), .int, rfl, rfl⟩ ⟨_, rfl, w⟩
set_option maxRecDepth 100000 in
set_option maxHeartbeats 4000000 in
theorem kL_restore {a0 : Nat} {a1 : Nat} {h : AH} {K : Int32 → AH → Prop} (w : wL_restore a0 a1 h K) : Cn mL_restore (cwh mL_restore) 9 1 6 [.ref a0, .ref a1] h (KI K) T0 := by
  refine CnH_of (by decide +kernel) (Nat.le_of_ble_eq_true rfl) ?_
  show X mL_restore 9 (KI K) T0 1 6 0 [(0, .ref a0), (1, .ref a1)] [] h
  unfold wL_restore at w
  refine X_aload_n (j := 1) (show decode cL_restore 0 = .ok (.aload_n 1, 1) by decide +kernel) rfl rfl ?_
  refine X_iconst (v := (nI 0)) (show decode cL_restore 1 = .ok (.iconst 0, 1) by decide +kernel) (by decide) ?_
  refine X_aload_n (j := 0) (show decode cL_restore 2 = .ok (.aload_n 0, 1) by decide +kernel) rfl rfl ?_
  obtain ⟨s8, w⟩ := w
  refine X_vI (rc' := 0) (rs' := 0) (as := []) mv_L_155 (show decode cL_restore 3 = .ok (.invokevirtual 155, 3) by decide +kernel) (by decide) (Nat.le_of_ble_eq_true rfl) (Nat.le_of_ble_eq_true rfl) rfl rfl (Nat.le_of_ble_eq_true rfl) (rcvD s8 (by decide) rfl) (kX9_restore w) (fun E9 h7 hk => ?_) (fun r2 h1 w => ?_)
  · obtain ⟨rfl, w⟩ := hk
    refine XT_catch (name := "java/lang/IllegalStateException") (i := 2) (j := 1) (ls' := []) [] (0, 8, 11, 15) [] rfl (fun z hz => absurd hz List.not_mem_nil) (by decide) (by decide) (gw_of (List.mem_of_getElem? (i := 1035) (by decide +kernel)) (by decide +kernel)) (List.mem_of_getElem? (i := 4) rfl) (Or.inl ⟨2, rfl, (show decode cL_restore 11 = .ok (.astore_n 2, 1) by decide +kernel), rfl⟩) (Nat.le_of_ble_eq_true rfl) (fun q hq => absurd hq List.not_mem_nil) ?_
    refine X_iconst (v := (nI 1)) (show decode cL_restore 12 = .ok (.iconst 1, 1) by decide +kernel) (by decide) ?_
    exact X_iret ⟨(show decode cL_restore 13 = .ok (.ireturn, 1) by decide +kernel), .int, rfl, rfl⟩ ⟨_, rfl, w⟩
  · skip
    refine X_i2l (show decode cL_restore 6 = .ok (.i2l, 1) by decide +kernel) ?_
    obtain ⟨s3, w⟩ := w
    obtain ⟨s4, w⟩ := w
    obtain ⟨s5, w⟩ := w
    refine X_last (show decode cL_restore 7 = .ok (.lastore, 1) by decide +kernel) (isA_eq s3) s4 s5 ?_
    have w := w _ rfl
    refine X_goto (tgt := 14) (show decode cL_restore 8 = .ok (.goto 6, 3) by decide +kernel) (by decide) ?_
    refine X_iconst (v := (nI 0)) (show decode cL_restore 14 = .ok (.iconst 0, 1) by decide +kernel) (by decide) ?_
    exact X_iret ⟨(show decode cL_restore 15 = .ok (.ireturn, 1) by decide +kernel), .int, rfl, rfl⟩ ⟨_, rfl, w⟩
