set_option maxRecDepth 100000 in
set_option maxHeartbeats 4000000 in
theorem kX2_takeBack {a0 : Nat} {a1 : Nat} {h : AH} {K : Int32 → AH → Prop} (w : wX2_takeBack a0 a1 h K) : Cn mX2_takeBack (cwd mX2_takeBack) 5 0 0 [.ref a0, .ref a1] h (KI K) T0 := by
  refine Cn_of (by decide +kernel) rfl (Nat.le_of_ble_eq_true rfl) ?_
  show X mX2_takeBack 5 (KI K) T0 0 0 0 [(0, .ref a0), (1, .ref a1)] [] h
  unfold wX2_takeBack at w
  refine X_aload_n (j := 0) (show decode cX2_takeBack 0 = .ok (.aload_n 0, 1) by decide +kernel) rfl rfl ?_
  obtain ⟨s1, w⟩ := w
  refine X_getI fl_X2_21 (show decode cX2_takeBack 1 = .ok (.getfield 21, 3) by decide +kernel) s1 ?_
  refine X_if_ne (tgt := 9) (show decode cX2_takeBack 4 = .ok (.ifCond .ne 5, 3) by decide +kernel) (by decide) ⟨fun c2 => ?_, fun c2 => ?_⟩
  · have w := w.1 c2
    refine X_aload_n (j := 0) (show decode cX2_takeBack 9 = .ok (.aload_n 0, 1) by decide +kernel) rfl rfl ?_
    refine X_dup (show decode cX2_takeBack 10 = .ok (.dup, 1) by decide +kernel) rfl ?_
    refine X_getI fl_X2_21 (show decode cX2_takeBack 11 = .ok (.getfield 21, 3) by decide +kernel) s1 ?_
    refine X_iconst (v := (nI 1)) (show decode cX2_takeBack 14 = .ok (.iconst 1, 1) by decide +kernel) (by decide) ?_
    refine X_isub (show decode cX2_takeBack 15 = .ok (.isub, 1) by decide +kernel) ?_
    refine X_putI fp_X2_21 (show decode cX2_takeBack 16 = .ok (.putfield 21, 3) by decide +kernel) (fun z => nomatch z) s1 rfl rfl ?_
    have w := w _ rfl
    refine X_aload_n (j := 0) (show decode cX2_takeBack 19 = .ok (.aload_n 0, 1) by decide +kernel) rfl rfl ?_
    refine X_aload_n (j := 0) (show decode cX2_takeBack 20 = .ok (.aload_n 0, 1) by decide +kernel) rfl rfl ?_
    refine X_getI fl_X2_17 (show decode cX2_takeBack 21 = .ok (.getfield 17, 3) by decide +kernel) s1 ?_
    refine X_bipush (v := (nI 9)) (show decode cX2_takeBack 24 = .ok (.bipush 9, 2) by decide +kernel) (by decide) ?_
    refine X_iadd (show decode cX2_takeBack 26 = .ok (.iadd, 1) by decide +kernel) ?_
    refine X_iconst (v := (nI 1)) (show decode cX2_takeBack 27 = .ok (.iconst 1, 1) by decide +kernel) (by decide) ?_
    refine X_isub (show decode cX2_takeBack 28 = .ok (.isub, 1) by decide +kernel) ?_
    refine X_bipush (v := (nI 9)) (show decode cX2_takeBack 29 = .ok (.bipush 9, 2) by decide +kernel) (by decide) ?_
    refine X_irem (show decode cX2_takeBack 31 = .ok (.irem, 1) by decide +kernel) (by decide) ?_
    refine X_putI fp_X2_17 (show decode cX2_takeBack 32 = .ok (.putfield 17, 3) by decide +kernel) (fun z => nomatch z) s1 rfl rfl ?_
    have w := w _ rfl
    refine X_aload_n (j := 0) (show decode cX2_takeBack 35 = .ok (.aload_n 0, 1) by decide +kernel) rfl rfl ?_
    refine X_aload_n (j := 1) (show decode cX2_takeBack 36 = .ok (.aload_n 1, 1) by decide +kernel) rfl rfl ?_
    refine X_vV (rc' := 0) (rs' := 0) (as := [.ref _]) mv_X2_35 (show decode cX2_takeBack 37 = .ok (.invokevirtual 35, 3) by decide +kernel) (by decide) (Nat.le_of_ble_eq_true rfl) (Nat.le_of_ble_eq_true rfl) rfl rfl (Nat.le_of_ble_eq_true rfl) (rcvD s1 (by decide) rfl) (kX2_putBack w) (fun E h hk => hk.elim) (fun h5 w => ?_)
    refine X_iconst (v := (nI 1)) (show decode cX2_takeBack 40 = .ok (.iconst 1, 1) by decide +kernel) (by decide) ?_
    exact X_iret ⟨(show decode cX2_takeBack 41 = .ok (.ireturn, 1) by decide +kernel), .boolean, rfl, (by decide)⟩ ⟨_, rfl, w⟩
  · have w := w.2 c2
    refine X_iconst (v := (nI 0)) (show decode cX2_takeBack 7 = .ok (.iconst 0, 1) by decide +kernel) (by decide) ?_
    exact X_iret ⟨(show decode cX2_takeBack 8 = .ok (.ireturn, 1) by decide +kernel), .boolean, rfl, (by decide)⟩ ⟨_, rfl, w⟩
set_option maxRecDepth 100000 in
set_option maxHeartbeats 4000000 in
theorem kX9_undo {a0 : Nat} {h : AH} {K : Int32 → AH → Prop} {T : String → AH → Prop} (w : wX9_undo a0 h K T) : Cn mX9_undo (cwd mX9_undo) 8 1 6 [.ref a0] h (KI K) T := by
  refine Cn_of (by decide +kernel) rfl (Nat.le_of_ble_eq_true rfl) ?_
  show X mX9_undo 8 (KI K) T 1 6 0 [(0, .ref a0)] [] h
  unfold wX9_undo at w
  refine X_aload_n (j := 0) (show decode cX9_undo 0 = .ok (.aload_n 0, 1) by decide +kernel) rfl rfl ?_
  obtain ⟨s1, w⟩ := w
  refine X_getR fl_X9_25 (show decode cX9_undo 1 = .ok (.getfield 25, 3) by decide +kernel) s1 ?_
  refine X_aload_n (j := 0) (show decode cX9_undo 4 = .ok (.aload_n 0, 1) by decide +kernel) rfl rfl ?_
  refine X_getR fl_X9_12 (show decode cX9_undo 5 = .ok (.getfield 12, 3) by decide +kernel) s1 ?_
  obtain ⟨s7, w⟩ := w
  refine X_vI (rc' := 1) (rs' := 6) (as := [.ref _]) mv_X9_360 (show decode cX9_undo 8 = .ok (.invokevirtual 360, 3) by decide +kernel) (by decide) (Nat.le_of_ble_eq_true rfl) (Nat.le_of_ble_eq_true rfl) rfl rfl (Nat.le_of_ble_eq_true rfl) (rcvD s7 (by decide) rfl) (kX2_takeBack w) (fun E h hk => hk.elim) (fun r3 h2 w => ?_)
  refine X_if_ne (tgt := 25) (show decode cX9_undo 11 = .ok (.ifCond .ne 14, 3) by decide +kernel) (by decide) ⟨fun c4 => ?_, fun c4 => ?_⟩
  · have w := w.1 c4
    refine X_aload_n (j := 0) (show decode cX9_undo 25 = .ok (.aload_n 0, 1) by decide +kernel) rfl rfl ?_
    obtain ⟨s5, w⟩ := w
    refine X_getR fl_X9_25 (show decode cX9_undo 26 = .ok (.getfield 25, 3) by decide +kernel) s5 ?_
    obtain ⟨s6, w⟩ := w
    refine X_getI fl_X9_365 (show decode cX9_undo 29 = .ok (.getfield 365, 3) by decide +kernel) s6 ?_
    exact X_iret ⟨(show decode cX9_undo 32 = .ok (.ireturn, 1) by decide +kernel), .int, rfl, rfl⟩ ⟨_, rfl, w⟩
  · have w := w.2 c4
    exact X_throwSW tw_X9_324_363 (show decode cX9_undo 14 = .ok (.new 324, 3) by decide +kernel) (show decode cX9_undo 17 = .ok (.dup, 1) by decide +kernel) (show decode cX9_undo 18 = .ok (.ldc_w 363, 3) by decide +kernel) (show decode cX9_undo 21 = .ok (.invokespecial 328, 3) by decide +kernel) (show decode cX9_undo 24 = .ok (.athrow, 1) by decide +kernel) (fun x hx => absurd hx List.not_mem_nil) (by decide) (Nat.le_of_ble_eq_true rfl) (Nat.le_of_ble_eq_true rfl) (Nat.le_of_ble_eq_true rfl) w
set_option maxRecDepth 100000 in
set_option maxHeartbeats 4000000 in
theorem kX9_save {a0 : Nat} {h : AH} {K : Int32 → AH → Prop} (w : wX9_save a0 h K) : Cn mX9_save (cwd mX9_save) 4 0 0 [.ref a0] h (KI K) T0 := by
  refine Cn_of (by decide +kernel) rfl (Nat.le_of_ble_eq_true rfl) ?_
  show X mX9_save 4 (KI K) T0 0 0 0 [(0, .ref a0)] [] h
  unfold wX9_save at w
  refine X_aload_n (j := 0) (show decode cX9_save 0 = .ok (.aload_n 0, 1) by decide +kernel) rfl rfl ?_
  obtain ⟨s1, w⟩ := w
  refine X_getR fl_X9_16 (show decode cX9_save 1 = .ok (.getfield 16, 3) by decide +kernel) s1 ?_
  refine X_aload_n (j := 0) (show decode cX9_save 4 = .ok (.aload_n 0, 1) by decide +kernel) rfl rfl ?_
  refine X_getR fl_X9_12 (show decode cX9_save 5 = .ok (.getfield 12, 3) by decide +kernel) s1 ?_
  obtain ⟨s7, w⟩ := w
  refine X_vV (rc' := 0) (rs' := 0) (as := [.ref _]) mv_X9_215 (show decode cX9_save 8 = .ok (.invokevirtual 215, 3) by decide +kernel) (by decide) (Nat.le_of_ble_eq_true rfl) (Nat.le_of_ble_eq_true rfl) rfl rfl (Nat.le_of_ble_eq_true rfl) (rcvD s7 (by decide) rfl) (kX7_copyFrom w) (fun E h hk => hk.elim) (fun h2 w => ?_)
  refine X_aload_n (j := 0) (show decode cX9_save 11 = .ok (.aload_n 0, 1) by decide +kernel) rfl rfl ?_
  refine X_iconst (v := (nI 1)) (show decode cX9_save 12 = .ok (.iconst 1, 1) by decide +kernel) (by decide) ?_
  obtain ⟨s4, w⟩ := w
  refine X_putI fp_X9_50 (show decode cX9_save 13 = .ok (.putfield 50, 3) by decide +kernel) (fun z => nomatch z) s4 (by decide) (by decide) ?_
  have w := w _ rfl
  refine X_aload_n (j := 0) (show decode cX9_save 16 = .ok (.aload_n 0, 1) by decide +kernel) rfl rfl ?_
  refine X_getR fl_X9_12 (show decode cX9_save 17 = .ok (.getfield 12, 3) by decide +kernel) s4 ?_
  obtain ⟨s6, w⟩ := w
  refine X_getI fl_X9_173 (show decode cX9_save 20 = .ok (.getfield 173, 3) by decide +kernel) s6 ?_
  exact X_iret ⟨(show decode cX9_save 23 = .ok (.ireturn, 1) by decide +kernel), .int, rfl, rfl⟩ ⟨_, rfl, w⟩
set_option maxRecDepth 100000 in
set_option maxHeartbeats 4000000 in
theorem kX2_forget {a0 : Nat} {h : AH} {K : AH → Prop} (w : wX2_forget a0 h K) : Cn mX2_forget (cwd mX2_forget) 1 0 0 [.ref a0] h (KV K) T0 := by
  refine Cn_of (by decide +kernel) rfl (Nat.le_of_ble_eq_true rfl) ?_
  show X mX2_forget 1 (KV K) T0 0 0 0 [(0, .ref a0)] [] h
  unfold wX2_forget at w
  refine X_aload_n (j := 0) (show decode cX2_forget 0 = .ok (.aload_n 0, 1) by decide +kernel) rfl rfl ?_
  refine X_iconst (v := (nI 0)) (show decode cX2_forget 1 = .ok (.iconst 0, 1) by decide +kernel) (by decide) ?_
  obtain ⟨s1, w⟩ := w
  refine X_putI fp_X2_21 (show decode cX2_forget 2 = .ok (.putfield 21, 3) by decide +kernel) (fun z => nomatch z) s1 rfl rfl ?_
  have w := w _ rfl
  exact X_vret ⟨(show decode cX2_forget 5 = .ok (.return_, 1) by decide +kernel), rfl⟩ ⟨rfl, w⟩
set_option maxRecDepth 100000 in
set_option maxHeartbeats 4000000 in
theorem kX9_restore {a0 : Nat} {h : AH} {K : Int32 → AH → Prop} {T : String → AH → Prop} (w : wX9_restore a0 h K T) : Cn mX9_restore (cwd mX9_restore) 8 1 6 [.ref a0] h (KI K) T := by
  refine Cn_of (by decide +kernel) rfl (Nat.le_of_ble_eq_true rfl) ?_
  show X mX9_restore 8 (KI K) T 1 6 0 [(0, .ref a0)] [] h
  unfold wX9_restore at w
  refine X_aload_n (j := 0) (show decode cX9_restore 0 = .ok (.aload_n 0, 1) by decide +kernel) rfl rfl ?_
  obtain ⟨s1, w⟩ := w
  refine X_getI fl_X9_50 (show decode cX9_restore 1 = .ok (.getfield 50, 3) by decide +kernel) s1 ?_
  refine X_if_ne (tgt := 18) (show decode cX9_restore 4 = .ok (.ifCond .ne 14, 3) by decide +kernel) (by decide) ⟨fun c2 => ?_, fun c2 => ?_⟩
  · have w := w.1 c2
    refine X_aload_n (j := 0) (show decode cX9_restore 18 = .ok (.aload_n 0, 1) by decide +kernel) rfl rfl ?_
    refine X_getR fl_X9_12 (show decode cX9_restore 19 = .ok (.getfield 12, 3) by decide +kernel) s1 ?_
    refine X_aload_n (j := 0) (show decode cX9_restore 22 = .ok (.aload_n 0, 1) by decide +kernel) rfl rfl ?_
    refine X_getR fl_X9_16 (show decode cX9_restore 23 = .ok (.getfield 16, 3) by decide +kernel) s1 ?_
    obtain ⟨s11, w⟩ := w
    refine X_vV (rc' := 1) (rs' := 6) (as := [.ref _]) mv_X9_215 (show decode cX9_restore 26 = .ok (.invokevirtual 215, 3) by decide +kernel) (by decide) (Nat.le_of_ble_eq_true rfl) (Nat.le_of_ble_eq_true rfl) rfl rfl (Nat.le_of_ble_eq_true rfl) (rcvD s11 (by decide) rfl) (kX7_copyFrom w) (fun E h hk => hk.elim) (fun h3 w => ?_)
    refine X_aload_n (j := 0) (show decode cX9_restore 29 = .ok (.aload_n 0, 1) by decide +kernel) rfl rfl ?_
    obtain ⟨s5, w⟩ := w
    refine X_getR fl_X9_25 (show decode cX9_restore 30 = .ok (.getfield 25, 3) by decide +kernel) s5 ?_
    obtain ⟨s10, w⟩ := w
    refine X_vV (rc' := 1) (rs' := 6) (as := []) mv_X9_368 (show decode cX9_restore 33 = .ok (.invokevirtual 368, 3) by decide +kernel) (by decide) (Nat.le_of_ble_eq_true rfl) (Nat.le_of_ble_eq_true rfl) rfl rfl (Nat.le_of_ble_eq_true rfl) (rcvD s10 (by decide) rfl) (kX2_forget w) (fun E h hk => hk.elim) (fun h6 w => ?_)
    refine X_aload_n (j := 0) (show decode cX9_restore 36 = .ok (.aload_n 0, 1) by decide +kernel) rfl rfl ?_
    obtain ⟨s8, w⟩ := w
    refine X_getR fl_X9_12 (show decode cX9_restore 37 = .ok (.getfield 12, 3) by decide +kernel) s8 ?_
    obtain ⟨s9, w⟩ := w
    refine X_getI fl_X9_173 (show decode cX9_restore 40 = .ok (.getfield 173, 3) by decide +kernel) s9 ?_
    exact X_iret ⟨(show decode cX9_restore 43 = .ok (.ireturn, 1) by decide +kernel), .int, rfl, rfl⟩ ⟨_, rfl, w⟩
  · have w := w.2 c2
    exact X_throwSW tw_X9_324_366 (show decode cX9_restore 7 = .ok (.new 324, 3) by decide +kernel) (show decode cX9_restore 10 = .ok (.dup, 1) by decide +kernel) (show decode cX9_restore 11 = .ok (.ldc_w 366, 3) by decide +kernel) (show decode cX9_restore 14 = .ok (.invokespecial 328, 3) by decide +kernel) (show decode cX9_restore 17 = .ok (.athrow, 1) by decide +kernel) (fun x hx => absurd hx List.not_mem_nil) (by decide) (Nat.le_of_ble_eq_true rfl) (Nat.le_of_ble_eq_true rfl) (Nat.le_of_ble_eq_true rfl) w
set_option maxRecDepth 100000 in
set_option maxHeartbeats 4000000 in
theorem kL_cell {a0 : Nat} {a1 : Int32} {h : AH} {K : Int32 → AH → Prop} (w : wL_cell a0 a1 h K) : Cn mL_cell (cwd mL_cell) 1 0 0 [.ref a0, .int a1] h (KI K) T0 := by
  refine Cn_of (by decide +kernel) rfl (Nat.le_of_ble_eq_true rfl) ?_
  show X mL_cell 1 (KI K) T0 0 0 0 [(0, .ref a0), (1, .int a1)] [] h
  unfold wL_cell at w
  refine X_iload_n (j := 1) (show decode cL_cell 0 = .ok (.iload_n 1, 1) by decide +kernel) rfl rfl ?_
  refine X_aload_n (j := 0) (show decode cL_cell 1 = .ok (.aload_n 0, 1) by decide +kernel) rfl rfl ?_
  obtain ⟨s1, w⟩ := w
  refine X_alen (v := nI (ln _ _)) (show decode cL_cell 2 = .ok (.arraylength, 1) by decide +kernel) (by decide) (isA_eq s1) rfl ?_
  refine X_icmp_ge (tgt := 12) (show decode cL_cell 3 = .ok (.if_icmp .ge 9, 3) by decide +kernel) (by decide) ⟨fun c2 => ?_, fun c2 => ?_⟩
  · have w := w.1 c2
    refine X_ldc (v := (nI 40503)) (show decode cL_cell 12 = .ok (.ldc 7, 2) by decide +kernel) gc_L_7 ?_
    refine X_iload_n (j := 1) (show decode cL_cell 14 = .ok (.iload_n 1, 1) by decide +kernel) rfl rfl ?_
    refine X_imul (show decode cL_cell 15 = .ok (.imul, 1) by decide +kernel) ?_
    exact X_iret ⟨(show decode cL_cell 16 = .ok (.ireturn, 1) by decide +kernel), .int, rfl, rfl⟩ ⟨_, rfl, w⟩
  · have w := w.2 c2
    refine X_aload_n (j := 0) (show decode cL_cell 6 = .ok (.aload_n 0, 1) by decide +kernel) rfl rfl ?_
    refine X_iload_n (j := 1) (show decode cL_cell 7 = .ok (.iload_n 1, 1) by decide +kernel) rfl rfl ?_
    obtain ⟨s3, w⟩ := w
    refine X_iald (show decode cL_cell 8 = .ok (.iaload, 1) by decide +kernel) (isA_eq s1) s3 ?_
    refine X_goto (tgt := 16) (show decode cL_cell 9 = .ok (.goto 7, 3) by decide +kernel) (by decide) ?_
    exact X_iret ⟨(show decode cL_cell 16 = .ok (.ireturn, 1) by decide +kernel), .int, rfl, rfl⟩ ⟨_, rfl, w⟩
set_option maxRecDepth 100000 in
set_option maxHeartbeats 4000000 in
theorem kL_pick {a0 : Nat} {a1 : Int32} {a2 : Int32} {h : AH} {K : Int32 → AH → Prop} (w : wL_pick a0 a1 a2 h K) : Cn mL_pick (cwd mL_pick) 2 0 0 [.ref a0, .int a1, .int a2] h (KI K) T0 := by
  refine Cn_of (by decide +kernel) rfl (Nat.le_of_ble_eq_true rfl) ?_
  show X mL_pick 2 (KI K) T0 0 0 0 [(0, .ref a0), (1, .int a1), (2, .int a2)] [] h
  unfold wL_pick at w
  refine X_aload_n (j := 0) (show decode cL_pick 0 = .ok (.aload_n 0, 1) by decide +kernel) rfl rfl ?_
  refine X_iload_n (j := 1) (show decode cL_pick 1 = .ok (.iload_n 1, 1) by decide +kernel) rfl rfl ?_
  refine X_sI (rc' := 0) (rs' := 0) (as := [.ref _, .int _]) ms_L_8 (show decode cL_pick 2 = .ok (.invokestatic 8, 3) by decide +kernel) (by decide) (Nat.le_of_ble_eq_true rfl) (Nat.le_of_ble_eq_true rfl) rfl rfl (Nat.le_of_ble_eq_true rfl) (kL_cell w) (fun E h hk => hk.elim) (fun r2 h1 w => ?_)
  refine X_iconst (v := (nI 1)) (show decode cL_pick 5 = .ok (.iconst 1, 1) by decide +kernel) (by decide) ?_
  refine X_iushr (show decode cL_pick 6 = .ok (.iushr, 1) by decide +kernel) rfl ?_
  refine X_iload_n (j := 2) (show decode cL_pick 7 = .ok (.iload_n 2, 1) by decide +kernel) rfl rfl ?_
  obtain ⟨s3, w⟩ := w
  refine X_irem (show decode cL_pick 8 = .ok (.irem, 1) by decide +kernel) s3 ?_
  exact X_iret ⟨(show decode cL_pick 9 = .ok (.ireturn, 1) by decide +kernel), .int, rfl, rfl⟩ ⟨_, rfl, w⟩
set_option maxRecDepth 100000 in
set_option maxHeartbeats 4000000 in
theorem kL_addBlock {a0 : Nat} {a1 : Int32} {h : AH} {K : Int32 → AH → Prop} (w : wL_addBlock a0 a1 h K) : Cn mL_addBlock (cwh mL_addBlock) 11 1 6 [.ref a0, .int a1] h (KI K) T0 := by
  refine CnH_of (by decide +kernel) (Nat.le_of_ble_eq_true rfl) ?_
  show X mL_addBlock 11 (KI K) T0 1 6 0 [(0, .ref a0), (1, .int a1)] [] h
  unfold wL_addBlock at w
  refine X_aload_n (j := 0) (show decode cL_addBlock 0 = .ok (.aload_n 0, 1) by decide +kernel) rfl rfl ?_
  refine X_iload_n (j := 1) (show decode cL_addBlock 1 = .ok (.iload_n 1, 1) by decide +kernel) rfl rfl ?_
  obtain ⟨s4, w⟩ := w
  refine X_vI (rc' := 0) (rs' := 0) (as := [.int _]) mv_L_14 (show decode cL_addBlock 2 = .ok (.invokevirtual 14, 3) by decide +kernel) (by decide) (Nat.le_of_ble_eq_true rfl) (Nat.le_of_ble_eq_true rfl) rfl rfl (Nat.le_of_ble_eq_true rfl) (rcvD s4 (by decide) rfl) (kX9_addBlock w) (fun E9 h3 hk => ?_) (fun r2 h1 w => ?_)
  · rcases hk with ⟨rfl, w⟩ | ⟨rfl, w⟩
    · skip
      refine XT_catch (name := "java/lang/IllegalArgumentException") (i := 2) (j := 1) (ls' := []) [] (0, 5, 6, 20) [(0, 5, 10, 22)] rfl (fun z hz => absurd hz List.not_mem_nil) (by decide) (by decide) (gw_of (List.mem_of_getElem? (i := 691) (by decide +kernel)) (by decide +kernel)) (List.mem_of_getElem? (i := 3) rfl) (Or.inl ⟨2, rfl, (show decode cL_addBlock 6 = .ok (.astore_n 2, 1) by decide +kernel), rfl⟩) (Nat.le_of_ble_eq_true rfl) (fun q hq => absurd hq List.not_mem_nil) ?_
      refine X_bipush (v := (-78)) (show decode cL_addBlock 7 = .ok (.bipush (-78), 2) by decide +kernel) (by decide) ?_
      exact X_iret ⟨(show decode cL_addBlock 9 = .ok (.ireturn, 1) by decide +kernel), .int, rfl, rfl⟩ ⟨_, rfl, w⟩
    · skip
      refine XT_catch (name := "java/lang/IllegalStateException") (i := 2) (j := 1) (ls' := []) [(0, 5, 6, 20)] (0, 5, 10, 22) [] rfl (by
            intro z hz
            simp only [List.mem_cons, List.not_mem_nil, or_false] at hz
            rcases hz with rfl
            · exact ⟨by decide, _, gw_of (List.mem_of_getElem? (i := 691) (by decide +kernel)) (by decide +kernel), List.mem_of_getElem? (i := 11) rfl⟩
            ) (by decide) (by decide) (gw_of (List.mem_of_getElem? (i := 692) (by decide +kernel)) (by decide +kernel)) (List.mem_of_getElem? (i := 4) rfl) (Or.inl ⟨2, rfl, (show decode cL_addBlock 10 = .ok (.astore_n 2, 1) by decide +kernel), rfl⟩) (Nat.le_of_ble_eq_true rfl) (fun q hq => absurd hq List.not_mem_nil) ?_
      refine X_bipush (v := (-79)) (show decode cL_addBlock 11 = .ok (.bipush (-79), 2) by decide +kernel) (by decide) ?_
      exact X_iret ⟨(show decode cL_addBlock 13 = .ok (.ireturn, 1) by decide +kernel), .int, rfl, rfl⟩ ⟨_, rfl, w⟩
  · skip
    exact X_iret ⟨(show decode cL_addBlock 5 = .ok (.ireturn, 1) by decide +kernel), .int, rfl, rfl⟩ ⟨_, rfl, w⟩
set_option maxRecDepth 100000 in
set_option maxHeartbeats 4000000 in
theorem kL_addPoint {a0 : Nat} {a1 : Int32} {a2 : Int32} {a3 : Int32} {h : AH} {K : Int32 → AH → Prop} (w : wL_addPoint a0 a1 a2 a3 h K) : Cn mL_addPoint (cwh mL_addPoint) 11 1 6 [.ref a0, .int a1, .int a2, .int a3] h (KI K) T0 := by
  refine CnH_of (by decide +kernel) (Nat.le_of_ble_eq_true rfl) ?_
  show X mL_addPoint 11 (KI K) T0 1 6 0 [(0, .ref a0), (1, .int a1), (2, .int a2), (3, .int a3)] [] h
  unfold wL_addPoint at w
  refine X_aload_n (j := 0) (show decode cL_addPoint 0 = .ok (.aload_n 0, 1) by decide +kernel) rfl rfl ?_
  refine X_iload_n (j := 1) (show decode cL_addPoint 1 = .ok (.iload_n 1, 1) by decide +kernel) rfl rfl ?_
  refine X_iload_n (j := 2) (show decode cL_addPoint 2 = .ok (.iload_n 2, 1) by decide +kernel) rfl rfl ?_
  refine X_iload_n (j := 3) (show decode cL_addPoint 3 = .ok (.iload_n 3, 1) by decide +kernel) rfl rfl ?_
  obtain ⟨s4, w⟩ := w
  refine X_vI (rc' := 0) (rs' := 0) (as := [.int _, .int _, .int _]) mv_L_24 (show decode cL_addPoint 4 = .ok (.invokevirtual 24, 3) by decide +kernel) (by decide) (Nat.le_of_ble_eq_true rfl) (Nat.le_of_ble_eq_true rfl) rfl rfl (Nat.le_of_ble_eq_true rfl) (rcvD s4 (by decide) rfl) (kX9_addPoint w) (fun E9 h3 hk => ?_) (fun r2 h1 w => ?_)
  · rcases hk with ⟨rfl, w⟩ | ⟨rfl, w⟩ | ⟨rfl, w⟩
    · skip
      refine XT_catch (name := "java/lang/IndexOutOfBoundsException") (i := 4) (j := 2) (ls' := []) [] (0, 7, 8, 28) [(0, 7, 13, 20), (0, 7, 18, 22)] rfl (fun z hz => absurd hz List.not_mem_nil) (by decide) (by decide) (gw_of (List.mem_of_getElem? (i := 406) (by decide +kernel)) (by decide +kernel)) (List.mem_of_getElem? (i := 5) rfl) (Or.inr ⟨(show decode cL_addPoint 8 = .ok (.astore 4, 2) by decide +kernel), rfl⟩) (Nat.le_of_ble_eq_true rfl) (fun q hq => absurd hq List.not_mem_nil) ?_
      refine X_bipush (v := (-77)) (show decode cL_addPoint 10 = .ok (.bipush (-77), 2) by decide +kernel) (by decide) ?_
      exact X_iret ⟨(show decode cL_addPoint 12 = .ok (.ireturn, 1) by decide +kernel), .int, rfl, rfl⟩ ⟨_, rfl, w⟩
    · skip
      refine XT_catch (name := "java/lang/IllegalArgumentException") (i := 4) (j := 2) (ls' := []) [(0, 7, 8, 28)] (0, 7, 13, 20) [(0, 7, 18, 22)] rfl (by
            intro z hz
            simp only [List.mem_cons, List.not_mem_nil, or_false] at hz
            rcases hz with rfl
            · exact ⟨by decide, _, gw_of (List.mem_of_getElem? (i := 406) (by decide +kernel)) (by decide +kernel), List.mem_of_getElem? (i := 7) rfl⟩
            ) (by decide) (by decide) (gw_of (List.mem_of_getElem? (i := 691) (by decide +kernel)) (by decide +kernel)) (List.mem_of_getElem? (i := 3) rfl) (Or.inr ⟨(show decode cL_addPoint 13 = .ok (.astore 4, 2) by decide +kernel), rfl⟩) (Nat.le_of_ble_eq_true rfl) (fun q hq => absurd hq List.not_mem_nil) ?_
      refine X_bipush (v := (-78)) (show decode cL_addPoint 15 = .ok (.bipush (-78), 2) by decide +kernel) (by decide) ?_
      exact X_iret ⟨(show decode cL_addPoint 17 = .ok (.ireturn, 1) by decide +kernel), .int, rfl, rfl⟩ ⟨_, rfl, w⟩
    · skip
      refine XT_catch (name := "java/lang/IllegalStateException") (i := 4) (j := 2) (ls' := []) [(0, 7, 8, 28), (0, 7, 13, 20)] (0, 7, 18, 22) [] rfl (by
            intro z hz
            simp only [List.mem_cons, List.not_mem_nil, or_false] at hz
            rcases hz with rfl | rfl
            · exact ⟨by decide, _, gw_of (List.mem_of_getElem? (i := 406) (by decide +kernel)) (by decide +kernel), List.mem_of_getElem? (i := 12) rfl⟩
            · exact ⟨by decide, _, gw_of (List.mem_of_getElem? (i := 691) (by decide +kernel)) (by decide +kernel), List.mem_of_getElem? (i := 11) rfl⟩
            ) (by decide) (by decide) (gw_of (List.mem_of_getElem? (i := 692) (by decide +kernel)) (by decide +kernel)) (List.mem_of_getElem? (i := 4) rfl) (Or.inr ⟨(show decode cL_addPoint 18 = .ok (.astore 4, 2) by decide +kernel), rfl⟩) (Nat.le_of_ble_eq_true rfl) (fun q hq => absurd hq List.not_mem_nil) ?_
      refine X_bipush (v := (-79)) (show decode cL_addPoint 20 = .ok (.bipush (-79), 2) by decide +kernel) (by decide) ?_
      exact X_iret ⟨(show decode cL_addPoint 22 = .ok (.ireturn, 1) by decide +kernel), .int, rfl, rfl⟩ ⟨_, rfl, w⟩
  · skip
    exact X_iret ⟨(show decode cL_addPoint 7 = .ok (.ireturn, 1) by decide +kernel), .int, rfl, rfl⟩ ⟨_, rfl, w⟩
set_option maxRecDepth 100000 in
set_option maxHeartbeats 4000000 in
theorem kL_addLink {a0 : Nat} {a1 : Int32} {a2 : Int32} {h : AH} {K : Int32 → AH → Prop} (w : wL_addLink a0 a1 a2 h K) : Cn mL_addLink (cwh mL_addLink) 11 1 6 [.ref a0, .int a1, .int a2] h (KI K) T0 := by
  refine CnH_of (by decide +kernel) (Nat.le_of_ble_eq_true rfl) ?_
  show X mL_addLink 11 (KI K) T0 1 6 0 [(0, .ref a0), (1, .int a1), (2, .int a2)] [] h
  unfold wL_addLink at w
  refine X_aload_n (j := 0) (show decode cL_addLink 0 = .ok (.aload_n 0, 1) by decide +kernel) rfl rfl ?_
  refine X_iload_n (j := 1) (show decode cL_addLink 1 = .ok (.iload_n 1, 1) by decide +kernel) rfl rfl ?_
  refine X_iload_n (j := 2) (show decode cL_addLink 2 = .ok (.iload_n 2, 1) by decide +kernel) rfl rfl ?_
  obtain ⟨s4, w⟩ := w
  refine X_vI (rc' := 0) (rs' := 0) (as := [.int _, .int _]) mv_L_30 (show decode cL_addLink 3 = .ok (.invokevirtual 30, 3) by decide +kernel) (by decide) (Nat.le_of_ble_eq_true rfl) (Nat.le_of_ble_eq_true rfl) rfl rfl (Nat.le_of_ble_eq_true rfl) (rcvD s4 (by decide) rfl) (kX9_addLink w) (fun E9 h3 hk => ?_) (fun r2 h1 w => ?_)
  · rcases hk with ⟨rfl, w⟩ | ⟨rfl, w⟩ | ⟨rfl, w⟩
    · skip
      refine XT_catch (name := "java/lang/IndexOutOfBoundsException") (i := 3) (j := 1) (ls' := []) [] (0, 6, 7, 28) [(0, 6, 11, 20), (0, 6, 15, 22)] rfl (fun z hz => absurd hz List.not_mem_nil) (by decide) (by decide) (gw_of (List.mem_of_getElem? (i := 406) (by decide +kernel)) (by decide +kernel)) (List.mem_of_getElem? (i := 5) rfl) (Or.inl ⟨3, rfl, (show decode cL_addLink 7 = .ok (.astore_n 3, 1) by decide +kernel), rfl⟩) (Nat.le_of_ble_eq_true rfl) (fun q hq => absurd hq List.not_mem_nil) ?_
      refine X_bipush (v := (-77)) (show decode cL_addLink 8 = .ok (.bipush (-77), 2) by decide +kernel) (by decide) ?_
      exact X_iret ⟨(show decode cL_addLink 10 = .ok (.ireturn, 1) by decide +kernel), .int, rfl, rfl⟩ ⟨_, rfl, w⟩
    · skip
      refine XT_catch (name := "java/lang/IllegalArgumentException") (i := 3) (j := 1) (ls' := []) [(0, 6, 7, 28)] (0, 6, 11, 20) [(0, 6, 15, 22)] rfl (by
            intro z hz
            simp only [List.mem_cons, List.not_mem_nil, or_false] at hz
            rcases hz with rfl
            · exact ⟨by decide, _, gw_of (List.mem_of_getElem? (i := 406) (by decide +kernel)) (by decide +kernel), List.mem_of_getElem? (i := 7) rfl⟩
            ) (by decide) (by decide) (gw_of (List.mem_of_getElem? (i := 691) (by decide +kernel)) (by decide +kernel)) (List.mem_of_getElem? (i := 3) rfl) (Or.inl ⟨3, rfl, (show decode cL_addLink 11 = .ok (.astore_n 3, 1) by decide +kernel), rfl⟩) (Nat.le_of_ble_eq_true rfl) (fun q hq => absurd hq List.not_mem_nil) ?_
      refine X_bipush (v := (-78)) (show decode cL_addLink 12 = .ok (.bipush (-78), 2) by decide +kernel) (by decide) ?_
      exact X_iret ⟨(show decode cL_addLink 14 = .ok (.ireturn, 1) by decide +kernel), .int, rfl, rfl⟩ ⟨_, rfl, w⟩
    · skip
      refine XT_catch (name := "java/lang/IllegalStateException") (i := 3) (j := 1) (ls' := []) [(0, 6, 7, 28), (0, 6, 11, 20)] (0, 6, 15, 22) [] rfl (by
            intro z hz
            simp only [List.mem_cons, List.not_mem_nil, or_false] at hz
            rcases hz with rfl | rfl
            · exact ⟨by decide, _, gw_of (List.mem_of_getElem? (i := 406) (by decide +kernel)) (by decide +kernel), List.mem_of_getElem? (i := 12) rfl⟩
            · exact ⟨by decide, _, gw_of (List.mem_of_getElem? (i := 691) (by decide +kernel)) (by decide +kernel), List.mem_of_getElem? (i := 11) rfl⟩
            ) (by decide) (by decide) (gw_of (List.mem_of_getElem? (i := 692) (by decide +kernel)) (by decide +kernel)) (List.mem_of_getElem? (i := 4) rfl) (Or.inl ⟨3, rfl, (show decode cL_addLink 15 = .ok (.astore_n 3, 1) by decide +kernel), rfl⟩) (Nat.le_of_ble_eq_true rfl) (fun q hq => absurd hq List.not_mem_nil) ?_
      refine X_bipush (v := (-79)) (show decode cL_addLink 16 = .ok (.bipush (-79), 2) by decide +kernel) (by decide) ?_
      exact X_iret ⟨(show decode cL_addLink 18 = .ok (.ireturn, 1) by decide +kernel), .int, rfl, rfl⟩ ⟨_, rfl, w⟩
  · skip
    exact X_iret ⟨(show decode cL_addLink 6 = .ok (.ireturn, 1) by decide +kernel), .int, rfl, rfl⟩ ⟨_, rfl, w⟩
set_option maxRecDepth 100000 in
set_option maxHeartbeats 4000000 in
theorem kL_shut {a0 : Nat} {a1 : Int32} {h : AH} {K : Int32 → AH → Prop} (w : wL_shut a0 a1 h K) : Cn mL_shut (cwh mL_shut) 11 1 6 [.ref a0, .int a1] h (KI K) T0 := by
  refine CnH_of (by decide +kernel) (Nat.le_of_ble_eq_true rfl) ?_
  show X mL_shut 11 (KI K) T0 1 6 0 [(0, .ref a0), (1, .int a1)] [] h
  unfold wL_shut at w
  refine X_aload_n (j := 0) (show decode cL_shut 0 = .ok (.aload_n 0, 1) by decide +kernel) rfl rfl ?_
  refine X_iload_n (j := 1) (show decode cL_shut 1 = .ok (.iload_n 1, 1) by decide +kernel) rfl rfl ?_
  obtain ⟨s4, w⟩ := w
  refine X_vI (rc' := 0) (rs' := 0) (as := [.int _]) mv_L_34 (show decode cL_shut 2 = .ok (.invokevirtual 34, 3) by decide +kernel) (by decide) (Nat.le_of_ble_eq_true rfl) (Nat.le_of_ble_eq_true rfl) rfl rfl (Nat.le_of_ble_eq_true rfl) (rcvD s4 (by decide) rfl) (kX9_shut w) (fun E9 h3 hk => ?_) (fun r2 h1 w => ?_)
  · rcases hk with ⟨rfl, w⟩ | ⟨rfl, w⟩
    · skip
      refine XT_catch (name := "java/lang/IndexOutOfBoundsException") (i := 2) (j := 1) (ls' := []) [] (0, 5, 6, 28) [(0, 5, 10, 22)] rfl (fun z hz => absurd hz List.not_mem_nil) (by decide) (by decide) (gw_of (List.mem_of_getElem? (i := 406) (by decide +kernel)) (by decide +kernel)) (List.mem_of_getElem? (i := 5) rfl) (Or.inl ⟨2, rfl, (show decode cL_shut 6 = .ok (.astore_n 2, 1) by decide +kernel), rfl⟩) (Nat.le_of_ble_eq_true rfl) (fun q hq => absurd hq List.not_mem_nil) ?_
      refine X_bipush (v := (-77)) (show decode cL_shut 7 = .ok (.bipush (-77), 2) by decide +kernel) (by decide) ?_
      exact X_iret ⟨(show decode cL_shut 9 = .ok (.ireturn, 1) by decide +kernel), .int, rfl, rfl⟩ ⟨_, rfl, w⟩
    · skip
      refine XT_catch (name := "java/lang/IllegalStateException") (i := 2) (j := 1) (ls' := []) [(0, 5, 6, 28)] (0, 5, 10, 22) [] rfl (by
            intro z hz
            simp only [List.mem_cons, List.not_mem_nil, or_false] at hz
            rcases hz with rfl
            · exact ⟨by decide, _, gw_of (List.mem_of_getElem? (i := 406) (by decide +kernel)) (by decide +kernel), List.mem_of_getElem? (i := 12) rfl⟩
            ) (by decide) (by decide) (gw_of (List.mem_of_getElem? (i := 692) (by decide +kernel)) (by decide +kernel)) (List.mem_of_getElem? (i := 4) rfl) (Or.inl ⟨2, rfl, (show decode cL_shut 10 = .ok (.astore_n 2, 1) by decide +kernel), rfl⟩) (Nat.le_of_ble_eq_true rfl) (fun q hq => absurd hq List.not_mem_nil) ?_
      refine X_bipush (v := (-79)) (show decode cL_shut 11 = .ok (.bipush (-79), 2) by decide +kernel) (by decide) ?_
      exact X_iret ⟨(show decode cL_shut 13 = .ok (.ireturn, 1) by decide +kernel), .int, rfl, rfl⟩ ⟨_, rfl, w⟩
  · skip
    exact X_iret ⟨(show decode cL_shut 5 = .ok (.ireturn, 1) by decide +kernel), .int, rfl, rfl⟩ ⟨_, rfl, w⟩
set_option maxRecDepth 100000 in
set_option maxHeartbeats 4000000 in
theorem kL_open {a0 : Nat} {a1 : Int32} {h : AH} {K : Int32 → AH → Prop} (w : wL_open a0 a1 h K) : Cn mL_open (cwh mL_open) 11 1 6 [.ref a0, .int a1] h (KI K) T0 := by
  refine CnH_of (by decide +kernel) (Nat.le_of_ble_eq_true rfl) ?_
  show X mL_open 11 (KI K) T0 1 6 0 [(0, .ref a0), (1, .int a1)] [] h
  unfold wL_open at w
  refine X_aload_n (j := 0) (show decode cL_open 0 = .ok (.aload_n 0, 1) by decide +kernel) rfl rfl ?_
  refine X_iload_n (j := 1) (show decode cL_open 1 = .ok (.iload_n 1, 1) by decide +kernel) rfl rfl ?_
  obtain ⟨s4, w⟩ := w
  refine X_vI (rc' := 0) (rs' := 0) (as := [.int _]) mv_L_37 (show decode cL_open 2 = .ok (.invokevirtual 37, 3) by decide +kernel) (by decide) (Nat.le_of_ble_eq_true rfl) (Nat.le_of_ble_eq_true rfl) rfl rfl (Nat.le_of_ble_eq_true rfl) (rcvD s4 (by decide) rfl) (kX9_open w) (fun E9 h3 hk => ?_) (fun r2 h1 w => ?_)
  · rcases hk with ⟨rfl, w⟩ | ⟨rfl, w⟩
    · skip
      refine XT_catch (name := "java/lang/IndexOutOfBoundsException") (i := 2) (j := 1) (ls' := []) [] (0, 5, 6, 28) [(0, 5, 10, 22)] rfl (fun z hz => absurd hz List.not_mem_nil) (by decide) (by decide) (gw_of (List.mem_of_getElem? (i := 406) (by decide +kernel)) (by decide +kernel)) (List.mem_of_getElem? (i := 5) rfl) (Or.inl ⟨2, rfl, (show decode cL_open 6 = .ok (.astore_n 2, 1) by decide +kernel), rfl⟩) (Nat.le_of_ble_eq_true rfl) (fun q hq => absurd hq List.not_mem_nil) ?_
      refine X_bipush (v := (-77)) (show decode cL_open 7 = .ok (.bipush (-77), 2) by decide +kernel) (by decide) ?_
      exact X_iret ⟨(show decode cL_open 9 = .ok (.ireturn, 1) by decide +kernel), .int, rfl, rfl⟩ ⟨_, rfl, w⟩
    · skip
      refine XT_catch (name := "java/lang/IllegalStateException") (i := 2) (j := 1) (ls' := []) [(0, 5, 6, 28)] (0, 5, 10, 22) [] rfl (by
            intro z hz
            simp only [List.mem_cons, List.not_mem_nil, or_false] at hz
            rcases hz with rfl
            · exact ⟨by decide, _, gw_of (List.mem_of_getElem? (i := 406) (by decide +kernel)) (by decide +kernel), List.mem_of_getElem? (i := 12) rfl⟩
            ) (by decide) (by decide) (gw_of (List.mem_of_getElem? (i := 692) (by decide +kernel)) (by decide +kernel)) (List.mem_of_getElem? (i := 4) rfl) (Or.inl ⟨2, rfl, (show decode cL_open 10 = .ok (.astore_n 2, 1) by decide +kernel), rfl⟩) (Nat.le_of_ble_eq_true rfl) (fun q hq => absurd hq List.not_mem_nil) ?_
      refine X_bipush (v := (-79)) (show decode cL_open 11 = .ok (.bipush (-79), 2) by decide +kernel) (by decide) ?_
      exact X_iret ⟨(show decode cL_open 13 = .ok (.ireturn, 1) by decide +kernel), .int, rfl, rfl⟩ ⟨_, rfl, w⟩
  · skip
    exact X_iret ⟨(show decode cL_open 5 = .ok (.ireturn, 1) by decide +kernel), .int, rfl, rfl⟩ ⟨_, rfl, w⟩
set_option maxRecDepth 100000 in
set_option maxHeartbeats 4000000 in
theorem kL_throwPoint {a0 : Nat} {a1 : Int32} {h : AH} {K : Int32 → AH → Prop} (w : wL_throwPoint a0 a1 h K) : Cn mL_throwPoint (cwh mL_throwPoint) 11 1 6 [.ref a0, .int a1] h (KI K) T0 := by
  refine CnH_of (by decide +kernel) (Nat.le_of_ble_eq_true rfl) ?_
  show X mL_throwPoint 11 (KI K) T0 1 6 0 [(0, .ref a0), (1, .int a1)] [] h
  unfold wL_throwPoint at w
  refine X_aload_n (j := 0) (show decode cL_throwPoint 0 = .ok (.aload_n 0, 1) by decide +kernel) rfl rfl ?_
  refine X_iload_n (j := 1) (show decode cL_throwPoint 1 = .ok (.iload_n 1, 1) by decide +kernel) rfl rfl ?_
  obtain ⟨s5, w⟩ := w
  refine X_vI (rc' := 0) (rs' := 0) (as := [.int _]) mv_L_40 (show decode cL_throwPoint 2 = .ok (.invokevirtual 40, 3) by decide +kernel) (by decide) (Nat.le_of_ble_eq_true rfl) (Nat.le_of_ble_eq_true rfl) rfl rfl (Nat.le_of_ble_eq_true rfl) (rcvD s5 (by decide) rfl) (kX9_throwPoint w) (fun E9 h4 hk => ?_) (fun r2 h1 w => ?_)
  · rcases hk with ⟨rfl, w⟩ | ⟨rfl, w⟩
    · skip
      refine XT_catch (name := "java/lang/IndexOutOfBoundsException") (i := 2) (j := 1) (ls' := []) [] (0, 13, 14, 28) [(0, 13, 18, 22)] rfl (fun z hz => absurd hz List.not_mem_nil) (by decide) (by decide) (gw_of (List.mem_of_getElem? (i := 406) (by decide +kernel)) (by decide +kernel)) (List.mem_of_getElem? (i := 5) rfl) (Or.inl ⟨2, rfl, (show decode cL_throwPoint 14 = .ok (.astore_n 2, 1) by decide +kernel), rfl⟩) (Nat.le_of_ble_eq_true rfl) (fun q hq => absurd hq List.not_mem_nil) ?_
      refine X_bipush (v := (-77)) (show decode cL_throwPoint 15 = .ok (.bipush (-77), 2) by decide +kernel) (by decide) ?_
      exact X_iret ⟨(show decode cL_throwPoint 17 = .ok (.ireturn, 1) by decide +kernel), .int, rfl, rfl⟩ ⟨_, rfl, w⟩
    · skip
      refine XT_catch (name := "java/lang/IllegalStateException") (i := 2) (j := 1) (ls' := []) [(0, 13, 14, 28)] (0, 13, 18, 22) [] rfl (by
            intro z hz
            simp only [List.mem_cons, List.not_mem_nil, or_false] at hz
            rcases hz with rfl
            · exact ⟨by decide, _, gw_of (List.mem_of_getElem? (i := 406) (by decide +kernel)) (by decide +kernel), List.mem_of_getElem? (i := 12) rfl⟩
            ) (by decide) (by decide) (gw_of (List.mem_of_getElem? (i := 692) (by decide +kernel)) (by decide +kernel)) (List.mem_of_getElem? (i := 4) rfl) (Or.inl ⟨2, rfl, (show decode cL_throwPoint 18 = .ok (.astore_n 2, 1) by decide +kernel), rfl⟩) (Nat.le_of_ble_eq_true rfl) (fun q hq => absurd hq List.not_mem_nil) ?_
      refine X_bipush (v := (-79)) (show decode cL_throwPoint 19 = .ok (.bipush (-79), 2) by decide +kernel) (by decide) ?_
      exact X_iret ⟨(show decode cL_throwPoint 21 = .ok (.ireturn, 1) by decide +kernel), .int, rfl, rfl⟩ ⟨_, rfl, w⟩
  · skip
    refine X_if_eq (tgt := 12) (show decode cL_throwPoint 5 = .ok (.ifCond .eq 7, 3) by decide +kernel) (by decide) ⟨fun c3 => ?_, fun c3 => ?_⟩
    · have w := w.1 c3
      refine X_iconst (v := (nI 0)) (show decode cL_throwPoint 12 = .ok (.iconst 0, 1) by decide +kernel) (by decide) ?_
      exact X_iret ⟨(show decode cL_throwPoint 13 = .ok (.ireturn, 1) by decide +kernel), .int, rfl, rfl⟩ ⟨_, rfl, w⟩
    · have w := w.2 c3
      refine X_iconst (v := (nI 1)) (show decode cL_throwPoint 8 = .ok (.iconst 1, 1) by decide +kernel) (by decide) ?_
      refine X_goto (tgt := 13) (show decode cL_throwPoint 9 = .ok (.goto 4, 3) by decide +kernel) (by decide) ?_
      exact X_iret ⟨(show decode cL_throwPoint 13 = .ok (.ireturn, 1) by decide +kernel), .int, rfl, rfl⟩ ⟨_, rfl, w⟩
set_option maxRecDepth 100000 in
set_option maxHeartbeats 4000000 in
theorem kL_addTrain {a0 : Nat} {a1 : Int32} {a2 : Int32} {h : AH} {K : Int32 → AH → Prop} (w : wL_addTrain a0 a1 a2 h K) : Cn mL_addTrain (cwh mL_addTrain) 11 1 6 [.ref a0, .int a1, .int a2] h (KI K) T0 := by
  refine CnH_of (by decide +kernel) (Nat.le_of_ble_eq_true rfl) ?_
  show X mL_addTrain 11 (KI K) T0 1 6 0 [(0, .ref a0), (1, .int a1), (2, .int a2)] [] h
  unfold wL_addTrain at w
  refine X_aload_n (j := 0) (show decode cL_addTrain 0 = .ok (.aload_n 0, 1) by decide +kernel) rfl rfl ?_
  refine X_iload_n (j := 1) (show decode cL_addTrain 1 = .ok (.iload_n 1, 1) by decide +kernel) rfl rfl ?_
  refine X_iload_n (j := 2) (show decode cL_addTrain 2 = .ok (.iload_n 2, 1) by decide +kernel) rfl rfl ?_
  obtain ⟨s4, w⟩ := w
  refine X_vI (rc' := 0) (rs' := 0) (as := [.int _, .int _]) mv_L_44 (show decode cL_addTrain 3 = .ok (.invokevirtual 44, 3) by decide +kernel) (by decide) (Nat.le_of_ble_eq_true rfl) (Nat.le_of_ble_eq_true rfl) rfl rfl (Nat.le_of_ble_eq_true rfl) (rcvD s4 (by decide) rfl) (kX9_addTrain w) (fun E9 h3 hk => ?_) (fun r2 h1 w => ?_)
  · rcases hk with ⟨rfl, w⟩ | ⟨rfl, w⟩ | ⟨rfl, w⟩
    · skip
      refine XT_catch (name := "java/lang/IndexOutOfBoundsException") (i := 3) (j := 1) (ls' := []) [] (0, 6, 7, 28) [(0, 6, 11, 20), (0, 6, 15, 22)] rfl (fun z hz => absurd hz List.not_mem_nil) (by decide) (by decide) (gw_of (List.mem_of_getElem? (i := 406) (by decide +kernel)) (by decide +kernel)) (List.mem_of_getElem? (i := 5) rfl) (Or.inl ⟨3, rfl, (show decode cL_addTrain 7 = .ok (.astore_n 3, 1) by decide +kernel), rfl⟩) (Nat.le_of_ble_eq_true rfl) (fun q hq => absurd hq List.not_mem_nil) ?_
      refine X_bipush (v := (-77)) (show decode cL_addTrain 8 = .ok (.bipush (-77), 2) by decide +kernel) (by decide) ?_
      exact X_iret ⟨(show decode cL_addTrain 10 = .ok (.ireturn, 1) by decide +kernel), .int, rfl, rfl⟩ ⟨_, rfl, w⟩
    · skip
      refine XT_catch (name := "java/lang/IllegalArgumentException") (i := 3) (j := 1) (ls' := []) [(0, 6, 7, 28)] (0, 6, 11, 20) [(0, 6, 15, 22)] rfl (by
            intro z hz
            simp only [List.mem_cons, List.not_mem_nil, or_false] at hz
            rcases hz with rfl
            · exact ⟨by decide, _, gw_of (List.mem_of_getElem? (i := 406) (by decide +kernel)) (by decide +kernel), List.mem_of_getElem? (i := 7) rfl⟩
            ) (by decide) (by decide) (gw_of (List.mem_of_getElem? (i := 691) (by decide +kernel)) (by decide +kernel)) (List.mem_of_getElem? (i := 3) rfl) (Or.inl ⟨3, rfl, (show decode cL_addTrain 11 = .ok (.astore_n 3, 1) by decide +kernel), rfl⟩) (Nat.le_of_ble_eq_true rfl) (fun q hq => absurd hq List.not_mem_nil) ?_
      refine X_bipush (v := (-78)) (show decode cL_addTrain 12 = .ok (.bipush (-78), 2) by decide +kernel) (by decide) ?_
      exact X_iret ⟨(show decode cL_addTrain 14 = .ok (.ireturn, 1) by decide +kernel), .int, rfl, rfl⟩ ⟨_, rfl, w⟩
    · skip
      refine XT_catch (name := "java/lang/IllegalStateException") (i := 3) (j := 1) (ls' := []) [(0, 6, 7, 28), (0, 6, 11, 20)] (0, 6, 15, 22) [] rfl (by
            intro z hz
            simp only [List.mem_cons, List.not_mem_nil, or_false] at hz
            rcases hz with rfl | rfl
            · exact ⟨by decide, _, gw_of (List.mem_of_getElem? (i := 406) (by decide +kernel)) (by decide +kernel), List.mem_of_getElem? (i := 12) rfl⟩
            · exact ⟨by decide, _, gw_of (List.mem_of_getElem? (i := 691) (by decide +kernel)) (by decide +kernel), List.mem_of_getElem? (i := 11) rfl⟩
            ) (by decide) (by decide) (gw_of (List.mem_of_getElem? (i := 692) (by decide +kernel)) (by decide +kernel)) (List.mem_of_getElem? (i := 4) rfl) (Or.inl ⟨3, rfl, (show decode cL_addTrain 15 = .ok (.astore_n 3, 1) by decide +kernel), rfl⟩) (Nat.le_of_ble_eq_true rfl) (fun q hq => absurd hq List.not_mem_nil) ?_
      refine X_bipush (v := (-79)) (show decode cL_addTrain 16 = .ok (.bipush (-79), 2) by decide +kernel) (by decide) ?_
      exact X_iret ⟨(show decode cL_addTrain 18 = .ok (.ireturn, 1) by decide +kernel), .int, rfl, rfl⟩ ⟨_, rfl, w⟩
  · skip
    exact X_iret ⟨(show decode cL_addTrain 6 = .ok (.ireturn, 1) by decide +kernel), .int, rfl, rfl⟩ ⟨_, rfl, w⟩
set_option maxRecDepth 100000 in
set_option maxHeartbeats 4000000 in
theorem kL_setRoute {a0 : Nat} {a1 : Int32} {h : AH} {K : Int32 → AH → Prop} (w : wL_setRoute a0 a1 h K) : Cn mL_setRoute (cwh mL_setRoute) 11 1 6 [.ref a0, .int a1] h (KI K) T0 := by
  refine CnH_of (by decide +kernel) (Nat.le_of_ble_eq_true rfl) ?_
  show X mL_setRoute 11 (KI K) T0 1 6 0 [(0, .ref a0), (1, .int a1)] [] h
  unfold wL_setRoute at w
  refine X_aload_n (j := 0) (show decode cL_setRoute 0 = .ok (.aload_n 0, 1) by decide +kernel) rfl rfl ?_
  refine X_iload_n (j := 1) (show decode cL_setRoute 1 = .ok (.iload_n 1, 1) by decide +kernel) rfl rfl ?_
  obtain ⟨s4, w⟩ := w
  refine X_vI (rc' := 0) (rs' := 0) (as := [.int _]) mv_L_47 (show decode cL_setRoute 2 = .ok (.invokevirtual 47, 3) by decide +kernel) (by decide) (Nat.le_of_ble_eq_true rfl) (Nat.le_of_ble_eq_true rfl) rfl rfl (Nat.le_of_ble_eq_true rfl) (rcvD s4 (by decide) rfl) (kX9_setRoute w) (fun E9 h3 hk => ?_) (fun r2 h1 w => ?_)
  · rcases hk with ⟨rfl, w⟩ | ⟨rfl, w⟩ | ⟨rfl, w⟩
    · skip
      refine XT_catch (name := "java/util/NoSuchElementException") (i := 2) (j := 1) (ls' := []) [] (0, 5, 6, 50) [(0, 5, 10, 22), (0, 5, 14, 52)] rfl (fun z hz => absurd hz List.not_mem_nil) (by decide) (by decide) (gw_of (List.mem_of_getElem? (i := 533) (by decide +kernel)) (by decide +kernel)) (List.mem_of_getElem? (i := 8) rfl) (Or.inl ⟨2, rfl, (show decode cL_setRoute 6 = .ok (.astore_n 2, 1) by decide +kernel), rfl⟩) (Nat.le_of_ble_eq_true rfl) (fun q hq => absurd hq List.not_mem_nil) ?_
      refine X_bipush (v := (-75)) (show decode cL_setRoute 7 = .ok (.bipush (-75), 2) by decide +kernel) (by decide) ?_
      exact X_iret ⟨(show decode cL_setRoute 9 = .ok (.ireturn, 1) by decide +kernel), .int, rfl, rfl⟩ ⟨_, rfl, w⟩
    · skip
      refine XT_catch (name := "java/lang/IllegalStateException") (i := 2) (j := 1) (ls' := []) [(0, 5, 6, 50)] (0, 5, 10, 22) [(0, 5, 14, 52)] rfl (by
            intro z hz
            simp only [List.mem_cons, List.not_mem_nil, or_false] at hz
            rcases hz with rfl
            · exact ⟨by decide, _, gw_of (List.mem_of_getElem? (i := 533) (by decide +kernel)) (by decide +kernel), List.mem_of_getElem? (i := 14) rfl⟩
            ) (by decide) (by decide) (gw_of (List.mem_of_getElem? (i := 692) (by decide +kernel)) (by decide +kernel)) (List.mem_of_getElem? (i := 4) rfl) (Or.inl ⟨2, rfl, (show decode cL_setRoute 10 = .ok (.astore_n 2, 1) by decide +kernel), rfl⟩) (Nat.le_of_ble_eq_true rfl) (fun q hq => absurd hq List.not_mem_nil) ?_
      refine X_bipush (v := (-79)) (show decode cL_setRoute 11 = .ok (.bipush (-79), 2) by decide +kernel) (by decide) ?_
      exact X_iret ⟨(show decode cL_setRoute 13 = .ok (.ireturn, 1) by decide +kernel), .int, rfl, rfl⟩ ⟨_, rfl, w⟩
    · skip
      refine XT_catch (name := "java/lang/UnsupportedOperationException") (i := 2) (j := 1) (ls' := []) [(0, 5, 6, 50), (0, 5, 10, 22)] (0, 5, 14, 52) [] rfl (by
            intro z hz
            simp only [List.mem_cons, List.not_mem_nil, or_false] at hz
            rcases hz with rfl | rfl
            · exact ⟨by decide, _, gw_of (List.mem_of_getElem? (i := 533) (by decide +kernel)) (by decide +kernel), List.mem_of_getElem? (i := 24) rfl⟩
            · exact ⟨by decide, _, gw_of (List.mem_of_getElem? (i := 692) (by decide +kernel)) (by decide +kernel), List.mem_of_getElem? (i := 22) rfl⟩
            ) (by decide) (by decide) (gw_of (List.mem_of_getElem? (i := 921) (by decide +kernel)) (by decide +kernel)) (List.mem_of_getElem? (i := 7) rfl) (Or.inl ⟨2, rfl, (show decode cL_setRoute 14 = .ok (.astore_n 2, 1) by decide +kernel), rfl⟩) (Nat.le_of_ble_eq_true rfl) (fun q hq => absurd hq List.not_mem_nil) ?_
      refine X_bipush (v := (-76)) (show decode cL_setRoute 15 = .ok (.bipush (-76), 2) by decide +kernel) (by decide) ?_
      exact X_iret ⟨(show decode cL_setRoute 17 = .ok (.ireturn, 1) by decide +kernel), .int, rfl, rfl⟩ ⟨_, rfl, w⟩
  · skip
    exact X_iret ⟨(show decode cL_setRoute 5 = .ok (.ireturn, 1) by decide +kernel), .int, rfl, rfl⟩ ⟨_, rfl, w⟩
set_option maxRecDepth 100000 in
set_option maxHeartbeats 4000000 in
theorem kL_releaseRoute {a0 : Nat} {a1 : Int32} {h : AH} {K : Int32 → AH → Prop} (w : wL_releaseRoute a0 a1 h K) : Cn mL_releaseRoute (cwh mL_releaseRoute) 11 1 6 [.ref a0, .int a1] h (KI K) T0 := by
  refine CnH_of (by decide +kernel) (Nat.le_of_ble_eq_true rfl) ?_
  show X mL_releaseRoute 11 (KI K) T0 1 6 0 [(0, .ref a0), (1, .int a1)] [] h
  unfold wL_releaseRoute at w
  refine X_aload_n (j := 0) (show decode cL_releaseRoute 0 = .ok (.aload_n 0, 1) by decide +kernel) rfl rfl ?_
  refine X_iload_n (j := 1) (show decode cL_releaseRoute 1 = .ok (.iload_n 1, 1) by decide +kernel) rfl rfl ?_
  obtain ⟨s4, w⟩ := w
  refine X_vI (rc' := 0) (rs' := 0) (as := [.int _]) mv_L_54 (show decode cL_releaseRoute 2 = .ok (.invokevirtual 54, 3) by decide +kernel) (by decide) (Nat.le_of_ble_eq_true rfl) (Nat.le_of_ble_eq_true rfl) rfl rfl (Nat.le_of_ble_eq_true rfl) (rcvD s4 (by decide) rfl) (kX9_releaseRoute w) (fun E9 h3 hk => ?_) (fun r2 h1 w => ?_)
  · rcases hk with ⟨rfl, w⟩ | ⟨rfl, w⟩
    · skip
      refine XT_catch (name := "java/util/NoSuchElementException") (i := 2) (j := 1) (ls' := []) [] (0, 5, 6, 50) [(0, 5, 10, 22)] rfl (fun z hz => absurd hz List.not_mem_nil) (by decide) (by decide) (gw_of (List.mem_of_getElem? (i := 533) (by decide +kernel)) (by decide +kernel)) (List.mem_of_getElem? (i := 8) rfl) (Or.inl ⟨2, rfl, (show decode cL_releaseRoute 6 = .ok (.astore_n 2, 1) by decide +kernel), rfl⟩) (Nat.le_of_ble_eq_true rfl) (fun q hq => absurd hq List.not_mem_nil) ?_
      refine X_bipush (v := (-75)) (show decode cL_releaseRoute 7 = .ok (.bipush (-75), 2) by decide +kernel) (by decide) ?_
      exact X_iret ⟨(show decode cL_releaseRoute 9 = .ok (.ireturn, 1) by decide +kernel), .int, rfl, rfl⟩ ⟨_, rfl, w⟩
    · skip
      refine XT_catch (name := "java/lang/IllegalStateException") (i := 2) (j := 1) (ls' := []) [(0, 5, 6, 50)] (0, 5, 10, 22) [] rfl (by
            intro z hz
            simp only [List.mem_cons, List.not_mem_nil, or_false] at hz
            rcases hz with rfl
            · exact ⟨by decide, _, gw_of (List.mem_of_getElem? (i := 533) (by decide +kernel)) (by decide +kernel), List.mem_of_getElem? (i := 14) rfl⟩
            ) (by decide) (by decide) (gw_of (List.mem_of_getElem? (i := 692) (by decide +kernel)) (by decide +kernel)) (List.mem_of_getElem? (i := 4) rfl) (Or.inl ⟨2, rfl, (show decode cL_releaseRoute 10 = .ok (.astore_n 2, 1) by decide +kernel), rfl⟩) (Nat.le_of_ble_eq_true rfl) (fun q hq => absurd hq List.not_mem_nil) ?_
      refine X_bipush (v := (-79)) (show decode cL_releaseRoute 11 = .ok (.bipush (-79), 2) by decide +kernel) (by decide) ?_
      exact X_iret ⟨(show decode cL_releaseRoute 13 = .ok (.ireturn, 1) by decide +kernel), .int, rfl, rfl⟩ ⟨_, rfl, w⟩
  · skip
    exact X_iret ⟨(show decode cL_releaseRoute 5 = .ok (.ireturn, 1) by decide +kernel), .int, rfl, rfl⟩ ⟨_, rfl, w⟩
set_option maxRecDepth 100000 in
set_option maxHeartbeats 4000000 in
theorem kL_pass {a0 : Nat} {a1 : Int32} {h : AH} {K : Int32 → AH → Prop} (w : wL_pass a0 a1 h K) : Cn mL_pass (cwh mL_pass) 11 1 6 [.ref a0, .int a1] h (KI K) T0 := by
  refine CnH_of (by decide +kernel) (Nat.le_of_ble_eq_true rfl) ?_
  show X mL_pass 11 (KI K) T0 1 6 0 [(0, .ref a0), (1, .int a1)] [] h
  unfold wL_pass at w
  refine X_aload_n (j := 0) (show decode cL_pass 0 = .ok (.aload_n 0, 1) by decide +kernel) rfl rfl ?_
  refine X_iload_n (j := 1) (show decode cL_pass 1 = .ok (.iload_n 1, 1) by decide +kernel) rfl rfl ?_
  obtain ⟨s4, w⟩ := w
  refine X_vI (rc' := 0) (rs' := 0) (as := [.int _]) mv_L_57 (show decode cL_pass 2 = .ok (.invokevirtual 57, 3) by decide +kernel) (by decide) (Nat.le_of_ble_eq_true rfl) (Nat.le_of_ble_eq_true rfl) rfl rfl (Nat.le_of_ble_eq_true rfl) (rcvD s4 (by decide) rfl) (kX9_pass w) (fun E9 h3 hk => ?_) (fun r2 h1 w => ?_)
  · obtain ⟨rfl, w⟩ := hk
    refine XT_catch (name := "java/lang/IllegalArgumentException") (i := 2) (j := 1) (ls' := []) [] (0, 5, 6, 20) [] rfl (fun z hz => absurd hz List.not_mem_nil) (by decide) (by decide) (gw_of (List.mem_of_getElem? (i := 691) (by decide +kernel)) (by decide +kernel)) (List.mem_of_getElem? (i := 3) rfl) (Or.inl ⟨2, rfl, (show decode cL_pass 6 = .ok (.astore_n 2, 1) by decide +kernel), rfl⟩) (Nat.le_of_ble_eq_true rfl) (fun q hq => absurd hq List.not_mem_nil) ?_
    refine X_bipush (v := (-78)) (show decode cL_pass 7 = .ok (.bipush (-78), 2) by decide +kernel) (by decide) ?_
    exact X_iret ⟨(show decode cL_pass 9 = .ok (.ireturn, 1) by decide +kernel), .int, rfl, rfl⟩ ⟨_, rfl, w⟩
  · skip
    exact X_iret ⟨(show decode cL_pass 5 = .ok (.ireturn, 1) by decide +kernel), .int, rfl, rfl⟩ ⟨_, rfl, w⟩
set_option maxRecDepth 100000 in
set_option maxHeartbeats 4000000 in
theorem kL_blockLength {a0 : Nat} {a1 : Int32} {h : AH} {K : Int32 → AH → Prop} (w : wL_blockLength a0 a1 h K) : Cn mL_blockLength (cwh mL_blockLength) 10 1 6 [.ref a0, .int a1] h (KI K) T0 := by
  refine CnH_of (by decide +kernel) (Nat.le_of_ble_eq_true rfl) ?_
  show X mL_blockLength 10 (KI K) T0 1 6 0 [(0, .ref a0), (1, .int a1)] [] h
  unfold wL_blockLength at w
  refine X_aload_n (j := 0) (show decode cL_blockLength 0 = .ok (.aload_n 0, 1) by decide +kernel) rfl rfl ?_
  refine X_iload_n (j := 1) (show decode cL_blockLength 1 = .ok (.iload_n 1, 1) by decide +kernel) rfl rfl ?_
  obtain ⟨s4, w⟩ := w
  refine X_vI (rc' := 0) (rs' := 0) (as := [.int _]) mv_L_60 (show decode cL_blockLength 2 = .ok (.invokevirtual 60, 3) by decide +kernel) (by decide) (Nat.le_of_ble_eq_true rfl) (Nat.le_of_ble_eq_true rfl) rfl rfl (Nat.le_of_ble_eq_true rfl) (rcvD s4 (by decide) rfl) (kX9_blockLength w) (fun E9 h3 hk => ?_) (fun r2 h1 w => ?_)
  · obtain ⟨rfl, w⟩ := hk
    refine XT_catch (name := "java/lang/IndexOutOfBoundsException") (i := 2) (j := 1) (ls' := []) [] (0, 5, 6, 28) [] rfl (fun z hz => absurd hz List.not_mem_nil) (by decide) (by decide) (gw_of (List.mem_of_getElem? (i := 406) (by decide +kernel)) (by decide +kernel)) (List.mem_of_getElem? (i := 5) rfl) (Or.inl ⟨2, rfl, (show decode cL_blockLength 6 = .ok (.astore_n 2, 1) by decide +kernel), rfl⟩) (Nat.le_of_ble_eq_true rfl) (fun q hq => absurd hq List.not_mem_nil) ?_
    refine X_bipush (v := (-77)) (show decode cL_blockLength 7 = .ok (.bipush (-77), 2) by decide +kernel) (by decide) ?_
    exact X_iret ⟨(show decode cL_blockLength 9 = .ok (.ireturn, 1) by decide +kernel), .int, rfl, rfl⟩ ⟨_, rfl, w⟩
  · skip
    exact X_iret ⟨(show decode cL_blockLength 5 = .ok (.ireturn, 1) by decide +kernel), .int, rfl, rfl⟩ ⟨_, rfl, w⟩
set_option maxRecDepth 100000 in
set_option maxHeartbeats 4000000 in
theorem kL_blockState {a0 : Nat} {a1 : Int32} {h : AH} {K : Int32 → AH → Prop} (w : wL_blockState a0 a1 h K) : Cn mL_blockState (cwh mL_blockState) 10 1 6 [.ref a0, .int a1] h (KI K) T0 := by
  refine CnH_of (by decide +kernel) (Nat.le_of_ble_eq_true rfl) ?_
  show X mL_blockState 10 (KI K) T0 1 6 0 [(0, .ref a0), (1, .int a1)] [] h
  unfold wL_blockState at w
  refine X_aload_n (j := 0) (show decode cL_blockState 0 = .ok (.aload_n 0, 1) by decide +kernel) rfl rfl ?_
  refine X_iload_n (j := 1) (show decode cL_blockState 1 = .ok (.iload_n 1, 1) by decide +kernel) rfl rfl ?_
  obtain ⟨s4, w⟩ := w
  refine X_vI (rc' := 0) (rs' := 0) (as := [.int _]) mv_L_63 (show decode cL_blockState 2 = .ok (.invokevirtual 63, 3) by decide +kernel) (by decide) (Nat.le_of_ble_eq_true rfl) (Nat.le_of_ble_eq_true rfl) rfl rfl (Nat.le_of_ble_eq_true rfl) (rcvD s4 (by decide) rfl) (kX9_blockState w) (fun E9 h3 hk => ?_) (fun r2 h1 w => ?_)
  · obtain ⟨rfl, w⟩ := hk
    refine XT_catch (name := "java/lang/IndexOutOfBoundsException") (i := 2) (j := 1) (ls' := []) [] (0, 5, 6, 28) [] rfl (fun z hz => absurd hz List.not_mem_nil) (by decide) (by decide) (gw_of (List.mem_of_getElem? (i := 406) (by decide +kernel)) (by decide +kernel)) (List.mem_of_getElem? (i := 5) rfl) (Or.inl ⟨2, rfl, (show decode cL_blockState 6 = .ok (.astore_n 2, 1) by decide +kernel), rfl⟩) (Nat.le_of_ble_eq_true rfl) (fun q hq => absurd hq List.not_mem_nil) ?_
    refine X_bipush (v := (-77)) (show decode cL_blockState 7 = .ok (.bipush (-77), 2) by decide +kernel) (by decide) ?_
    exact X_iret ⟨(show decode cL_blockState 9 = .ok (.ireturn, 1) by decide +kernel), .int, rfl, rfl⟩ ⟨_, rfl, w⟩
  · skip
    exact X_iret ⟨(show decode cL_blockState 5 = .ok (.ireturn, 1) by decide +kernel), .int, rfl, rfl⟩ ⟨_, rfl, w⟩
set_option maxRecDepth 100000 in
set_option maxHeartbeats 4000000 in
theorem kL_trainAt {a0 : Nat} {a1 : Int32} {h : AH} {K : Int32 → AH → Prop} (w : wL_trainAt a0 a1 h K) : Cn mL_trainAt (cwh mL_trainAt) 10 2 12 [.ref a0, .int a1] h (KI K) T0 := by
  refine CnH_of (by decide +kernel) (Nat.le_of_ble_eq_true rfl) ?_
  show X mL_trainAt 10 (KI K) T0 2 12 0 [(0, .ref a0), (1, .int a1)] [] h
  unfold wL_trainAt at w
  refine X_aload_n (j := 0) (show decode cL_trainAt 0 = .ok (.aload_n 0, 1) by decide +kernel) rfl rfl ?_
  refine X_iload_n (j := 1) (show decode cL_trainAt 1 = .ok (.iload_n 1, 1) by decide +kernel) rfl rfl ?_
  obtain ⟨s4, w⟩ := w
  refine X_vI (rc' := 0) (rs' := 0) (as := [.int _]) mv_L_67 (show decode cL_trainAt 2 = .ok (.invokevirtual 67, 3) by decide +kernel) (by decide) (Nat.le_of_ble_eq_true rfl) (Nat.le_of_ble_eq_true rfl) rfl rfl (Nat.le_of_ble_eq_true rfl) (rcvD s4 (by decide) rfl) (kX9_trainAt w) (fun E9 h3 hk => ?_) (fun r2 h1 w => ?_)
  · rcases hk with ⟨rfl, w⟩ | ⟨rfl, w⟩
    · skip
      refine XT_catch (name := "java/lang/IndexOutOfBoundsException") (i := 2) (j := 1) (ls' := []) [] (0, 5, 6, 28) [(0, 5, 10, 50)] rfl (fun z hz => absurd hz List.not_mem_nil) (by decide) (by decide) (gw_of (List.mem_of_getElem? (i := 406) (by decide +kernel)) (by decide +kernel)) (List.mem_of_getElem? (i := 5) rfl) (Or.inl ⟨2, rfl, (show decode cL_trainAt 6 = .ok (.astore_n 2, 1) by decide +kernel), rfl⟩) (Nat.le_of_ble_eq_true rfl) (fun q hq => absurd hq List.not_mem_nil) ?_
      refine X_bipush (v := (-77)) (show decode cL_trainAt 7 = .ok (.bipush (-77), 2) by decide +kernel) (by decide) ?_
      exact X_iret ⟨(show decode cL_trainAt 9 = .ok (.ireturn, 1) by decide +kernel), .int, rfl, rfl⟩ ⟨_, rfl, w⟩
    · skip
      refine XT_catch (name := "java/util/NoSuchElementException") (i := 2) (j := 1) (ls' := []) [(0, 5, 6, 28)] (0, 5, 10, 50) [] rfl (by
            intro z hz
            simp only [List.mem_cons, List.not_mem_nil, or_false] at hz
            rcases hz with rfl
            · exact ⟨by decide, _, gw_of (List.mem_of_getElem? (i := 406) (by decide +kernel)) (by decide +kernel), List.mem_of_getElem? (i := 28) rfl⟩
            ) (by decide) (by decide) (gw_of (List.mem_of_getElem? (i := 533) (by decide +kernel)) (by decide +kernel)) (List.mem_of_getElem? (i := 8) rfl) (Or.inl ⟨2, rfl, (show decode cL_trainAt 10 = .ok (.astore_n 2, 1) by decide +kernel), rfl⟩) (Nat.le_of_ble_eq_true rfl) (fun q hq => absurd hq List.not_mem_nil) ?_
      refine X_bipush (v := (-75)) (show decode cL_trainAt 11 = .ok (.bipush (-75), 2) by decide +kernel) (by decide) ?_
      exact X_iret ⟨(show decode cL_trainAt 13 = .ok (.ireturn, 1) by decide +kernel), .int, rfl, rfl⟩ ⟨_, rfl, w⟩
  · skip
    exact X_iret ⟨(show decode cL_trainAt 5 = .ok (.ireturn, 1) by decide +kernel), .int, rfl, rfl⟩ ⟨_, rfl, w⟩
set_option maxRecDepth 100000 in
set_option maxHeartbeats 4000000 in
theorem kL_liesLeft {a0 : Nat} {a1 : Int32} {h : AH} {K : Int32 → AH → Prop} (w : wL_liesLeft a0 a1 h K) : Cn mL_liesLeft (cwh mL_liesLeft) 10 1 6 [.ref a0, .int a1] h (KI K) T0 := by
  refine CnH_of (by decide +kernel) (Nat.le_of_ble_eq_true rfl) ?_
  show X mL_liesLeft 10 (KI K) T0 1 6 0 [(0, .ref a0), (1, .int a1)] [] h
  unfold wL_liesLeft at w
  refine X_aload_n (j := 0) (show decode cL_liesLeft 0 = .ok (.aload_n 0, 1) by decide +kernel) rfl rfl ?_
  refine X_iload_n (j := 1) (show decode cL_liesLeft 1 = .ok (.iload_n 1, 1) by decide +kernel) rfl rfl ?_
  obtain ⟨s5, w⟩ := w
  refine X_vI (rc' := 0) (rs' := 0) (as := [.int _]) mv_L_70 (show decode cL_liesLeft 2 = .ok (.invokevirtual 70, 3) by decide +kernel) (by decide) (Nat.le_of_ble_eq_true rfl) (Nat.le_of_ble_eq_true rfl) rfl rfl (Nat.le_of_ble_eq_true rfl) (rcvD s5 (by decide) rfl) (kX9_liesLeft w) (fun E9 h4 hk => ?_) (fun r2 h1 w => ?_)
  · obtain ⟨rfl, w⟩ := hk
    refine XT_catch (name := "java/lang/IndexOutOfBoundsException") (i := 2) (j := 1) (ls' := []) [] (0, 13, 14, 28) [] rfl (fun z hz => absurd hz List.not_mem_nil) (by decide) (by decide) (gw_of (List.mem_of_getElem? (i := 406) (by decide +kernel)) (by decide +kernel)) (List.mem_of_getElem? (i := 5) rfl) (Or.inl ⟨2, rfl, (show decode cL_liesLeft 14 = .ok (.astore_n 2, 1) by decide +kernel), rfl⟩) (Nat.le_of_ble_eq_true rfl) (fun q hq => absurd hq List.not_mem_nil) ?_
    refine X_bipush (v := (-77)) (show decode cL_liesLeft 15 = .ok (.bipush (-77), 2) by decide +kernel) (by decide) ?_
    exact X_iret ⟨(show decode cL_liesLeft 17 = .ok (.ireturn, 1) by decide +kernel), .int, rfl, rfl⟩ ⟨_, rfl, w⟩
  · skip
    refine X_if_eq (tgt := 12) (show decode cL_liesLeft 5 = .ok (.ifCond .eq 7, 3) by decide +kernel) (by decide) ⟨fun c3 => ?_, fun c3 => ?_⟩
    · have w := w.1 c3
      refine X_iconst (v := (nI 0)) (show decode cL_liesLeft 12 = .ok (.iconst 0, 1) by decide +kernel) (by decide) ?_
      exact X_iret ⟨(show decode cL_liesLeft 13 = .ok (.ireturn, 1) by decide +kernel), .int, rfl, rfl⟩ ⟨_, rfl, w⟩
    · have w := w.2 c3
      refine X_iconst (v := (nI 1)) (show decode cL_liesLeft 8 = .ok (.iconst 1, 1) by decide +kernel) (by decide) ?_
      refine X_goto (tgt := 13) (show decode cL_liesLeft 9 = .ok (.goto 4, 3) by decide +kernel) (by decide) ?_
      exact X_iret ⟨(show decode cL_liesLeft 13 = .ok (.ireturn, 1) by decide +kernel), .int, rfl, rfl⟩ ⟨_, rfl, w⟩
set_option maxRecDepth 100000 in
set_option maxHeartbeats 4000000 in
theorem kL_lockedBy {a0 : Nat} {a1 : Int32} {h : AH} {K : Int32 → AH → Prop} (w : wL_lockedBy a0 a1 h K) : Cn mL_lockedBy (cwh mL_lockedBy) 10 2 12 [.ref a0, .int a1] h (KI K) T0 := by
  refine CnH_of (by decide +kernel) (Nat.le_of_ble_eq_true rfl) ?_
  show X mL_lockedBy 10 (KI K) T0 2 12 0 [(0, .ref a0), (1, .int a1)] [] h
  unfold wL_lockedBy at w
  refine X_aload_n (j := 0) (show decode cL_lockedBy 0 = .ok (.aload_n 0, 1) by decide +kernel) rfl rfl ?_
  refine X_iload_n (j := 1) (show decode cL_lockedBy 1 = .ok (.iload_n 1, 1) by decide +kernel) rfl rfl ?_
  obtain ⟨s4, w⟩ := w
  refine X_vI (rc' := 0) (rs' := 0) (as := [.int _]) mv_L_73 (show decode cL_lockedBy 2 = .ok (.invokevirtual 73, 3) by decide +kernel) (by decide) (Nat.le_of_ble_eq_true rfl) (Nat.le_of_ble_eq_true rfl) rfl rfl (Nat.le_of_ble_eq_true rfl) (rcvD s4 (by decide) rfl) (kX9_lockedBy w) (fun E9 h3 hk => ?_) (fun r2 h1 w => ?_)
  · rcases hk with ⟨rfl, w⟩ | ⟨rfl, w⟩
    · skip
      refine XT_catch (name := "java/lang/IndexOutOfBoundsException") (i := 2) (j := 1) (ls' := []) [] (0, 5, 6, 28) [(0, 5, 10, 50)] rfl (fun z hz => absurd hz List.not_mem_nil) (by decide) (by decide) (gw_of (List.mem_of_getElem? (i := 406) (by decide +kernel)) (by decide +kernel)) (List.mem_of_getElem? (i := 5) rfl) (Or.inl ⟨2, rfl, (show decode cL_lockedBy 6 = .ok (.astore_n 2, 1) by decide +kernel), rfl⟩) (Nat.le_of_ble_eq_true rfl) (fun q hq => absurd hq List.not_mem_nil) ?_
      refine X_bipush (v := (-77)) (show decode cL_lockedBy 7 = .ok (.bipush (-77), 2) by decide +kernel) (by decide) ?_
      exact X_iret ⟨(show decode cL_lockedBy 9 = .ok (.ireturn, 1) by decide +kernel), .int, rfl, rfl⟩ ⟨_, rfl, w⟩
    · skip
      refine XT_catch (name := "java/util/NoSuchElementException") (i := 2) (j := 1) (ls' := []) [(0, 5, 6, 28)] (0, 5, 10, 50) [] rfl (by
            intro z hz
            simp only [List.mem_cons, List.not_mem_nil, or_false] at hz
            rcases hz with rfl
            · exact ⟨by decide, _, gw_of (List.mem_of_getElem? (i := 406) (by decide +kernel)) (by decide +kernel), List.mem_of_getElem? (i := 28) rfl⟩
            ) (by decide) (by decide) (gw_of (List.mem_of_getElem? (i := 533) (by decide +kernel)) (by decide +kernel)) (List.mem_of_getElem? (i := 8) rfl) (Or.inl ⟨2, rfl, (show decode cL_lockedBy 10 = .ok (.astore_n 2, 1) by decide +kernel), rfl⟩) (Nat.le_of_ble_eq_true rfl) (fun q hq => absurd hq List.not_mem_nil) ?_
      refine X_bipush (v := (-75)) (show decode cL_lockedBy 11 = .ok (.bipush (-75), 2) by decide +kernel) (by decide) ?_
      exact X_iret ⟨(show decode cL_lockedBy 13 = .ok (.ireturn, 1) by decide +kernel), .int, rfl, rfl⟩ ⟨_, rfl, w⟩
  · skip
    exact X_iret ⟨(show decode cL_lockedBy 5 = .ok (.ireturn, 1) by decide +kernel), .int, rfl, rfl⟩ ⟨_, rfl, w⟩
set_option maxRecDepth 100000 in
set_option maxHeartbeats 4000000 in
theorem kL_routeLength {a0 : Nat} {a1 : Int32} {a2 : Int32} {h : AH} {K : Int32 → AH → Prop} (w : wL_routeLength a0 a1 a2 h K) : Cn mL_routeLength (cwh mL_routeLength) 11 3 18 [.ref a0, .int a1, .int a2] h (KI K) T0 := by
  refine CnH_of (by decide +kernel) (Nat.le_of_ble_eq_true rfl) ?_
  show X mL_routeLength 11 (KI K) T0 3 18 0 [(0, .ref a0), (1, .int a1), (2, .int a2)] [] h
  unfold wL_routeLength at w
  refine X_aload_n (j := 0) (show decode cL_routeLength 0 = .ok (.aload_n 0, 1) by decide +kernel) rfl rfl ?_
  refine X_iload_n (j := 1) (show decode cL_routeLength 1 = .ok (.iload_n 1, 1) by decide +kernel) rfl rfl ?_
  refine X_iload_n (j := 2) (show decode cL_routeLength 2 = .ok (.iload_n 2, 1) by decide +kernel) rfl rfl ?_
  obtain ⟨s4, w⟩ := w
  refine X_vI (rc' := 0) (rs' := 0) (as := [.int _, .int _]) mv_L_76 (show decode cL_routeLength 3 = .ok (.invokevirtual 76, 3) by decide +kernel) (by decide) (Nat.le_of_ble_eq_true rfl) (Nat.le_of_ble_eq_true rfl) rfl rfl (Nat.le_of_ble_eq_true rfl) (rcvD s4 (by decide) rfl) (kX9_routeLength w) (fun E9 h3 hk => ?_) (fun r2 h1 w => ?_)
  · rcases hk with ⟨rfl, w⟩ | ⟨rfl, w⟩
    · skip
      refine XT_catch (name := "java/lang/IndexOutOfBoundsException") (i := 3) (j := 1) (ls' := []) [] (0, 6, 7, 28) [(0, 6, 11, 50)] rfl (fun z hz => absurd hz List.not_mem_nil) (by decide) (by decide) (gw_of (List.mem_of_getElem? (i := 406) (by decide +kernel)) (by decide +kernel)) (List.mem_of_getElem? (i := 5) rfl) (Or.inl ⟨3, rfl, (show decode cL_routeLength 7 = .ok (.astore_n 3, 1) by decide +kernel), rfl⟩) (Nat.le_of_ble_eq_true rfl) (fun q hq => absurd hq List.not_mem_nil) ?_
      refine X_bipush (v := (-77)) (show decode cL_routeLength 8 = .ok (.bipush (-77), 2) by decide +kernel) (by decide) ?_
      exact X_iret ⟨(show decode cL_routeLength 10 = .ok (.ireturn, 1) by decide +kernel), .int, rfl, rfl⟩ ⟨_, rfl, w⟩
    · skip
      refine XT_catch (name := "java/util/NoSuchElementException") (i := 3) (j := 1) (ls' := []) [(0, 6, 7, 28)] (0, 6, 11, 50) [] rfl (by
            intro z hz
            simp only [List.mem_cons, List.not_mem_nil, or_false] at hz
            rcases hz with rfl
            · exact ⟨by decide, _, gw_of (List.mem_of_getElem? (i := 406) (by decide +kernel)) (by decide +kernel), List.mem_of_getElem? (i := 28) rfl⟩
            ) (by decide) (by decide) (gw_of (List.mem_of_getElem? (i := 533) (by decide +kernel)) (by decide +kernel)) (List.mem_of_getElem? (i := 8) rfl) (Or.inl ⟨3, rfl, (show decode cL_routeLength 11 = .ok (.astore_n 3, 1) by decide +kernel), rfl⟩) (Nat.le_of_ble_eq_true rfl) (fun q hq => absurd hq List.not_mem_nil) ?_
      refine X_bipush (v := (-75)) (show decode cL_routeLength 12 = .ok (.bipush (-75), 2) by decide +kernel) (by decide) ?_
      exact X_iret ⟨(show decode cL_routeLength 14 = .ok (.ireturn, 1) by decide +kernel), .int, rfl, rfl⟩ ⟨_, rfl, w⟩
  · skip
    exact X_iret ⟨(show decode cL_routeLength 6 = .ok (.ireturn, 1) by decide +kernel), .int, rfl, rfl⟩ ⟨_, rfl, w⟩
set_option maxRecDepth 100000 in
set_option maxHeartbeats 4000000 in
theorem kL_routeLengthByPaths {a0 : Nat} {a1 : Int32} {a2 : Int32} {h : AH} {K : Int32 → AH → Prop} (w : wL_routeLengthByPaths a0 a1 a2 h K) : Cn mL_routeLengthByPaths (cwh mL_routeLengthByPaths) 19 3 18 [.ref a0, .int a1, .int a2] h (KI K) T0 := by
  refine CnH_of (by decide +kernel) (Nat.le_of_ble_eq_true rfl) ?_
  show X mL_routeLengthByPaths 19 (KI K) T0 3 18 0 [(0, .ref a0), (1, .int a1), (2, .int a2)] [] h
  unfold wL_routeLengthByPaths at w
  refine X_aload_n (j := 0) (show decode cL_routeLengthByPaths 0 = .ok (.aload_n 0, 1) by decide +kernel) rfl rfl ?_
  refine X_iload_n (j := 1) (show decode cL_routeLengthByPaths 1 = .ok (.iload_n 1, 1) by decide +kernel) rfl rfl ?_
  refine X_iload_n (j := 2) (show decode cL_routeLengthByPaths 2 = .ok (.iload_n 2, 1) by decide +kernel) rfl rfl ?_
  obtain ⟨s4, w⟩ := w
  refine X_vI (rc' := 0) (rs' := 0) (as := [.int _, .int _]) mv_L_79 (show decode cL_routeLengthByPaths 3 = .ok (.invokevirtual 79, 3) by decide +kernel) (by decide) (Nat.le_of_ble_eq_true rfl) (Nat.le_of_ble_eq_true rfl) rfl rfl (Nat.le_of_ble_eq_true rfl) (rcvD s4 (by decide) rfl) (kX9_routeLengthByPaths w) (fun E9 h3 hk => ?_) (fun r2 h1 w => ?_)
  · rcases hk with ⟨rfl, w⟩ | ⟨rfl, w⟩
    · skip
      refine XT_catch (name := "java/lang/IndexOutOfBoundsException") (i := 3) (j := 1) (ls' := []) [] (0, 6, 7, 28) [(0, 6, 11, 50)] rfl (fun z hz => absurd hz List.not_mem_nil) (by decide) (by decide) (gw_of (List.mem_of_getElem? (i := 406) (by decide +kernel)) (by decide +kernel)) (List.mem_of_getElem? (i := 5) rfl) (Or.inl ⟨3, rfl, (show decode cL_routeLengthByPaths 7 = .ok (.astore_n 3, 1) by decide +kernel), rfl⟩) (Nat.le_of_ble_eq_true rfl) (fun q hq => absurd hq List.not_mem_nil) ?_
      refine X_bipush (v := (-77)) (show decode cL_routeLengthByPaths 8 = .ok (.bipush (-77), 2) by decide +kernel) (by decide) ?_
      exact X_iret ⟨(show decode cL_routeLengthByPaths 10 = .ok (.ireturn, 1) by decide +kernel), .int, rfl, rfl⟩ ⟨_, rfl, w⟩
    · skip
      refine XT_catch (name := "java/util/NoSuchElementException") (i := 3) (j := 1) (ls' := []) [(0, 6, 7, 28)] (0, 6, 11, 50) [] rfl (by
            intro z hz
            simp only [List.mem_cons, List.not_mem_nil, or_false] at hz
            rcases hz with rfl
            · exact ⟨by decide, _, gw_of (List.mem_of_getElem? (i := 406) (by decide +kernel)) (by decide +kernel), List.mem_of_getElem? (i := 28) rfl⟩
            ) (by decide) (by decide) (gw_of (List.mem_of_getElem? (i := 533) (by decide +kernel)) (by decide +kernel)) (List.mem_of_getElem? (i := 8) rfl) (Or.inl ⟨3, rfl, (show decode cL_routeLengthByPaths 11 = .ok (.astore_n 3, 1) by decide +kernel), rfl⟩) (Nat.le_of_ble_eq_true rfl) (fun q hq => absurd hq List.not_mem_nil) ?_
      refine X_bipush (v := (-75)) (show decode cL_routeLengthByPaths 12 = .ok (.bipush (-75), 2) by decide +kernel) (by decide) ?_
      exact X_iret ⟨(show decode cL_routeLengthByPaths 14 = .ok (.ireturn, 1) by decide +kernel), .int, rfl, rfl⟩ ⟨_, rfl, w⟩
  · skip
    exact X_iret ⟨(show decode cL_routeLengthByPaths 6 = .ok (.ireturn, 1) by decide +kernel), .int, rfl, rfl⟩ ⟨_, rfl, w⟩
set_option maxRecDepth 100000 in
set_option maxHeartbeats 4000000 in
theorem kL_routeBlock {a0 : Nat} {a1 : Int32} {a2 : Int32} {a3 : Int32} {h : AH} {K : Int32 → AH → Prop} (w : wL_routeBlock a0 a1 a2 a3 h K) : Cn mL_routeBlock (cwh mL_routeBlock) 11 4 24 [.ref a0, .int a1, .int a2, .int a3] h (KI K) T0 := by
  refine CnH_of (by decide +kernel) (Nat.le_of_ble_eq_true rfl) ?_
  show X mL_routeBlock 11 (KI K) T0 4 24 0 [(0, .ref a0), (1, .int a1), (2, .int a2), (3, .int a3)] [] h
  unfold wL_routeBlock at w
  refine X_aload_n (j := 0) (show decode cL_routeBlock 0 = .ok (.aload_n 0, 1) by decide +kernel) rfl rfl ?_
  refine X_iload_n (j := 1) (show decode cL_routeBlock 1 = .ok (.iload_n 1, 1) by decide +kernel) rfl rfl ?_
  refine X_iload_n (j := 2) (show decode cL_routeBlock 2 = .ok (.iload_n 2, 1) by decide +kernel) rfl rfl ?_
  refine X_iload_n (j := 3) (show decode cL_routeBlock 3 = .ok (.iload_n 3, 1) by decide +kernel) rfl rfl ?_
  obtain ⟨s4, w⟩ := w
  refine X_vI (rc' := 0) (rs' := 0) (as := [.int _, .int _, .int _]) mv_L_82 (show decode cL_routeBlock 4 = .ok (.invokevirtual 82, 3) by decide +kernel) (by decide) (Nat.le_of_ble_eq_true rfl) (Nat.le_of_ble_eq_true rfl) rfl rfl (Nat.le_of_ble_eq_true rfl) (rcvD s4 (by decide) rfl) (kX9_routeBlock w) (fun E9 h3 hk => ?_) (fun r2 h1 w => ?_)
  · rcases hk with ⟨rfl, w⟩ | ⟨rfl, w⟩
    · skip
      refine XT_catch (name := "java/lang/IndexOutOfBoundsException") (i := 4) (j := 2) (ls' := []) [] (0, 7, 8, 28) [(0, 7, 13, 50)] rfl (fun z hz => absurd hz List.not_mem_nil) (by decide) (by decide) (gw_of (List.mem_of_getElem? (i := 406) (by decide +kernel)) (by decide +kernel)) (List.mem_of_getElem? (i := 5) rfl) (Or.inr ⟨(show decode cL_routeBlock 8 = .ok (.astore 4, 2) by decide +kernel), rfl⟩) (Nat.le_of_ble_eq_true rfl) (fun q hq => absurd hq List.not_mem_nil) ?_
      refine X_bipush (v := (-77)) (show decode cL_routeBlock 10 = .ok (.bipush (-77), 2) by decide +kernel) (by decide) ?_
      exact X_iret ⟨(show decode cL_routeBlock 12 = .ok (.ireturn, 1) by decide +kernel), .int, rfl, rfl⟩ ⟨_, rfl, w⟩
    · skip
      refine XT_catch (name := "java/util/NoSuchElementException") (i := 4) (j := 2) (ls' := []) [(0, 7, 8, 28)] (0, 7, 13, 50) [] rfl (by
            intro z hz
            simp only [List.mem_cons, List.not_mem_nil, or_false] at hz
            rcases hz with rfl
            · exact ⟨by decide, _, gw_of (List.mem_of_getElem? (i := 406) (by decide +kernel)) (by decide +kernel), List.mem_of_getElem? (i := 28) rfl⟩
            ) (by decide) (by decide) (gw_of (List.mem_of_getElem? (i := 533) (by decide +kernel)) (by decide +kernel)) (List.mem_of_getElem? (i := 8) rfl) (Or.inr ⟨(show decode cL_routeBlock 13 = .ok (.astore 4, 2) by decide +kernel), rfl⟩) (Nat.le_of_ble_eq_true rfl) (fun q hq => absurd hq List.not_mem_nil) ?_
      refine X_bipush (v := (-75)) (show decode cL_routeBlock 15 = .ok (.bipush (-75), 2) by decide +kernel) (by decide) ?_
      exact X_iret ⟨(show decode cL_routeBlock 17 = .ok (.ireturn, 1) by decide +kernel), .int, rfl, rfl⟩ ⟨_, rfl, w⟩
  · skip
    exact X_iret ⟨(show decode cL_routeBlock 7 = .ok (.ireturn, 1) by decide +kernel), .int, rfl, rfl⟩ ⟨_, rfl, w⟩
set_option maxRecDepth 100000 in
set_option maxHeartbeats 4000000 in
theorem kL_paths {a0 : Nat} {a1 : Int32} {a2 : Int32} {h : AH} {K : Int32 → AH → Prop} (w : wL_paths a0 a1 a2 h K) : Cn mL_paths (cwh mL_paths) 19 2 12 [.ref a0, .int a1, .int a2] h (KI K) T0 := by
  refine CnH_of (by decide +kernel) (Nat.le_of_ble_eq_true rfl) ?_
  show X mL_paths 19 (KI K) T0 2 12 0 [(0, .ref a0), (1, .int a1), (2, .int a2)] [] h
  unfold wL_paths at w
  refine X_aload_n (j := 0) (show decode cL_paths 0 = .ok (.aload_n 0, 1) by decide +kernel) rfl rfl ?_
  refine X_iload_n (j := 1) (show decode cL_paths 1 = .ok (.iload_n 1, 1) by decide +kernel) rfl rfl ?_
  refine X_iload_n (j := 2) (show decode cL_paths 2 = .ok (.iload_n 2, 1) by decide +kernel) rfl rfl ?_
  obtain ⟨s4, w⟩ := w
  refine X_vI (rc' := 0) (rs' := 0) (as := [.int _, .int _]) mv_L_85 (show decode cL_paths 3 = .ok (.invokevirtual 85, 3) by decide +kernel) (by decide) (Nat.le_of_ble_eq_true rfl) (Nat.le_of_ble_eq_true rfl) rfl rfl (Nat.le_of_ble_eq_true rfl) (rcvD s4 (by decide) rfl) (kX9_paths w) (fun E9 h3 hk => ?_) (fun r2 h1 w => ?_)
  · obtain ⟨rfl, w⟩ := hk
    refine XT_catch (name := "java/lang/IndexOutOfBoundsException") (i := 3) (j := 1) (ls' := []) [] (0, 6, 7, 28) [] rfl (fun z hz => absurd hz List.not_mem_nil) (by decide) (by decide) (gw_of (List.mem_of_getElem? (i := 406) (by decide +kernel)) (by decide +kernel)) (List.mem_of_getElem? (i := 5) rfl) (Or.inl ⟨3, rfl, (show decode cL_paths 7 = .ok (.astore_n 3, 1) by decide +kernel), rfl⟩) (Nat.le_of_ble_eq_true rfl) (fun q hq => absurd hq List.not_mem_nil) ?_
    refine X_bipush (v := (-77)) (show decode cL_paths 8 = .ok (.bipush (-77), 2) by decide +kernel) (by decide) ?_
    exact X_iret ⟨(show decode cL_paths 10 = .ok (.ireturn, 1) by decide +kernel), .int, rfl, rfl⟩ ⟨_, rfl, w⟩
  · skip
    exact X_iret ⟨(show decode cL_paths 6 = .ok (.ireturn, 1) by decide +kernel), .int, rfl, rfl⟩ ⟨_, rfl, w⟩
set_option maxRecDepth 100000 in
set_option maxHeartbeats 4000000 in
theorem kL_blockOf {a0 : Nat} {a1 : Int32} {h : AH} {K : Int32 → AH → Prop} (w : wL_blockOf a0 a1 h K) : Cn mL_blockOf (cwh mL_blockOf) 10 1 6 [.ref a0, .int a1] h (KI K) T0 := by
  refine CnH_of (by decide +kernel) (Nat.le_of_ble_eq_true rfl) ?_
  show X mL_blockOf 10 (KI K) T0 1 6 0 [(0, .ref a0), (1, .int a1)] [] h
  unfold wL_blockOf at w
  refine X_aload_n (j := 0) (show decode cL_blockOf 0 = .ok (.aload_n 0, 1) by decide +kernel) rfl rfl ?_
  refine X_iload_n (j := 1) (show decode cL_blockOf 1 = .ok (.iload_n 1, 1) by decide +kernel) rfl rfl ?_
  obtain ⟨s4, w⟩ := w
  refine X_vI (rc' := 0) (rs' := 0) (as := [.int _]) mv_L_88 (show decode cL_blockOf 2 = .ok (.invokevirtual 88, 3) by decide +kernel) (by decide) (Nat.le_of_ble_eq_true rfl) (Nat.le_of_ble_eq_true rfl) rfl rfl (Nat.le_of_ble_eq_true rfl) (rcvD s4 (by decide) rfl) (kX9_blockOf w) (fun E9 h3 hk => ?_) (fun r2 h1 w => ?_)
  · obtain ⟨rfl, w⟩ := hk
    refine XT_catch (name := "java/util/NoSuchElementException") (i := 2) (j := 1) (ls' := []) [] (0, 5, 6, 50) [] rfl (fun z hz => absurd hz List.not_mem_nil) (by decide) (by decide) (gw_of (List.mem_of_getElem? (i := 533) (by decide +kernel)) (by decide +kernel)) (List.mem_of_getElem? (i := 8) rfl) (Or.inl ⟨2, rfl, (show decode cL_blockOf 6 = .ok (.astore_n 2, 1) by decide +kernel), rfl⟩) (Nat.le_of_ble_eq_true rfl) (fun q hq => absurd hq List.not_mem_nil) ?_
    refine X_bipush (v := (-75)) (show decode cL_blockOf 7 = .ok (.bipush (-75), 2) by decide +kernel) (by decide) ?_
    exact X_iret ⟨(show decode cL_blockOf 9 = .ok (.ireturn, 1) by decide +kernel), .int, rfl, rfl⟩ ⟨_, rfl, w⟩
  · skip
    exact X_iret ⟨(show decode cL_blockOf 5 = .ok (.ireturn, 1) by decide +kernel), .int, rfl, rfl⟩ ⟨_, rfl, w⟩
set_option maxRecDepth 100000 in
set_option maxHeartbeats 4000000 in
theorem kL_destination {a0 : Nat} {a1 : Int32} {h : AH} {K : Int32 → AH → Prop} (w : wL_destination a0 a1 h K) : Cn mL_destination (cwh mL_destination) 10 1 6 [.ref a0, .int a1] h (KI K) T0 := by
  refine CnH_of (by decide +kernel) (Nat.le_of_ble_eq_true rfl) ?_
  show X mL_destination 10 (KI K) T0 1 6 0 [(0, .ref a0), (1, .int a1)] [] h
  unfold wL_destination at w
  refine X_aload_n (j := 0) (show decode cL_destination 0 = .ok (.aload_n 0, 1) by decide +kernel) rfl rfl ?_
  refine X_iload_n (j := 1) (show decode cL_destination 1 = .ok (.iload_n 1, 1) by decide +kernel) rfl rfl ?_
  obtain ⟨s4, w⟩ := w
  refine X_vI (rc' := 0) (rs' := 0) (as := [.int _]) mv_L_91 (show decode cL_destination 2 = .ok (.invokevirtual 91, 3) by decide +kernel) (by decide) (Nat.le_of_ble_eq_true rfl) (Nat.le_of_ble_eq_true rfl) rfl rfl (Nat.le_of_ble_eq_true rfl) (rcvD s4 (by decide) rfl) (kX9_destination w) (fun E9 h3 hk => ?_) (fun r2 h1 w => ?_)
  · obtain ⟨rfl, w⟩ := hk
    refine XT_catch (name := "java/util/NoSuchElementException") (i := 2) (j := 1) (ls' := []) [] (0, 5, 6, 50) [] rfl (fun z hz => absurd hz List.not_mem_nil) (by decide) (by decide) (gw_of (List.mem_of_getElem? (i := 533) (by decide +kernel)) (by decide +kernel)) (List.mem_of_getElem? (i := 8) rfl) (Or.inl ⟨2, rfl, (show decode cL_destination 6 = .ok (.astore_n 2, 1) by decide +kernel), rfl⟩) (Nat.le_of_ble_eq_true rfl) (fun q hq => absurd hq List.not_mem_nil) ?_
    refine X_bipush (v := (-75)) (show decode cL_destination 7 = .ok (.bipush (-75), 2) by decide +kernel) (by decide) ?_
    exact X_iret ⟨(show decode cL_destination 9 = .ok (.ireturn, 1) by decide +kernel), .int, rfl, rfl⟩ ⟨_, rfl, w⟩
  · skip
    exact X_iret ⟨(show decode cL_destination 5 = .ok (.ireturn, 1) by decide +kernel), .int, rfl, rfl⟩ ⟨_, rfl, w⟩
set_option maxRecDepth 100000 in
set_option maxHeartbeats 4000000 in
theorem kL_hasRoute {a0 : Nat} {a1 : Int32} {h : AH} {K : Int32 → AH → Prop} (w : wL_hasRoute a0 a1 h K) : Cn mL_hasRoute (cwh mL_hasRoute) 10 1 6 [.ref a0, .int a1] h (KI K) T0 := by
  refine CnH_of (by decide +kernel) (Nat.le_of_ble_eq_true rfl) ?_
  show X mL_hasRoute 10 (KI K) T0 1 6 0 [(0, .ref a0), (1, .int a1)] [] h
  unfold wL_hasRoute at w
  refine X_aload_n (j := 0) (show decode cL_hasRoute 0 = .ok (.aload_n 0, 1) by decide +kernel) rfl rfl ?_
  refine X_iload_n (j := 1) (show decode cL_hasRoute 1 = .ok (.iload_n 1, 1) by decide +kernel) rfl rfl ?_
  obtain ⟨s5, w⟩ := w
  refine X_vI (rc' := 0) (rs' := 0) (as := [.int _]) mv_L_94 (show decode cL_hasRoute 2 = .ok (.invokevirtual 94, 3) by decide +kernel) (by decide) (Nat.le_of_ble_eq_true rfl) (Nat.le_of_ble_eq_true rfl) rfl rfl (Nat.le_of_ble_eq_true rfl) (rcvD s5 (by decide) rfl) (kX9_hasRoute w) (fun E9 h4 hk => ?_) (fun r2 h1 w => ?_)
  · obtain ⟨rfl, w⟩ := hk
    refine XT_catch (name := "java/util/NoSuchElementException") (i := 2) (j := 1) (ls' := []) [] (0, 13, 14, 50) [] rfl (fun z hz => absurd hz List.not_mem_nil) (by decide) (by decide) (gw_of (List.mem_of_getElem? (i := 533) (by decide +kernel)) (by decide +kernel)) (List.mem_of_getElem? (i := 8) rfl) (Or.inl ⟨2, rfl, (show decode cL_hasRoute 14 = .ok (.astore_n 2, 1) by decide +kernel), rfl⟩) (Nat.le_of_ble_eq_true rfl) (fun q hq => absurd hq List.not_mem_nil) ?_
    refine X_bipush (v := (-75)) (show decode cL_hasRoute 15 = .ok (.bipush (-75), 2) by decide +kernel) (by decide) ?_
    exact X_iret ⟨(show decode cL_hasRoute 17 = .ok (.ireturn, 1) by decide +kernel), .int, rfl, rfl⟩ ⟨_, rfl, w⟩
  · skip
    refine X_if_eq (tgt := 12) (show decode cL_hasRoute 5 = .ok (.ifCond .eq 7, 3) by decide +kernel) (by decide) ⟨fun c3 => ?_, fun c3 => ?_⟩
    · have w := w.1 c3
      refine X_iconst (v := (nI 0)) (show decode cL_hasRoute 12 = .ok (.iconst 0, 1) by decide +kernel) (by decide) ?_
      exact X_iret ⟨(show decode cL_hasRoute 13 = .ok (.ireturn, 1) by decide +kernel), .int, rfl, rfl⟩ ⟨_, rfl, w⟩
    · have w := w.2 c3
      refine X_iconst (v := (nI 1)) (show decode cL_hasRoute 8 = .ok (.iconst 1, 1) by decide +kernel) (by decide) ?_
      refine X_goto (tgt := 13) (show decode cL_hasRoute 9 = .ok (.goto 4, 3) by decide +kernel) (by decide) ?_
      exact X_iret ⟨(show decode cL_hasRoute 13 = .ok (.ireturn, 1) by decide +kernel), .int, rfl, rfl⟩ ⟨_, rfl, w⟩
set_option maxRecDepth 100000 in
set_option maxHeartbeats 4000000 in
theorem kL_isClear {a0 : Nat} {a1 : Int32} {h : AH} {K : Int32 → AH → Prop} (w : wL_isClear a0 a1 h K) : Cn mL_isClear (cwh mL_isClear) 10 1 6 [.ref a0, .int a1] h (KI K) T0 := by
  refine CnH_of (by decide +kernel) (Nat.le_of_ble_eq_true rfl) ?_
  show X mL_isClear 10 (KI K) T0 1 6 0 [(0, .ref a0), (1, .int a1)] [] h
  unfold wL_isClear at w
  refine X_aload_n (j := 0) (show decode cL_isClear 0 = .ok (.aload_n 0, 1) by decide +kernel) rfl rfl ?_
  refine X_iload_n (j := 1) (show decode cL_isClear 1 = .ok (.iload_n 1, 1) by decide +kernel) rfl rfl ?_
  obtain ⟨s5, w⟩ := w
  refine X_vI (rc' := 0) (rs' := 0) (as := [.int _]) mv_L_97 (show decode cL_isClear 2 = .ok (.invokevirtual 97, 3) by decide +kernel) (by decide) (Nat.le_of_ble_eq_true rfl) (Nat.le_of_ble_eq_true rfl) rfl rfl (Nat.le_of_ble_eq_true rfl) (rcvD s5 (by decide) rfl) (kX9_isClear w) (fun E9 h4 hk => ?_) (fun r2 h1 w => ?_)
  · obtain ⟨rfl, w⟩ := hk
    refine XT_catch (name := "java/util/NoSuchElementException") (i := 2) (j := 1) (ls' := []) [] (0, 13, 14, 50) [] rfl (fun z hz => absurd hz List.not_mem_nil) (by decide) (by decide) (gw_of (List.mem_of_getElem? (i := 533) (by decide +kernel)) (by decide +kernel)) (List.mem_of_getElem? (i := 8) rfl) (Or.inl ⟨2, rfl, (show decode cL_isClear 14 = .ok (.astore_n 2, 1) by decide +kernel), rfl⟩) (Nat.le_of_ble_eq_true rfl) (fun q hq => absurd hq List.not_mem_nil) ?_
    refine X_bipush (v := (-75)) (show decode cL_isClear 15 = .ok (.bipush (-75), 2) by decide +kernel) (by decide) ?_
    exact X_iret ⟨(show decode cL_isClear 17 = .ok (.ireturn, 1) by decide +kernel), .int, rfl, rfl⟩ ⟨_, rfl, w⟩
  · skip
    refine X_if_eq (tgt := 12) (show decode cL_isClear 5 = .ok (.ifCond .eq 7, 3) by decide +kernel) (by decide) ⟨fun c3 => ?_, fun c3 => ?_⟩
    · have w := w.1 c3
      refine X_iconst (v := (nI 0)) (show decode cL_isClear 12 = .ok (.iconst 0, 1) by decide +kernel) (by decide) ?_
      exact X_iret ⟨(show decode cL_isClear 13 = .ok (.ireturn, 1) by decide +kernel), .int, rfl, rfl⟩ ⟨_, rfl, w⟩
    · have w := w.2 c3
      refine X_iconst (v := (nI 1)) (show decode cL_isClear 8 = .ok (.iconst 1, 1) by decide +kernel) (by decide) ?_
      refine X_goto (tgt := 13) (show decode cL_isClear 9 = .ok (.goto 4, 3) by decide +kernel) (by decide) ?_
      exact X_iret ⟨(show decode cL_isClear 13 = .ok (.ireturn, 1) by decide +kernel), .int, rfl, rfl⟩ ⟨_, rfl, w⟩
set_option maxRecDepth 100000 in
set_option maxHeartbeats 4000000 in
theorem kL_minutesUntilNext {a0 : Nat} {a1 : Int32} {h : AH} {K : Int32 → AH → Prop} (w : wL_minutesUntilNext a0 a1 h K) : Cn mL_minutesUntilNext (cwh mL_minutesUntilNext) 11 2 12 [.ref a0, .int a1] h (KI K) T0 := by
  refine CnH_of (by decide +kernel) (Nat.le_of_ble_eq_true rfl) ?_
  show X mL_minutesUntilNext 11 (KI K) T0 2 12 0 [(0, .ref a0), (1, .int a1)] [] h
  unfold wL_minutesUntilNext at w
  refine X_aload_n (j := 0) (show decode cL_minutesUntilNext 0 = .ok (.aload_n 0, 1) by decide +kernel) rfl rfl ?_
  refine X_iload_n (j := 1) (show decode cL_minutesUntilNext 1 = .ok (.iload_n 1, 1) by decide +kernel) rfl rfl ?_
  obtain ⟨s4, w⟩ := w
  refine X_vI (rc' := 0) (rs' := 0) (as := [.int _]) mv_L_100 (show decode cL_minutesUntilNext 2 = .ok (.invokevirtual 100, 3) by decide +kernel) (by decide) (Nat.le_of_ble_eq_true rfl) (Nat.le_of_ble_eq_true rfl) rfl rfl (Nat.le_of_ble_eq_true rfl) (rcvD s4 (by decide) rfl) (kX9_minutesUntilNext w) (fun E9 h3 hk => ?_) (fun r2 h1 w => ?_)
  · obtain ⟨rfl, w⟩ := hk
    refine XT_catch (name := "java/util/NoSuchElementException") (i := 2) (j := 1) (ls' := []) [] (0, 5, 6, 50) [] rfl (fun z hz => absurd hz List.not_mem_nil) (by decide) (by decide) (gw_of (List.mem_of_getElem? (i := 533) (by decide +kernel)) (by decide +kernel)) (List.mem_of_getElem? (i := 8) rfl) (Or.inl ⟨2, rfl, (show decode cL_minutesUntilNext 6 = .ok (.astore_n 2, 1) by decide +kernel), rfl⟩) (Nat.le_of_ble_eq_true rfl) (fun q hq => absurd hq List.not_mem_nil) ?_
    refine X_bipush (v := (-75)) (show decode cL_minutesUntilNext 7 = .ok (.bipush (-75), 2) by decide +kernel) (by decide) ?_
    exact X_iret ⟨(show decode cL_minutesUntilNext 9 = .ok (.ireturn, 1) by decide +kernel), .int, rfl, rfl⟩ ⟨_, rfl, w⟩
  · skip
    exact X_iret ⟨(show decode cL_minutesUntilNext 5 = .ok (.ireturn, 1) by decide +kernel), .int, rfl, rfl⟩ ⟨_, rfl, w⟩
set_option maxRecDepth 100000 in
set_option maxHeartbeats 4000000 in
theorem kL_minutesUntilArrival {a0 : Nat} {a1 : Int32} {h : AH} {K : Int32 → AH → Prop} (w : wL_minutesUntilArrival a0 a1 h K) : Cn mL_minutesUntilArrival (cwh mL_minutesUntilArrival) 11 2 12 [.ref a0, .int a1] h (KI K) T0 := by
  refine CnH_of (by decide +kernel) (Nat.le_of_ble_eq_true rfl) ?_
  show X mL_minutesUntilArrival 11 (KI K) T0 2 12 0 [(0, .ref a0), (1, .int a1)] [] h
  unfold wL_minutesUntilArrival at w
  refine X_aload_n (j := 0) (show decode cL_minutesUntilArrival 0 = .ok (.aload_n 0, 1) by decide +kernel) rfl rfl ?_
  refine X_iload_n (j := 1) (show decode cL_minutesUntilArrival 1 = .ok (.iload_n 1, 1) by decide +kernel) rfl rfl ?_
  obtain ⟨s4, w⟩ := w
  refine X_vI (rc' := 0) (rs' := 0) (as := [.int _]) mv_L_103 (show decode cL_minutesUntilArrival 2 = .ok (.invokevirtual 103, 3) by decide +kernel) (by decide) (Nat.le_of_ble_eq_true rfl) (Nat.le_of_ble_eq_true rfl) rfl rfl (Nat.le_of_ble_eq_true rfl) (rcvD s4 (by decide) rfl) (kX9_minutesUntilArrival w) (fun E9 h3 hk => ?_) (fun r2 h1 w => ?_)
  · obtain ⟨rfl, w⟩ := hk
    refine XT_catch (name := "java/util/NoSuchElementException") (i := 2) (j := 1) (ls' := []) [] (0, 5, 6, 50) [] rfl (fun z hz => absurd hz List.not_mem_nil) (by decide) (by decide) (gw_of (List.mem_of_getElem? (i := 533) (by decide +kernel)) (by decide +kernel)) (List.mem_of_getElem? (i := 8) rfl) (Or.inl ⟨2, rfl, (show decode cL_minutesUntilArrival 6 = .ok (.astore_n 2, 1) by decide +kernel), rfl⟩) (Nat.le_of_ble_eq_true rfl) (fun q hq => absurd hq List.not_mem_nil) ?_
    refine X_bipush (v := (-75)) (show decode cL_minutesUntilArrival 7 = .ok (.bipush (-75), 2) by decide +kernel) (by decide) ?_
    exact X_iret ⟨(show decode cL_minutesUntilArrival 9 = .ok (.ireturn, 1) by decide +kernel), .int, rfl, rfl⟩ ⟨_, rfl, w⟩
  · skip
    exact X_iret ⟨(show decode cL_minutesUntilArrival 5 = .ok (.ireturn, 1) by decide +kernel), .int, rfl, rfl⟩ ⟨_, rfl, w⟩
set_option maxRecDepth 100000 in
set_option maxHeartbeats 4000000 in
theorem kL_minutesUntilArrivalByPassing {a0 : Nat} {a1 : Int32} {h : AH} {K : Int32 → AH → Prop} (w : wL_minutesUntilArrivalByPassing a0 a1 h K) : Cn mL_minutesUntilArrivalByPassing (cwh mL_minutesUntilArrivalByPassing) 11 2 12 [.ref a0, .int a1] h (KI K) T0 := by
  refine CnH_of (by decide +kernel) (Nat.le_of_ble_eq_true rfl) ?_
  show X mL_minutesUntilArrivalByPassing 11 (KI K) T0 2 12 0 [(0, .ref a0), (1, .int a1)] [] h
  unfold wL_minutesUntilArrivalByPassing at w
  refine X_aload_n (j := 0) (show decode cL_minutesUntilArrivalByPassing 0 = .ok (.aload_n 0, 1) by decide +kernel) rfl rfl ?_
  refine X_iload_n (j := 1) (show decode cL_minutesUntilArrivalByPassing 1 = .ok (.iload_n 1, 1) by decide +kernel) rfl rfl ?_
  obtain ⟨s4, w⟩ := w
  refine X_vI (rc' := 0) (rs' := 0) (as := [.int _]) mv_L_106 (show decode cL_minutesUntilArrivalByPassing 2 = .ok (.invokevirtual 106, 3) by decide +kernel) (by decide) (Nat.le_of_ble_eq_true rfl) (Nat.le_of_ble_eq_true rfl) rfl rfl (Nat.le_of_ble_eq_true rfl) (rcvD s4 (by decide) rfl) (kX9_minutesUntilArrivalByPassing w) (fun E9 h3 hk => ?_) (fun r2 h1 w => ?_)
  · obtain ⟨rfl, w⟩ := hk
    refine XT_catch (name := "java/util/NoSuchElementException") (i := 2) (j := 1) (ls' := []) [] (0, 5, 6, 50) [] rfl (fun z hz => absurd hz List.not_mem_nil) (by decide) (by decide) (gw_of (List.mem_of_getElem? (i := 533) (by decide +kernel)) (by decide +kernel)) (List.mem_of_getElem? (i := 8) rfl) (Or.inl ⟨2, rfl, (show decode cL_minutesUntilArrivalByPassing 6 = .ok (.astore_n 2, 1) by decide +kernel), rfl⟩) (Nat.le_of_ble_eq_true rfl) (fun q hq => absurd hq List.not_mem_nil) ?_
    refine X_bipush (v := (-75)) (show decode cL_minutesUntilArrivalByPassing 7 = .ok (.bipush (-75), 2) by decide +kernel) (by decide) ?_
    exact X_iret ⟨(show decode cL_minutesUntilArrivalByPassing 9 = .ok (.ireturn, 1) by decide +kernel), .int, rfl, rfl⟩ ⟨_, rfl, w⟩
  · skip
    exact X_iret ⟨(show decode cL_minutesUntilArrivalByPassing 5 = .ok (.ireturn, 1) by decide +kernel), .int, rfl, rfl⟩ ⟨_, rfl, w⟩
set_option maxRecDepth 100000 in
set_option maxHeartbeats 4000000 in
theorem kL_delay {a0 : Nat} {a1 : Int32} {h : AH} {K : Int32 → AH → Prop} (w : wL_delay a0 a1 h K) : Cn mL_delay (cwh mL_delay) 10 1 6 [.ref a0, .int a1] h (KI K) T0 := by
  refine CnH_of (by decide +kernel) (Nat.le_of_ble_eq_true rfl) ?_
  show X mL_delay 10 (KI K) T0 1 6 0 [(0, .ref a0), (1, .int a1)] [] h
  unfold wL_delay at w
  refine X_aload_n (j := 0) (show decode cL_delay 0 = .ok (.aload_n 0, 1) by decide +kernel) rfl rfl ?_
  refine X_iload_n (j := 1) (show decode cL_delay 1 = .ok (.iload_n 1, 1) by decide +kernel) rfl rfl ?_
  obtain ⟨s4, w⟩ := w
  refine X_vI (rc' := 0) (rs' := 0) (as := [.int _]) mv_L_109 (show decode cL_delay 2 = .ok (.invokevirtual 109, 3) by decide +kernel) (by decide) (Nat.le_of_ble_eq_true rfl) (Nat.le_of_ble_eq_true rfl) rfl rfl (Nat.le_of_ble_eq_true rfl) (rcvD s4 (by decide) rfl) (kX9_delay w) (fun E9 h3 hk => ?_) (fun r2 h1 w => ?_)
  · obtain ⟨rfl, w⟩ := hk
    refine XT_catch (name := "java/util/NoSuchElementException") (i := 2) (j := 1) (ls' := []) [] (0, 5, 6, 50) [] rfl (fun z hz => absurd hz List.not_mem_nil) (by decide) (by decide) (gw_of (List.mem_of_getElem? (i := 533) (by decide +kernel)) (by decide +kernel)) (List.mem_of_getElem? (i := 8) rfl) (Or.inl ⟨2, rfl, (show decode cL_delay 6 = .ok (.astore_n 2, 1) by decide +kernel), rfl⟩) (Nat.le_of_ble_eq_true rfl) (fun q hq => absurd hq List.not_mem_nil) ?_
    refine X_bipush (v := (-75)) (show decode cL_delay 7 = .ok (.bipush (-75), 2) by decide +kernel) (by decide) ?_
    exact X_iret ⟨(show decode cL_delay 9 = .ok (.ireturn, 1) by decide +kernel), .int, rfl, rfl⟩ ⟨_, rfl, w⟩
  · skip
    exact X_iret ⟨(show decode cL_delay 5 = .ok (.ireturn, 1) by decide +kernel), .int, rfl, rfl⟩ ⟨_, rfl, w⟩
set_option maxRecDepth 100000 in
set_option maxHeartbeats 4000000 in
theorem kL_queued {a0 : Nat} {a1 : Int32} {h : AH} {K : Int32 → AH → Prop} (w : wL_queued a0 a1 h K) : Cn mL_queued (cwh mL_queued) 9 1 6 [.ref a0, .int a1] h (KI K) T0 := by
  refine CnH_of (by decide +kernel) (Nat.le_of_ble_eq_true rfl) ?_
  show X mL_queued 9 (KI K) T0 1 6 0 [(0, .ref a0), (1, .int a1)] [] h
  unfold wL_queued at w
  refine X_aload_n (j := 0) (show decode cL_queued 0 = .ok (.aload_n 0, 1) by decide +kernel) rfl rfl ?_
  refine X_iload_n (j := 1) (show decode cL_queued 1 = .ok (.iload_n 1, 1) by decide +kernel) rfl rfl ?_
  obtain ⟨s4, w⟩ := w
  refine X_vI (rc' := 0) (rs' := 0) (as := [.int _]) mv_L_112 (show decode cL_queued 2 = .ok (.invokevirtual 112, 3) by decide +kernel) (by decide) (Nat.le_of_ble_eq_true rfl) (Nat.le_of_ble_eq_true rfl) rfl rfl (Nat.le_of_ble_eq_true rfl) (rcvD s4 (by decide) rfl) (kX9_queued w) (fun E9 h3 hk => ?_) (fun r2 h1 w => ?_)
  · obtain ⟨rfl, w⟩ := hk
    refine XT_catch (name := "java/util/NoSuchElementException") (i := 2) (j := 1) (ls' := []) [] (0, 5, 6, 50) [] rfl (fun z hz => absurd hz List.not_mem_nil) (by decide) (by decide) (gw_of (List.mem_of_getElem? (i := 533) (by decide +kernel)) (by decide +kernel)) (List.mem_of_getElem? (i := 8) rfl) (Or.inl ⟨2, rfl, (show decode cL_queued 6 = .ok (.astore_n 2, 1) by decide +kernel), rfl⟩) (Nat.le_of_ble_eq_true rfl) (fun q hq => absurd hq List.not_mem_nil) ?_
    refine X_bipush (v := (-75)) (show decode cL_queued 7 = .ok (.bipush (-75), 2) by decide +kernel) (by decide) ?_
    exact X_iret ⟨(show decode cL_queued 9 = .ok (.ireturn, 1) by decide +kernel), .int, rfl, rfl⟩ ⟨_, rfl, w⟩
  · skip
    exact X_iret ⟨(show decode cL_queued 5 = .ok (.ireturn, 1) by decide +kernel), .int, rfl, rfl⟩ ⟨_, rfl, w⟩
set_option maxRecDepth 100000 in
set_option maxHeartbeats 4000000 in
theorem kL_waitsFor {a0 : Nat} {a1 : Int32} {a2 : Int32} {h : AH} {K : Int32 → AH → Prop} (w : wL_waitsFor a0 a1 a2 h K) : Cn mL_waitsFor (cwh mL_waitsFor) 10 2 12 [.ref a0, .int a1, .int a2] h (KI K) T0 := by
  refine CnH_of (by decide +kernel) (Nat.le_of_ble_eq_true rfl) ?_
  show X mL_waitsFor 10 (KI K) T0 2 12 0 [(0, .ref a0), (1, .int a1), (2, .int a2)] [] h
  unfold wL_waitsFor at w
  refine X_aload_n (j := 0) (show decode cL_waitsFor 0 = .ok (.aload_n 0, 1) by decide +kernel) rfl rfl ?_
  refine X_iload_n (j := 1) (show decode cL_waitsFor 1 = .ok (.iload_n 1, 1) by decide +kernel) rfl rfl ?_
  refine X_iload_n (j := 2) (show decode cL_waitsFor 2 = .ok (.iload_n 2, 1) by decide +kernel) rfl rfl ?_
  obtain ⟨s5, w⟩ := w
  refine X_vI (rc' := 0) (rs' := 0) (as := [.int _, .int _]) mv_L_115 (show decode cL_waitsFor 3 = .ok (.invokevirtual 115, 3) by decide +kernel) (by decide) (Nat.le_of_ble_eq_true rfl) (Nat.le_of_ble_eq_true rfl) rfl rfl (Nat.le_of_ble_eq_true rfl) (rcvD s5 (by decide) rfl) (kX9_waitsFor w) (fun E9 h4 hk => ?_) (fun r2 h1 w => ?_)
  · obtain ⟨rfl, w⟩ := hk
    refine XT_catch (name := "java/util/NoSuchElementException") (i := 3) (j := 1) (ls' := []) [] (0, 14, 15, 50) [] rfl (fun z hz => absurd hz List.not_mem_nil) (by decide) (by decide) (gw_of (List.mem_of_getElem? (i := 533) (by decide +kernel)) (by decide +kernel)) (List.mem_of_getElem? (i := 8) rfl) (Or.inl ⟨3, rfl, (show decode cL_waitsFor 15 = .ok (.astore_n 3, 1) by decide +kernel), rfl⟩) (Nat.le_of_ble_eq_true rfl) (fun q hq => absurd hq List.not_mem_nil) ?_
    refine X_bipush (v := (-75)) (show decode cL_waitsFor 16 = .ok (.bipush (-75), 2) by decide +kernel) (by decide) ?_
    exact X_iret ⟨(show decode cL_waitsFor 18 = .ok (.ireturn, 1) by decide +kernel), .int, rfl, rfl⟩ ⟨_, rfl, w⟩
  · skip
    refine X_if_eq (tgt := 13) (show decode cL_waitsFor 6 = .ok (.ifCond .eq 7, 3) by decide +kernel) (by decide) ⟨fun c3 => ?_, fun c3 => ?_⟩
    · have w := w.1 c3
      refine X_iconst (v := (nI 0)) (show decode cL_waitsFor 13 = .ok (.iconst 0, 1) by decide +kernel) (by decide) ?_
      exact X_iret ⟨(show decode cL_waitsFor 14 = .ok (.ireturn, 1) by decide +kernel), .int, rfl, rfl⟩ ⟨_, rfl, w⟩
    · have w := w.2 c3
      refine X_iconst (v := (nI 1)) (show decode cL_waitsFor 9 = .ok (.iconst 1, 1) by decide +kernel) (by decide) ?_
      refine X_goto (tgt := 14) (show decode cL_waitsFor 10 = .ok (.goto 4, 3) by decide +kernel) (by decide) ?_
      exact X_iret ⟨(show decode cL_waitsFor 14 = .ok (.ireturn, 1) by decide +kernel), .int, rfl, rfl⟩ ⟨_, rfl, w⟩
set_option maxRecDepth 100000 in
set_option maxHeartbeats 4000000 in
theorem kL_conflict {a0 : Nat} {a1 : Int32} {a2 : Int32} {h : AH} {K : Int32 → AH → Prop} (w : wL_conflict a0 a1 a2 h K) : Cn mL_conflict (cwh mL_conflict) 10 3 18 [.ref a0, .int a1, .int a2] h (KI K) T0 := by
  refine CnH_of (by decide +kernel) (Nat.le_of_ble_eq_true rfl) ?_
  show X mL_conflict 10 (KI K) T0 3 18 0 [(0, .ref a0), (1, .int a1), (2, .int a2)] [] h
  unfold wL_conflict at w
  refine X_aload_n (j := 0) (show decode cL_conflict 0 = .ok (.aload_n 0, 1) by decide +kernel) rfl rfl ?_
  refine X_iload_n (j := 1) (show decode cL_conflict 1 = .ok (.iload_n 1, 1) by decide +kernel) rfl rfl ?_
  refine X_iload_n (j := 2) (show decode cL_conflict 2 = .ok (.iload_n 2, 1) by decide +kernel) rfl rfl ?_
  obtain ⟨s5, w⟩ := w
  refine X_vI (rc' := 0) (rs' := 0) (as := [.int _, .int _]) mv_L_119 (show decode cL_conflict 3 = .ok (.invokevirtual 119, 3) by decide +kernel) (by decide) (Nat.le_of_ble_eq_true rfl) (Nat.le_of_ble_eq_true rfl) rfl rfl (Nat.le_of_ble_eq_true rfl) (rcvD s5 (by decide) rfl) (kX9_conflict w) (fun E9 h4 hk => ?_) (fun r2 h1 w => ?_)
  · rcases hk with ⟨rfl, w⟩ | ⟨rfl, w⟩
    · skip
      refine XT_catch (name := "java/util/NoSuchElementException") (i := 3) (j := 1) (ls' := []) [] (0, 14, 15, 50) [(0, 14, 19, 20)] rfl (fun z hz => absurd hz List.not_mem_nil) (by decide) (by decide) (gw_of (List.mem_of_getElem? (i := 533) (by decide +kernel)) (by decide +kernel)) (List.mem_of_getElem? (i := 8) rfl) (Or.inl ⟨3, rfl, (show decode cL_conflict 15 = .ok (.astore_n 3, 1) by decide +kernel), rfl⟩) (Nat.le_of_ble_eq_true rfl) (fun q hq => absurd hq List.not_mem_nil) ?_
      refine X_bipush (v := (-75)) (show decode cL_conflict 16 = .ok (.bipush (-75), 2) by decide +kernel) (by decide) ?_
      exact X_iret ⟨(show decode cL_conflict 18 = .ok (.ireturn, 1) by decide +kernel), .int, rfl, rfl⟩ ⟨_, rfl, w⟩
    · skip
      refine XT_catch (name := "java/lang/IllegalArgumentException") (i := 3) (j := 1) (ls' := []) [(0, 14, 15, 50)] (0, 14, 19, 20) [] rfl (by
            intro z hz
            simp only [List.mem_cons, List.not_mem_nil, or_false] at hz
            rcases hz with rfl
            · exact ⟨by decide, _, gw_of (List.mem_of_getElem? (i := 533) (by decide +kernel)) (by decide +kernel), List.mem_of_getElem? (i := 9) rfl⟩
            ) (by decide) (by decide) (gw_of (List.mem_of_getElem? (i := 691) (by decide +kernel)) (by decide +kernel)) (List.mem_of_getElem? (i := 3) rfl) (Or.inl ⟨3, rfl, (show decode cL_conflict 19 = .ok (.astore_n 3, 1) by decide +kernel), rfl⟩) (Nat.le_of_ble_eq_true rfl) (fun q hq => absurd hq List.not_mem_nil) ?_
      refine X_bipush (v := (-78)) (show decode cL_conflict 20 = .ok (.bipush (-78), 2) by decide +kernel) (by decide) ?_
      exact X_iret ⟨(show decode cL_conflict 22 = .ok (.ireturn, 1) by decide +kernel), .int, rfl, rfl⟩ ⟨_, rfl, w⟩
  · skip
    refine X_if_eq (tgt := 13) (show decode cL_conflict 6 = .ok (.ifCond .eq 7, 3) by decide +kernel) (by decide) ⟨fun c3 => ?_, fun c3 => ?_⟩
    · have w := w.1 c3
      refine X_iconst (v := (nI 0)) (show decode cL_conflict 13 = .ok (.iconst 0, 1) by decide +kernel) (by decide) ?_
      exact X_iret ⟨(show decode cL_conflict 14 = .ok (.ireturn, 1) by decide +kernel), .int, rfl, rfl⟩ ⟨_, rfl, w⟩
    · have w := w.2 c3
      refine X_iconst (v := (nI 1)) (show decode cL_conflict 9 = .ok (.iconst 1, 1) by decide +kernel) (by decide) ?_
      refine X_goto (tgt := 14) (show decode cL_conflict 10 = .ok (.goto 4, 3) by decide +kernel) (by decide) ?_
      exact X_iret ⟨(show decode cL_conflict 14 = .ok (.ireturn, 1) by decide +kernel), .int, rfl, rfl⟩ ⟨_, rfl, w⟩
set_option maxRecDepth 100000 in
set_option maxHeartbeats 4000000 in
theorem kL_refusalReason {a0 : Nat} {h : AH} {K : Int32 → AH → Prop} (w : wL_refusalReason a0 h K) : Cn mL_refusalReason (cwh mL_refusalReason) 9 1 6 [.ref a0] h (KI K) T0 := by
  refine CnH_of (by decide +kernel) (Nat.le_of_ble_eq_true rfl) ?_
  show X mL_refusalReason 9 (KI K) T0 1 6 0 [(0, .ref a0)] [] h
  unfold wL_refusalReason at w
  refine X_aload_n (j := 0) (show decode cL_refusalReason 0 = .ok (.aload_n 0, 1) by decide +kernel) rfl rfl ?_
  obtain ⟨s4, w⟩ := w
  refine X_vI (rc' := 0) (rs' := 0) (as := []) mv_L_122 (show decode cL_refusalReason 1 = .ok (.invokevirtual 122, 3) by decide +kernel) (by decide) (Nat.le_of_ble_eq_true rfl) (Nat.le_of_ble_eq_true rfl) rfl rfl (Nat.le_of_ble_eq_true rfl) (rcvD s4 (by decide) rfl) (kX9_refusalReason w) (fun E9 h3 hk => ?_) (fun r2 h1 w => ?_)
  · obtain ⟨rfl, w⟩ := hk
    refine XT_catch (name := "java/util/NoSuchElementException") (i := 1) (j := 1) (ls' := []) [] (0, 4, 5, 50) [] rfl (fun z hz => absurd hz List.not_mem_nil) (by decide) (by decide) (gw_of (List.mem_of_getElem? (i := 533) (by decide +kernel)) (by decide +kernel)) (List.mem_of_getElem? (i := 8) rfl) (Or.inl ⟨1, rfl, (show decode cL_refusalReason 5 = .ok (.astore_n 1, 1) by decide +kernel), rfl⟩) (Nat.le_of_ble_eq_true rfl) (fun q hq => absurd hq List.not_mem_nil) ?_
    refine X_bipush (v := (-75)) (show decode cL_refusalReason 6 = .ok (.bipush (-75), 2) by decide +kernel) (by decide) ?_
    exact X_iret ⟨(show decode cL_refusalReason 8 = .ok (.ireturn, 1) by decide +kernel), .int, rfl, rfl⟩ ⟨_, rfl, w⟩
  · skip
    exact X_iret ⟨(show decode cL_refusalReason 4 = .ok (.ireturn, 1) by decide +kernel), .int, rfl, rfl⟩ ⟨_, rfl, w⟩
set_option maxRecDepth 100000 in
set_option maxHeartbeats 4000000 in
theorem kL_refusalBlock {a0 : Nat} {h : AH} {K : Int32 → AH → Prop} (w : wL_refusalBlock a0 h K) : Cn mL_refusalBlock (cwh mL_refusalBlock) 9 1 6 [.ref a0] h (KI K) T0 := by
  refine CnH_of (by decide +kernel) (Nat.le_of_ble_eq_true rfl) ?_
  show X mL_refusalBlock 9 (KI K) T0 1 6 0 [(0, .ref a0)] [] h
  unfold wL_refusalBlock at w
  refine X_aload_n (j := 0) (show decode cL_refusalBlock 0 = .ok (.aload_n 0, 1) by decide +kernel) rfl rfl ?_
  obtain ⟨s4, w⟩ := w
  refine X_vI (rc' := 0) (rs' := 0) (as := []) mv_L_126 (show decode cL_refusalBlock 1 = .ok (.invokevirtual 126, 3) by decide +kernel) (by decide) (Nat.le_of_ble_eq_true rfl) (Nat.le_of_ble_eq_true rfl) rfl rfl (Nat.le_of_ble_eq_true rfl) (rcvD s4 (by decide) rfl) (kX9_refusalBlock w) (fun E9 h3 hk => ?_) (fun r2 h1 w => ?_)
  · obtain ⟨rfl, w⟩ := hk
    refine XT_catch (name := "java/util/NoSuchElementException") (i := 1) (j := 1) (ls' := []) [] (0, 4, 5, 50) [] rfl (fun z hz => absurd hz List.not_mem_nil) (by decide) (by decide) (gw_of (List.mem_of_getElem? (i := 533) (by decide +kernel)) (by decide +kernel)) (List.mem_of_getElem? (i := 8) rfl) (Or.inl ⟨1, rfl, (show decode cL_refusalBlock 5 = .ok (.astore_n 1, 1) by decide +kernel), rfl⟩) (Nat.le_of_ble_eq_true rfl) (fun q hq => absurd hq List.not_mem_nil) ?_
    refine X_bipush (v := (-75)) (show decode cL_refusalBlock 6 = .ok (.bipush (-75), 2) by decide +kernel) (by decide) ?_
    exact X_iret ⟨(show decode cL_refusalBlock 8 = .ok (.ireturn, 1) by decide +kernel), .int, rfl, rfl⟩ ⟨_, rfl, w⟩
  · skip
    exact X_iret ⟨(show decode cL_refusalBlock 4 = .ok (.ireturn, 1) by decide +kernel), .int, rfl, rfl⟩ ⟨_, rfl, w⟩
set_option maxRecDepth 100000 in
set_option maxHeartbeats 4000000 in
theorem kL_meanDelay {a0 : Nat} {h : AH} {K : UInt64 → AH → Prop} (w : wL_meanDelay a0 h K) : Cn mL_meanDelay (cwh mL_meanDelay) 9 1 6 [.ref a0] h (KD K) T0 := by
  refine CnH_of (by decide +kernel) (Nat.le_of_ble_eq_true rfl) ?_
  show X mL_meanDelay 9 (KD K) T0 1 6 0 [(0, .ref a0)] [] h
  unfold wL_meanDelay at w
  refine X_aload_n (j := 0) (show decode cL_meanDelay 0 = .ok (.aload_n 0, 1) by decide +kernel) rfl rfl ?_
  obtain ⟨s4, w⟩ := w
  refine X_vD (rc' := 0) (rs' := 0) (as := []) mv_L_130 (show decode cL_meanDelay 1 = .ok (.invokevirtual 130, 3) by decide +kernel) (by decide) (Nat.le_of_ble_eq_true rfl) (Nat.le_of_ble_eq_true rfl) rfl rfl (Nat.le_of_ble_eq_true rfl) (rcvD s4 (by decide) rfl) (kX9_meanDelay w) (fun E9 h3 hk => ?_) (fun r2 h1 w => ?_)
  · obtain ⟨rfl, w⟩ := hk
    refine XT_catch (name := "java/lang/ArithmeticException") (i := 1) (j := 1) (ls' := []) [] (0, 4, 5, 134) [] rfl (fun z hz => absurd hz List.not_mem_nil) (by decide) (by decide) (gw_of (List.mem_of_getElem? (i := 1653) (by decide +kernel)) (by decide +kernel)) (List.mem_of_getElem? (i := 0) rfl) (Or.inl ⟨1, rfl, (show decode cL_meanDelay 5 = .ok (.astore_n 1, 1) by decide +kernel), rfl⟩) (Nat.le_of_ble_eq_true rfl) (fun q hq => absurd hq List.not_mem_nil) ?_
    refine X_ldc2d (v := 13858279740860792832) (show decode cL_meanDelay 6 = .ok (.ldc2_w 136, 3) by decide +kernel) gcd_L_136 ?_
    exact X_dret ⟨(show decode cL_meanDelay 9 = .ok (.dreturn, 1) by decide +kernel), rfl⟩ ⟨_, rfl, w⟩
  · skip
    exact X_dret ⟨(show decode cL_meanDelay 4 = .ok (.dreturn, 1) by decide +kernel), rfl⟩ ⟨_, rfl, w⟩
set_option maxRecDepth 100000 in
set_option maxHeartbeats 4000000 in
theorem kL_usedShare {a0 : Nat} {h : AH} {K : UInt32 → AH → Prop} (w : wL_usedShare a0 h K) : Cn mL_usedShare (cwh mL_usedShare) 9 1 6 [.ref a0] h (KF K) T0 := by
  refine CnH_of (by decide +kernel) (Nat.le_of_ble_eq_true rfl) ?_
  show X mL_usedShare 9 (KF K) T0 1 6 0 [(0, .ref a0)] [] h
  unfold wL_usedShare at w
  refine X_aload_n (j := 0) (show decode cL_usedShare 0 = .ok (.aload_n 0, 1) by decide +kernel) rfl rfl ?_
  obtain ⟨s4, w⟩ := w
  refine X_vF (rc' := 0) (rs' := 0) (as := []) mv_L_138 (show decode cL_usedShare 1 = .ok (.invokevirtual 138, 3) by decide +kernel) (by decide) (Nat.le_of_ble_eq_true rfl) (Nat.le_of_ble_eq_true rfl) rfl rfl (Nat.le_of_ble_eq_true rfl) (rcvD s4 (by decide) rfl) (kX9_usedShare w) (fun E9 h3 hk => ?_) (fun r2 h1 w => ?_)
  · obtain ⟨rfl, w⟩ := hk
    refine XT_catch (name := "java/lang/ArithmeticException") (i := 1) (j := 1) (ls' := []) [] (0, 4, 5, 134) [] rfl (fun z hz => absurd hz List.not_mem_nil) (by decide) (by decide) (gw_of (List.mem_of_getElem? (i := 1653) (by decide +kernel)) (by decide +kernel)) (List.mem_of_getElem? (i := 0) rfl) (Or.inl ⟨1, rfl, (show decode cL_usedShare 5 = .ok (.astore_n 1, 1) by decide +kernel), rfl⟩) (Nat.le_of_ble_eq_true rfl) (fun q hq => absurd hq List.not_mem_nil) ?_
    refine X_ldcf (v := 3264479232) (show decode cL_usedShare 6 = .ok (.ldc 142, 2) by decide +kernel) gcf_L_142 ?_
    exact X_fret ⟨(show decode cL_usedShare 8 = .ok (.freturn, 1) by decide +kernel), rfl⟩ ⟨_, rfl, w⟩
  · skip
    exact X_fret ⟨(show decode cL_usedShare 4 = .ok (.freturn, 1) by decide +kernel), rfl⟩ ⟨_, rfl, w⟩
set_option maxRecDepth 100000 in
set_option maxHeartbeats 4000000 in
theorem kL_writeTrain {a0 : Nat} {a1 : Int32} {h : AH} {K : Int32 → AH → Prop} (w : wL_writeTrain a0 a1 h K) : Cn mL_writeTrain (cwh mL_writeTrain) 11 33 8198 [.ref a0, .int a1] h (KI K) T0 := by
  refine CnH_of (by decide +kernel) (Nat.le_of_ble_eq_true rfl) ?_
  show X mL_writeTrain 11 (KI K) T0 33 8198 0 [(0, .ref a0), (1, .int a1)] [] h
  unfold wL_writeTrain at w
  refine X_aload_n (j := 0) (show decode cL_writeTrain 0 = .ok (.aload_n 0, 1) by decide +kernel) rfl rfl ?_
  refine X_iload_n (j := 1) (show decode cL_writeTrain 1 = .ok (.iload_n 1, 1) by decide +kernel) rfl rfl ?_
  obtain ⟨s4, w⟩ := w
  refine X_vI (rc' := 0) (rs' := 0) (as := [.int _]) mv_L_143 (show decode cL_writeTrain 2 = .ok (.invokevirtual 143, 3) by decide +kernel) (by decide) (Nat.le_of_ble_eq_true rfl) (Nat.le_of_ble_eq_true rfl) rfl rfl (Nat.le_of_ble_eq_true rfl) (rcvD s4 (by decide) rfl) (kX9_writeTrain w) (fun E9 h3 hk => ?_) (fun r2 h1 w => ?_)
  · obtain ⟨rfl, w⟩ := hk
    refine XT_catch (name := "java/util/NoSuchElementException") (i := 2) (j := 1) (ls' := []) [] (0, 5, 6, 50) [] rfl (fun z hz => absurd hz List.not_mem_nil) (by decide) (by decide) (gw_of (List.mem_of_getElem? (i := 533) (by decide +kernel)) (by decide +kernel)) (List.mem_of_getElem? (i := 8) rfl) (Or.inl ⟨2, rfl, (show decode cL_writeTrain 6 = .ok (.astore_n 2, 1) by decide +kernel), rfl⟩) (Nat.le_of_ble_eq_true rfl) (fun q hq => absurd hq List.not_mem_nil) ?_
    refine X_bipush (v := (-75)) (show decode cL_writeTrain 7 = .ok (.bipush (-75), 2) by decide +kernel) (by decide) ?_
    exact X_iret ⟨(show decode cL_writeTrain 9 = .ok (.ireturn, 1) by decide +kernel), .int, rfl, rfl⟩ ⟨_, rfl, w⟩
  · skip
    exact X_iret ⟨(show decode cL_writeTrain 5 = .ok (.ireturn, 1) by decide +kernel), .int, rfl, rfl⟩ ⟨_, rfl, w⟩
set_option maxRecDepth 100000 in
set_option maxHeartbeats 4000000 in
theorem kL_type {a0 : Nat} {a1 : Int32} {h : AH} {K : Int32 → AH → Prop} (w : wL_type a0 a1 h K) : Cn mL_type (cwh mL_type) 9 1 6 [.ref a0, .int a1] h (KI K) T0 := by
  refine CnH_of (by decide +kernel) (Nat.le_of_ble_eq_true rfl) ?_
  show X mL_type 9 (KI K) T0 1 6 0 [(0, .ref a0), (1, .int a1)] [] h
  unfold wL_type at w
  refine X_aload_n (j := 0) (show decode cL_type 0 = .ok (.aload_n 0, 1) by decide +kernel) rfl rfl ?_
  refine X_iload_n (j := 1) (show decode cL_type 1 = .ok (.iload_n 1, 1) by decide +kernel) rfl rfl ?_
  obtain ⟨s4, w⟩ := w
  refine X_vI (rc' := 0) (rs' := 0) (as := [.int _]) mv_L_149 (show decode cL_type 2 = .ok (.invokevirtual 149, 3) by decide +kernel) (by decide) (Nat.le_of_ble_eq_true rfl) (Nat.le_of_ble_eq_true rfl) rfl rfl (Nat.le_of_ble_eq_true rfl) (rcvD s4 (by decide) rfl) (kX9_type w) (fun E9 h3 hk => ?_) (fun r2 h1 w => ?_)
  · obtain ⟨rfl, w⟩ := hk
    refine XT_catch (name := "java/lang/IllegalStateException") (i := 2) (j := 1) (ls' := []) [] (0, 5, 6, 22) [] rfl (fun z hz => absurd hz List.not_mem_nil) (by decide) (by decide) (gw_of (List.mem_of_getElem? (i := 692) (by decide +kernel)) (by decide +kernel)) (List.mem_of_getElem? (i := 4) rfl) (Or.inl ⟨2, rfl, (show decode cL_type 6 = .ok (.astore_n 2, 1) by decide +kernel), rfl⟩) (Nat.le_of_ble_eq_true rfl) (fun q hq => absurd hq List.not_mem_nil) ?_
    refine X_bipush (v := (-79)) (show decode cL_type 7 = .ok (.bipush (-79), 2) by decide +kernel) (by decide) ?_
    exact X_iret ⟨(show decode cL_type 9 = .ok (.ireturn, 1) by decide +kernel), .int, rfl, rfl⟩ ⟨_, rfl, w⟩
  · skip
    exact X_iret ⟨(show decode cL_type 5 = .ok (.ireturn, 1) by decide +kernel), .int, rfl, rfl⟩ ⟨_, rfl, w⟩
set_option maxRecDepth 100000 in
set_option maxHeartbeats 4000000 in
theorem kL_run {a0 : Nat} {h : AH} {K : Int32 → AH → Prop} (w : wL_run a0 h K) : Cn mL_run (cwh mL_run) 11 1 6 [.ref a0] h (KI K) T0 := by
  refine CnH_of (by decide +kernel) (Nat.le_of_ble_eq_true rfl) ?_
  show X mL_run 11 (KI K) T0 1 6 0 [(0, .ref a0)] [] h
  unfold wL_run at w
  refine X_aload_n (j := 0) (show decode cL_run 0 = .ok (.aload_n 0, 1) by decide +kernel) rfl rfl ?_
  obtain ⟨s4, w⟩ := w
  refine X_vI (rc' := 0) (rs' := 0) (as := []) mv_L_153 (show decode cL_run 1 = .ok (.invokevirtual 153, 3) by decide +kernel) (by decide) (Nat.le_of_ble_eq_true rfl) (Nat.le_of_ble_eq_true rfl) rfl rfl (Nat.le_of_ble_eq_true rfl) (rcvD s4 (by decide) rfl) (kX9_run w) (fun E9 h3 hk => ?_) (fun r2 h1 w => ?_)
  · rcases hk with ⟨rfl, w⟩ | ⟨rfl, w⟩
    · skip
      refine XT_catch (name := "java/lang/IllegalArgumentException") (i := 1) (j := 1) (ls' := []) [] (0, 4, 5, 20) [(0, 4, 9, 52)] rfl (fun z hz => absurd hz List.not_mem_nil) (by decide) (by decide) (gw_of (List.mem_of_getElem? (i := 691) (by decide +kernel)) (by decide +kernel)) (List.mem_of_getElem? (i := 3) rfl) (Or.inl ⟨1, rfl, (show decode cL_run 5 = .ok (.astore_n 1, 1) by decide +kernel), rfl⟩) (Nat.le_of_ble_eq_true rfl) (fun q hq => absurd hq List.not_mem_nil) ?_
      refine X_bipush (v := (-78)) (show decode cL_run 6 = .ok (.bipush (-78), 2) by decide +kernel) (by decide) ?_
      exact X_iret ⟨(show decode cL_run 8 = .ok (.ireturn, 1) by decide +kernel), .int, rfl, rfl⟩ ⟨_, rfl, w⟩
    · skip
      refine XT_catch (name := "java/lang/UnsupportedOperationException") (i := 1) (j := 1) (ls' := []) [(0, 4, 5, 20)] (0, 4, 9, 52) [] rfl (by
            intro z hz
            simp only [List.mem_cons, List.not_mem_nil, or_false] at hz
            rcases hz with rfl
            · exact ⟨by decide, _, gw_of (List.mem_of_getElem? (i := 691) (by decide +kernel)) (by decide +kernel), List.mem_of_getElem? (i := 21) rfl⟩
            ) (by decide) (by decide) (gw_of (List.mem_of_getElem? (i := 921) (by decide +kernel)) (by decide +kernel)) (List.mem_of_getElem? (i := 7) rfl) (Or.inl ⟨1, rfl, (show decode cL_run 9 = .ok (.astore_n 1, 1) by decide +kernel), rfl⟩) (Nat.le_of_ble_eq_true rfl) (fun q hq => absurd hq List.not_mem_nil) ?_
      refine X_bipush (v := (-76)) (show decode cL_run 10 = .ok (.bipush (-76), 2) by decide +kernel) (by decide) ?_
      exact X_iret ⟨(show decode cL_run 12 = .ok (.ireturn, 1) by decide +kernel), .int, rfl, rfl⟩ ⟨_, rfl, w⟩
  · skip
    exact X_iret ⟨(show decode cL_run 4 = .ok (.ireturn, 1) by decide +kernel), .int, rfl, rfl⟩ ⟨_, rfl, w⟩
set_option maxRecDepth 100000 in
set_option maxHeartbeats 4000000 in
theorem kL_undo {a0 : Nat} {h : AH} {K : Int32 → AH → Prop} (w : wL_undo a0 h K) : Cn mL_undo (cwh mL_undo) 9 1 6 [.ref a0] h (KI K) T0 := by
  refine CnH_of (by decide +kernel) (Nat.le_of_ble_eq_true rfl) ?_
  show X mL_undo 9 (KI K) T0 1 6 0 [(0, .ref a0)] [] h
  unfold wL_undo at w
  refine X_aload_n (j := 0) (show decode cL_undo 0 = .ok (.aload_n 0, 1) by decide +kernel) rfl rfl ?_
  obtain ⟨s4, w⟩ := w
  refine X_vI (rc' := 0) (rs' := 0) (as := []) mv_L_162 (show decode cL_undo 1 = .ok (.invokevirtual 162, 3) by decide +kernel) (by decide) (Nat.le_of_ble_eq_true rfl) (Nat.le_of_ble_eq_true rfl) rfl rfl (Nat.le_of_ble_eq_true rfl) (rcvD s4 (by decide) rfl) (kX9_undo w) (fun E9 h3 hk => ?_) (fun r2 h1 w => ?_)
  · obtain ⟨rfl, w⟩ := hk
    refine XT_catch (name := "java/lang/IllegalStateException") (i := 1) (j := 1) (ls' := []) [] (0, 4, 5, 22) [] rfl (fun z hz => absurd hz List.not_mem_nil) (by decide) (by decide) (gw_of (List.mem_of_getElem? (i := 692) (by decide +kernel)) (by decide +kernel)) (List.mem_of_getElem? (i := 4) rfl) (Or.inl ⟨1, rfl, (show decode cL_undo 5 = .ok (.astore_n 1, 1) by decide +kernel), rfl⟩) (Nat.le_of_ble_eq_true rfl) (fun q hq => absurd hq List.not_mem_nil) ?_
    refine X_bipush (v := (-79)) (show decode cL_undo 6 = .ok (.bipush (-79), 2) by decide +kernel) (by decide) ?_
    exact X_iret ⟨(show decode cL_undo 8 = .ok (.ireturn, 1) by decide +kernel), .int, rfl, rfl⟩ ⟨_, rfl, w⟩
  · skip
    exact X_iret ⟨(show decode cL_undo 4 = .ok (.ireturn, 1) by decide +kernel), .int, rfl, rfl⟩ ⟨_, rfl, w⟩
set_option maxRecDepth 100000 in
set_option maxHeartbeats 4000000 in
theorem kL_restore {a0 : Nat} {h : AH} {K : Int32 → AH → Prop} (w : wL_restore a0 h K) : Cn mL_restore (cwh mL_restore) 9 1 6 [.ref a0] h (KI K) T0 := by
  refine CnH_of (by decide +kernel) (Nat.le_of_ble_eq_true rfl) ?_
  show X mL_restore 9 (KI K) T0 1 6 0 [(0, .ref a0)] [] h
  unfold wL_restore at w
  refine X_aload_n (j := 0) (show decode cL_restore 0 = .ok (.aload_n 0, 1) by decide +kernel) rfl rfl ?_
  obtain ⟨s4, w⟩ := w
  refine X_vI (rc' := 0) (rs' := 0) (as := []) mv_L_165 (show decode cL_restore 1 = .ok (.invokevirtual 165, 3) by decide +kernel) (by decide) (Nat.le_of_ble_eq_true rfl) (Nat.le_of_ble_eq_true rfl) rfl rfl (Nat.le_of_ble_eq_true rfl) (rcvD s4 (by decide) rfl) (kX9_restore w) (fun E9 h3 hk => ?_) (fun r2 h1 w => ?_)
  · obtain ⟨rfl, w⟩ := hk
    refine XT_catch (name := "java/lang/IllegalStateException") (i := 1) (j := 1) (ls' := []) [] (0, 4, 5, 22) [] rfl (fun z hz => absurd hz List.not_mem_nil) (by decide) (by decide) (gw_of (List.mem_of_getElem? (i := 692) (by decide +kernel)) (by decide +kernel)) (List.mem_of_getElem? (i := 4) rfl) (Or.inl ⟨1, rfl, (show decode cL_restore 5 = .ok (.astore_n 1, 1) by decide +kernel), rfl⟩) (Nat.le_of_ble_eq_true rfl) (fun q hq => absurd hq List.not_mem_nil) ?_
    refine X_bipush (v := (-79)) (show decode cL_restore 6 = .ok (.bipush (-79), 2) by decide +kernel) (by decide) ?_
    exact X_iret ⟨(show decode cL_restore 8 = .ok (.ireturn, 1) by decide +kernel), .int, rfl, rfl⟩ ⟨_, rfl, w⟩
  · skip
    exact X_iret ⟨(show decode cL_restore 4 = .ok (.ireturn, 1) by decide +kernel), .int, rfl, rfl⟩ ⟨_, rfl, w⟩
set_option maxRecDepth 100000 in
set_option maxHeartbeats 4000000 in
theorem kJ0U_coder {a0 : Nat} {h : AH} {K : Int32 → AH → Prop} (w : wJ0U_coder a0 h K) : Cn mJ0U_coder (cwd mJ0U_coder) 1 0 0 [.ref a0] h (KI K) T0 := by
  refine Cn_of (by decide +kernel) rfl (Nat.le_of_ble_eq_true rfl) ?_
  show X mJ0U_coder 1 (KI K) T0 0 0 0 [(0, .ref a0)] [] h
  unfold wJ0U_coder at w
  refine X_getstI (j := 3) rfl gz_J0_38 (show decode cJ0U_coder 0 = .ok (.getstatic 38, 3) by decide +kernel) ?_
  refine X_if_eq (tgt := 13) (show decode cJ0U_coder 3 = .ok (.ifCond .eq 10, 3) by decide +kernel) (by decide) ⟨fun c1 => ?_, fun c1 => ?_⟩
  · have w := w.1 c1
    refine X_iconst (v := (nI 1)) (show decode cJ0U_coder 13 = .ok (.iconst 1, 1) by decide +kernel) (by decide) ?_
    exact X_iret ⟨(show decode cJ0U_coder 14 = .ok (.ireturn, 1) by decide +kernel), .byte, rfl, (by decide)⟩ ⟨_, rfl, w⟩
  · have w := w.2 c1
    refine X_aload_n (j := 0) (show decode cJ0U_coder 6 = .ok (.aload_n 0, 1) by decide +kernel) rfl rfl ?_
    obtain ⟨s2, w⟩ := w
    refine X_getUI fl_J0_15 (show decode cJ0U_coder 7 = .ok (.getfield 15, 3) by decide +kernel) (Or.inl (gw_of (List.mem_of_getElem? (i := 1173) (by decide +kernel)) (by decide +kernel))) s2 ?_
    refine X_goto (tgt := 14) (show decode cJ0U_coder 10 = .ok (.goto 4, 3) by decide +kernel) (by decide) ?_
    obtain ⟨s3, w⟩ := w
    exact X_iret ⟨(show decode cJ0U_coder 14 = .ok (.ireturn, 1) by decide +kernel), .byte, rfl, s3⟩ ⟨_, rfl, w⟩
set_option maxRecDepth 100000 in
set_option maxHeartbeats 4000000 in
theorem kJ0U_length {a0 : Nat} {h : AH} {K : Int32 → AH → Prop} (w : wJ0U_length a0 h K) : Cn mJ0U_length (cwd mJ0U_length) 2 0 0 [.ref a0] h (KI K) T0 := by
  refine Cn_of (by decide +kernel) rfl (Nat.le_of_ble_eq_true rfl) ?_
  show X mJ0U_length 2 (KI K) T0 0 0 0 [(0, .ref a0)] [] h
  unfold wJ0U_length at w
  refine X_aload_n (j := 0) (show decode cJ0U_length 0 = .ok (.aload_n 0, 1) by decide +kernel) rfl rfl ?_
  obtain ⟨s1, w⟩ := w
  refine X_getUR fl_J0_9 (show decode cJ0U_length 1 = .ok (.getfield 9, 3) by decide +kernel) (Or.inl (gw_of (List.mem_of_getElem? (i := 1172) (by decide +kernel)) (by decide +kernel))) s1 ?_
  obtain ⟨s2, w⟩ := w
  refine X_alen (v := nI (ln _ _)) (show decode cJ0U_length 4 = .ok (.arraylength, 1) by decide +kernel) (by decide) (isA_eq s2) rfl ?_
  refine X_aload_n (j := 0) (show decode cJ0U_length 5 = .ok (.aload_n 0, 1) by decide +kernel) rfl rfl ?_
  refine X_vI (rc' := 0) (rs' := 0) (as := []) mv_J0_335U (show decode cJ0U_length 6 = .ok (.invokevirtual 335, 3) by decide +kernel) (by decide) (Nat.le_of_ble_eq_true rfl) (Nat.le_of_ble_eq_true rfl) rfl rfl (Nat.le_of_ble_eq_true rfl) (rcvSt s1) (kJ0U_coder w) (fun E h hk => hk.elim) (fun r4 h3 w => ?_)
  refine X_ishr (show decode cJ0U_length 9 = .ok (.ishr, 1) by decide +kernel) ?_
  exact X_iret ⟨(show decode cJ0U_length 10 = .ok (.ireturn, 1) by decide +kernel), .int, rfl, rfl⟩ ⟨_, rfl, w⟩
set_option maxRecDepth 100000 in
set_option maxHeartbeats 4000000 in
theorem kJ0U_isLatin1 {a0 : Nat} {h : AH} {K : Int32 → AH → Prop} (w : wJ0U_isLatin1 a0 h K) : Cn mJ0U_isLatin1 (cwd mJ0U_isLatin1) 1 0 0 [.ref a0] h (KI K) T0 := by
  refine Cn_of (by decide +kernel) rfl (Nat.le_of_ble_eq_true rfl) ?_
  show X mJ0U_isLatin1 1 (KI K) T0 0 0 0 [(0, .ref a0)] [] h
  unfold wJ0U_isLatin1 at w
  refine X_getstI (j := 3) rfl gz_J0_38 (show decode cJ0U_isLatin1 0 = .ok (.getstatic 38, 3) by decide +kernel) ?_
  refine X_if_eq (tgt := 17) (show decode cJ0U_isLatin1 3 = .ok (.ifCond .eq 14, 3) by decide +kernel) (by decide) ⟨fun c1 => ?_, fun c1 => ?_⟩
  · have w := w.1 c1
    refine X_iconst (v := (nI 0)) (show decode cJ0U_isLatin1 17 = .ok (.iconst 0, 1) by decide +kernel) (by decide) ?_
    exact X_iret ⟨(show decode cJ0U_isLatin1 18 = .ok (.ireturn, 1) by decide +kernel), .boolean, rfl, (by decide)⟩ ⟨_, rfl, w⟩
  · have w := w.2 c1
    refine X_aload_n (j := 0) (show decode cJ0U_isLatin1 6 = .ok (.aload_n 0, 1) by decide +kernel) rfl rfl ?_
    obtain ⟨s2, w⟩ := w
    refine X_getUI fl_J0_15 (show decode cJ0U_isLatin1 7 = .ok (.getfield 15, 3) by decide +kernel) (Or.inl (gw_of (List.mem_of_getElem? (i := 1173) (by decide +kernel)) (by decide +kernel))) s2 ?_
    refine X_if_ne (tgt := 17) (show decode cJ0U_isLatin1 10 = .ok (.ifCond .ne 7, 3) by decide +kernel) (by decide) ⟨fun c3 => ?_, fun c3 => ?_⟩
    · have w := w.1 c3
      refine X_iconst (v := (nI 0)) (show decode cJ0U_isLatin1 17 = .ok (.iconst 0, 1) by decide +kernel) (by decide) ?_
      exact X_iret ⟨(show decode cJ0U_isLatin1 18 = .ok (.ireturn, 1) by decide +kernel), .boolean, rfl, (by decide)⟩ ⟨_, rfl, w⟩
    · have w := w.2 c3
      refine X_iconst (v := (nI 1)) (show decode cJ0U_isLatin1 13 = .ok (.iconst 1, 1) by decide +kernel) (by decide) ?_
      refine X_goto (tgt := 18) (show decode cJ0U_isLatin1 14 = .ok (.goto 4, 3) by decide +kernel) (by decide) ?_
      exact X_iret ⟨(show decode cJ0U_isLatin1 18 = .ok (.ireturn, 1) by decide +kernel), .boolean, rfl, (by decide)⟩ ⟨_, rfl, w⟩
set_option maxRecDepth 100000 in
set_option maxHeartbeats 4000000 in
theorem kJ0U_charAt {a0 : Nat} {a1 : Int32} {h : AH} {K : Int32 → AH → Prop} (w : wJ0U_charAt a0 a1 h K) : Cn mJ0U_charAt (cwd mJ0U_charAt) 5 0 0 [.ref a0, .int a1] h (KI K) T0 := by
  refine Cn_of (by decide +kernel) rfl (Nat.le_of_ble_eq_true rfl) ?_
  show X mJ0U_charAt 5 (KI K) T0 0 0 0 [(0, .ref a0), (1, .int a1)] [] h
  unfold wJ0U_charAt at w
  refine X_aload_n (j := 0) (show decode cJ0U_charAt 0 = .ok (.aload_n 0, 1) by decide +kernel) rfl rfl ?_
  obtain ⟨s9, w⟩ := w
  refine X_vI (rc' := 0) (rs' := 0) (as := []) mv_J0_492U (show decode cJ0U_charAt 1 = .ok (.invokevirtual 492, 3) by decide +kernel) (by decide) (Nat.le_of_ble_eq_true rfl) (Nat.le_of_ble_eq_true rfl) rfl rfl (Nat.le_of_ble_eq_true rfl) (rcvSt s9) (kJ0U_isLatin1 w) (fun E h hk => hk.elim) (fun r2 h1 w => ?_)
  refine X_if_eq (tgt := 16) (show decode cJ0U_charAt 4 = .ok (.ifCond .eq 12, 3) by decide +kernel) (by decide) ⟨fun c3 => ?_, fun c3 => ?_⟩
  · have w := w.1 c3
    exact w.elim
  · have w := w.2 c3
    refine X_aload_n (j := 0) (show decode cJ0U_charAt 7 = .ok (.aload_n 0, 1) by decide +kernel) rfl rfl ?_
    obtain ⟨s5, w⟩ := w
    refine X_getUR fl_J0_9 (show decode cJ0U_charAt 8 = .ok (.getfield 9, 3) by decide +kernel) (Or.inl (gw_of (List.mem_of_getElem? (i := 1172) (by decide +kernel)) (by decide +kernel))) s5 ?_
    refine X_iload_n (j := 1) (show decode cJ0U_charAt 11 = .ok (.iload_n 1, 1) by decide +kernel) rfl rfl ?_
    refine X_sI (rc' := 0) (rs' := 0) (as := [.ref _, .int _]) ms_J0_495 (show decode cJ0U_charAt 12 = .ok (.invokestatic 495, 3) by decide +kernel) (by decide) (Nat.le_of_ble_eq_true rfl) (Nat.le_of_ble_eq_true rfl) rfl rfl (Nat.le_of_ble_eq_true rfl) (kJ1_charAt_3b067 w) (fun E h hk => hk.elim) (fun r7 h6 w => ?_)
    obtain ⟨s8, w⟩ := w
    exact X_iret ⟨(show decode cJ0U_charAt 15 = .ok (.ireturn, 1) by decide +kernel), .char, rfl, s8⟩ ⟨_, rfl, w⟩
