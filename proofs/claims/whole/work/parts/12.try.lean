abbrev mX4_has : Mt := (yX4_has, cX4_has, 2, some (.boolean), [])
abbrev mX4_hasPoint : Mt := (yX4_hasPoint, cX4_hasPoint, 2, some (.boolean), [])
abbrev mX4_hasExit : Mt := (yX4_hasExit, cX4_hasExit, 2, some (.boolean), [])
abbrev mX4_isStem : Mt := (yX4_isStem, cX4_isStem, 2, some (.boolean), [])
abbrev mX4_leadsTo : Mt := (yX4_leadsTo, cX4_leadsTo, 3, some (.boolean), [])
abbrev mX4_lengthOf : Mt := (yX4_lengthOf, cX4_lengthOf, 2, some (.int), [])
abbrev mX4_stemOf : Mt := (yX4_stemOf, cX4_stemOf, 2, some (.int), [])
theorem us_X4 : ∀ w ∈ u_ws RX4 TX4 12, w ∈ gw := fun w hw => gw_of ((show ∀ w ∈ u_ws RX4 TX4 12, w ∈ lw_tbl by decide +kernel) w hw) ((show ∀ w ∈ u_ws RX4 TX4 12, goodWord w = true by decide +kernel) w hw)
theorem fl_X4_9 : FL "InterlockingBox$Line" 9 2 0 0 := ⟨RX4, TX4, 12, rfl, us_X4, by decide, rfl, by decide, Or.inl (gw_of (List.mem_of_getElem? (i := 140) (by decide +kernel)) (by decide +kernel))⟩
theorem fl_X4_15 : FL "InterlockingBox$Line" 15 2 1 0 := ⟨RX4, TX4, 12, rfl, us_X4, by decide, rfl, by decide, Or.inl (gw_of (List.mem_of_getElem? (i := 143) (by decide +kernel)) (by decide +kernel))⟩
theorem fl_X4_31 : FL "InterlockingBox$Line" 31 2 6 1 := ⟨RX4, TX4, 12, rfl, us_X4, by decide, rfl, by decide, Or.inl (gw_of (List.mem_of_getElem? (i := 153) (by decide +kernel)) (by decide +kernel))⟩
theorem md_X4_has : MD mX4_has 1 := ⟨gw_of (List.mem_of_getElem? (i := 85) (by decide +kernel)) (by decide +kernel), ⟨by decide +kernel, by decide +kernel⟩, by decide +kernel, by decide⟩
theorem mv_X4_57 : MV "InterlockingBox$Line" 57 mX4_has 1 RX4 := ⟨md_X4_has, gw_of (List.mem_of_getElem? (i := 475) (by decide +kernel)) (by decide +kernel), gw_of (List.mem_of_getElem? (i := 476) (by decide +kernel)) (by decide +kernel), gw_of (List.mem_of_getElem? (i := 477) (by decide +kernel)) (by decide +kernel), gw_of (List.mem_of_getElem? (i := 478) (by decide +kernel)) (by decide +kernel)⟩
theorem fl_X4_34 : FL "InterlockingBox$Line" 34 2 7 1 := ⟨RX4, TX4, 12, rfl, us_X4, by decide, rfl, by decide, Or.inl (gw_of (List.mem_of_getElem? (i := 154) (by decide +kernel)) (by decide +kernel))⟩
theorem fl_X4_27 : FL "InterlockingBox$Line" 27 2 5 1 := ⟨RX4, TX4, 12, rfl, us_X4, by decide, rfl, by decide, Or.inl (gw_of (List.mem_of_getElem? (i := 152) (by decide +kernel)) (by decide +kernel))⟩
theorem fl_X4_37 : FL "InterlockingBox$Line" 37 2 8 1 := ⟨RX4, TX4, 12, rfl, us_X4, by decide, rfl, by decide, Or.inl (gw_of (List.mem_of_getElem? (i := 155) (by decide +kernel)) (by decide +kernel))⟩
theorem md_X4_hasPoint : MD mX4_hasPoint 1 := ⟨gw_of (List.mem_of_getElem? (i := 85) (by decide +kernel)) (by decide +kernel), ⟨by decide +kernel, by decide +kernel⟩, by decide +kernel, by decide⟩
theorem mv_X4_61 : MV "InterlockingBox$Line" 61 mX4_hasPoint 1 RX4 := ⟨md_X4_hasPoint, gw_of (List.mem_of_getElem? (i := 588) (by decide +kernel)) (by decide +kernel), gw_of (List.mem_of_getElem? (i := 589) (by decide +kernel)) (by decide +kernel), gw_of (List.mem_of_getElem? (i := 590) (by decide +kernel)) (by decide +kernel), gw_of (List.mem_of_getElem? (i := 591) (by decide +kernel)) (by decide +kernel)⟩
def wX4_has (a0 : Nat) (a1 : Int32) (h : AH) (K : Int32 → AH → Prop) : Prop :=
  ((a1 < 0 → K 0 h) ∧ (¬ a1 < 0 → (isO h a0 2) ∧ ((mI h a0 0 ≤ a1 → K 0 h) ∧ (¬ mI h a0 0 ≤ a1 → K 1 h))))
def wX4_hasPoint (a0 : Nat) (a1 : Int32) (h : AH) (K : Int32 → AH → Prop) : Prop :=
  ((a1 < 0 → K 0 h) ∧ (¬ a1 < 0 → (isO h a0 2) ∧ ((mI h a0 1 ≤ a1 → K 0 h) ∧ (¬ mI h a0 1 ≤ a1 → K 1 h))))
def wX4_hasExit (a0 : Nat) (a1 : Int32) (h : AH) (K : Int32 → AH → Prop) : Prop :=
  (isO h a0 2) ∧ wX4_has a0 a1 h (fun r2 h1 => ((r2 = 0 → K 0 h1) ∧ (¬ r2 = 0 → (isO h1 a0 2) ∧ (isA h1 (mR h1 a0 6) 0) ∧ (vp_in a1 (ln h1 (mR h1 a0 6))) ∧ ((mI h1 (mR h1 a0 6) a1.toNatClampNeg = (-1) → K 0 h1) ∧ (¬ mI h1 (mR h1 a0 6) a1.toNatClampNeg = (-1) → K 1 h1)))))
def wX4_isStem (a0 : Nat) (a1 : Int32) (h : AH) (K : Int32 → AH → Prop) : Prop :=
  (isO h a0 2) ∧ wX4_has a0 a1 h (fun r2 h1 => ((r2 = 0 → K 0 h1) ∧ (¬ r2 = 0 → (isO h1 a0 2) ∧ (isA h1 (mR h1 a0 6) 0) ∧ (vp_in a1 (ln h1 (mR h1 a0 6))) ∧ (isA h1 (mR h1 a0 7) 0) ∧ (vp_in a1 (ln h1 (mR h1 a0 7))) ∧ ((mI h1 (mR h1 a0 6) a1.toNatClampNeg = mI h1 (mR h1 a0 7) a1.toNatClampNeg → K 0 h1) ∧ (¬ mI h1 (mR h1 a0 6) a1.toNatClampNeg = mI h1 (mR h1 a0 7) a1.toNatClampNeg → K 1 h1)))))
def wX4_leadsTo (a0 : Nat) (a1 : Int32) (a2 : Int32) (h : AH) (K : Int32 → AH → Prop) : Prop :=
  (isO h a0 2) ∧ wX4_has a0 a1 h (fun r2 h1 => ((r2 = 0 → K 0 h1) ∧ (¬ r2 = 0 → (isO h1 a0 2) ∧ (isA h1 (mR h1 a0 6) 0) ∧ (vp_in a1 (ln h1 (mR h1 a0 6))) ∧ ((mI h1 (mR h1 a0 6) a1.toNatClampNeg = a2 → K 1 h1) ∧ (¬ mI h1 (mR h1 a0 6) a1.toNatClampNeg = a2 → (isA h1 (mR h1 a0 7) 0) ∧ (vp_in a1 (ln h1 (mR h1 a0 7))) ∧ ((¬ mI h1 (mR h1 a0 7) a1.toNatClampNeg = a2 → K 0 h1) ∧ (mI h1 (mR h1 a0 7) a1.toNatClampNeg = a2 → K 1 h1)))))))
def wX4_lengthOf (a0 : Nat) (a1 : Int32) (h : AH) (K : Int32 → AH → Prop) : Prop :=
  (isO h a0 2) ∧ wX4_has a0 a1 h (fun r2 h1 => ((r2 = 0 → K 0 h1) ∧ (¬ r2 = 0 → (isO h1 a0 2) ∧ (isA h1 (mR h1 a0 5) 0) ∧ (vp_in a1 (ln h1 (mR h1 a0 5))) ∧ K (mI h1 (mR h1 a0 5) a1.toNatClampNeg) h1)))
def wX4_stemOf (a0 : Nat) (a1 : Int32) (h : AH) (K : Int32 → AH → Prop) : Prop :=
  (isO h a0 2) ∧ wX4_hasPoint a0 a1 h (fun r2 h1 => ((r2 = 0 → K (-1) h1) ∧ (¬ r2 = 0 → (isO h1 a0 2) ∧ (isA h1 (mR h1 a0 8) 0) ∧ (vp_in a1 (ln h1 (mR h1 a0 8))) ∧ K (mI h1 (mR h1 a0 8) a1.toNatClampNeg) h1)))
set_option maxRecDepth 100000 in
set_option maxHeartbeats 4000000 in
theorem kX4_has {a0 : Nat} {a1 : Int32} {h : AH} {K : Int32 → AH → Prop} (w : wX4_has a0 a1 h K) : Cn mX4_has (cwd mX4_has) 1 0 0 [.ref a0, .int a1] h (KI K) T0 := by
  refine Cn_of (by decide +kernel) rfl (Nat.le_of_ble_eq_true rfl) ?_
  show X mX4_has 1 (KI K) T0 0 0 0 [(0, .ref a0), (1, .int a1)] [] h
  unfold wX4_has at w
  refine X_iload_n (j := 1) (show decode cX4_has 0 = .ok (.iload_n 1, 1) by decide +kernel) rfl rfl ?_
  refine X_if_lt (tgt := 16) (show decode cX4_has 1 = .ok (.ifCond .lt 15, 3) by decide +kernel) (by decide) ⟨fun c1 => ?_, fun c1 => ?_⟩
  · have w := w.1 c1
    refine X_iconst (v := 0) (show decode cX4_has 16 = .ok (.iconst 0, 1) by decide +kernel) (by decide) ?_
    exact X_iret ⟨(show decode cX4_has 17 = .ok (.ireturn, 1) by decide +kernel), .boolean, rfl, (by decide)⟩ ⟨_, rfl, w⟩
  · have w := w.2 c1
    refine X_iload_n (j := 1) (show decode cX4_has 4 = .ok (.iload_n 1, 1) by decide +kernel) rfl rfl ?_
    refine X_aload_n (j := 0) (show decode cX4_has 5 = .ok (.aload_n 0, 1) by decide +kernel) rfl rfl ?_
    obtain ⟨s2, w⟩ := w
    refine X_getI fl_X4_9 (show decode cX4_has 6 = .ok (.getfield 9, 3) by decide +kernel) s2 ?_
    refine X_icmp_ge (tgt := 16) (show decode cX4_has 9 = .ok (.if_icmp .ge 7, 3) by decide +kernel) (by decide) ⟨fun c3 => ?_, fun c3 => ?_⟩
    · have w := w.1 c3
      refine X_iconst (v := 0) (show decode cX4_has 16 = .ok (.iconst 0, 1) by decide +kernel) (by decide) ?_
      exact X_iret ⟨(show decode cX4_has 17 = .ok (.ireturn, 1) by decide +kernel), .boolean, rfl, (by decide)⟩ ⟨_, rfl, w⟩
    · have w := w.2 c3
      refine X_iconst (v := 1) (show decode cX4_has 12 = .ok (.iconst 1, 1) by decide +kernel) (by decide) ?_
      refine X_goto (tgt := 17) (show decode cX4_has 13 = .ok (.goto 4, 3) by decide +kernel) (by decide) ?_
      exact X_iret ⟨(show decode cX4_has 17 = .ok (.ireturn, 1) by decide +kernel), .boolean, rfl, (by decide)⟩ ⟨_, rfl, w⟩
set_option maxRecDepth 100000 in
set_option maxHeartbeats 4000000 in
theorem kX4_hasPoint {a0 : Nat} {a1 : Int32} {h : AH} {K : Int32 → AH → Prop} (w : wX4_hasPoint a0 a1 h K) : Cn mX4_hasPoint (cwd mX4_hasPoint) 1 0 0 [.ref a0, .int a1] h (KI K) T0 := by
  refine Cn_of (by decide +kernel) rfl (Nat.le_of_ble_eq_true rfl) ?_
  show X mX4_hasPoint 1 (KI K) T0 0 0 0 [(0, .ref a0), (1, .int a1)] [] h
  unfold wX4_hasPoint at w
  refine X_iload_n (j := 1) (show decode cX4_hasPoint 0 = .ok (.iload_n 1, 1) by decide +kernel) rfl rfl ?_
  refine X_if_lt (tgt := 16) (show decode cX4_hasPoint 1 = .ok (.ifCond .lt 15, 3) by decide +kernel) (by decide) ⟨fun c1 => ?_, fun c1 => ?_⟩
  · have w := w.1 c1
    refine X_iconst (v := 0) (show decode cX4_hasPoint 16 = .ok (.iconst 0, 1) by decide +kernel) (by decide) ?_
    exact X_iret ⟨(show decode cX4_hasPoint 17 = .ok (.ireturn, 1) by decide +kernel), .boolean, rfl, (by decide)⟩ ⟨_, rfl, w⟩
  · have w := w.2 c1
    refine X_iload_n (j := 1) (show decode cX4_hasPoint 4 = .ok (.iload_n 1, 1) by decide +kernel) rfl rfl ?_
    refine X_aload_n (j := 0) (show decode cX4_hasPoint 5 = .ok (.aload_n 0, 1) by decide +kernel) rfl rfl ?_
    obtain ⟨s2, w⟩ := w
    refine X_getI fl_X4_15 (show decode cX4_hasPoint 6 = .ok (.getfield 15, 3) by decide +kernel) s2 ?_
    refine X_icmp_ge (tgt := 16) (show decode cX4_hasPoint 9 = .ok (.if_icmp .ge 7, 3) by decide +kernel) (by decide) ⟨fun c3 => ?_, fun c3 => ?_⟩
    · have w := w.1 c3
      refine X_iconst (v := 0) (show decode cX4_hasPoint 16 = .ok (.iconst 0, 1) by decide +kernel) (by decide) ?_
      exact X_iret ⟨(show decode cX4_hasPoint 17 = .ok (.ireturn, 1) by decide +kernel), .boolean, rfl, (by decide)⟩ ⟨_, rfl, w⟩
    · have w := w.2 c3
      refine X_iconst (v := 1) (show decode cX4_hasPoint 12 = .ok (.iconst 1, 1) by decide +kernel) (by decide) ?_
      refine X_goto (tgt := 17) (show decode cX4_hasPoint 13 = .ok (.goto 4, 3) by decide +kernel) (by decide) ?_
      exact X_iret ⟨(show decode cX4_hasPoint 17 = .ok (.ireturn, 1) by decide +kernel), .boolean, rfl, (by decide)⟩ ⟨_, rfl, w⟩
set_option maxRecDepth 100000 in
set_option maxHeartbeats 4000000 in
theorem kX4_hasExit {a0 : Nat} {a1 : Int32} {h : AH} {K : Int32 → AH → Prop} (w : wX4_hasExit a0 a1 h K) : Cn mX4_hasExit (cwd mX4_hasExit) 2 0 0 [.ref a0, .int a1] h (KI K) T0 := by
  refine Cn_of (by decide +kernel) rfl (Nat.le_of_ble_eq_true rfl) ?_
  show X mX4_hasExit 2 (KI K) T0 0 0 0 [(0, .ref a0), (1, .int a1)] [] h
  unfold wX4_hasExit at w
  refine X_aload_n (j := 0) (show decode cX4_hasExit 0 = .ok (.aload_n 0, 1) by decide +kernel) rfl rfl ?_
  refine X_iload_n (j := 1) (show decode cX4_hasExit 1 = .ok (.iload_n 1, 1) by decide +kernel) rfl rfl ?_
  obtain ⟨s8, w⟩ := w
  refine X_vI (rc' := 0) (rs' := 0) (as := [.int _]) mv_X4_57 (show decode cX4_hasExit 2 = .ok (.invokevirtual 57, 3) by decide +kernel) (by decide) (Nat.le_of_ble_eq_true rfl) (Nat.le_of_ble_eq_true rfl) rfl rfl (Nat.le_of_ble_eq_true rfl) (rcvD s8 (by decide) rfl) (kX4_has w) (fun E h hk => hk.elim) (fun r2 h1 w => ?_)
  refine X_if_eq (tgt := 22) (show decode cX4_hasExit 5 = .ok (.ifCond .eq 17, 3) by decide +kernel) (by decide) ⟨fun c3 => ?_, fun c3 => ?_⟩
  · have w := w.1 c3
    refine X_iconst (v := 0) (show decode cX4_hasExit 22 = .ok (.iconst 0, 1) by decide +kernel) (by decide) ?_
    exact X_iret ⟨(show decode cX4_hasExit 23 = .ok (.ireturn, 1) by decide +kernel), .boolean, rfl, (by decide)⟩ ⟨_, rfl, w⟩
  · have w := w.2 c3
    refine X_aload_n (j := 0) (show decode cX4_hasExit 8 = .ok (.aload_n 0, 1) by decide +kernel) rfl rfl ?_
    obtain ⟨s4, w⟩ := w
    refine X_getR fl_X4_31 (show decode cX4_hasExit 9 = .ok (.getfield 31, 3) by decide +kernel) s4 ?_
    refine X_iload_n (j := 1) (show decode cX4_hasExit 12 = .ok (.iload_n 1, 1) by decide +kernel) rfl rfl ?_
    obtain ⟨s5, w⟩ := w
    obtain ⟨s6, w⟩ := w
    refine X_iald (show decode cX4_hasExit 13 = .ok (.iaload, 1) by decide +kernel) (isA_eq s5) s6 ?_
    refine X_iconst (v := (-1)) (show decode cX4_hasExit 14 = .ok (.iconst (-1), 1) by decide +kernel) (by decide) ?_
    refine X_icmp_eq (tgt := 22) (show decode cX4_hasExit 15 = .ok (.if_icmp .eq 7, 3) by decide +kernel) (by decide) ⟨fun c7 => ?_, fun c7 => ?_⟩
    · have w := w.1 c7
      refine X_iconst (v := 0) (show decode cX4_hasExit 22 = .ok (.iconst 0, 1) by decide +kernel) (by decide) ?_
      exact X_iret ⟨(show decode cX4_hasExit 23 = .ok (.ireturn, 1) by decide +kernel), .boolean, rfl, (by decide)⟩ ⟨_, rfl, w⟩
    · have w := w.2 c7
      refine X_iconst (v := 1) (show decode cX4_hasExit 18 = .ok (.iconst 1, 1) by decide +kernel) (by decide) ?_
      refine X_goto (tgt := 23) (show decode cX4_hasExit 19 = .ok (.goto 4, 3) by decide +kernel) (by decide) ?_
      exact X_iret ⟨(show decode cX4_hasExit 23 = .ok (.ireturn, 1) by decide +kernel), .boolean, rfl, (by decide)⟩ ⟨_, rfl, w⟩
set_option maxRecDepth 100000 in
set_option maxHeartbeats 4000000 in
theorem kX4_isStem {a0 : Nat} {a1 : Int32} {h : AH} {K : Int32 → AH → Prop} (w : wX4_isStem a0 a1 h K) : Cn mX4_isStem (cwd mX4_isStem) 2 0 0 [.ref a0, .int a1] h (KI K) T0 := by
  refine Cn_of (by decide +kernel) rfl (Nat.le_of_ble_eq_true rfl) ?_
  show X mX4_isStem 2 (KI K) T0 0 0 0 [(0, .ref a0), (1, .int a1)] [] h
  unfold wX4_isStem at w
  refine X_aload_n (j := 0) (show decode cX4_isStem 0 = .ok (.aload_n 0, 1) by decide +kernel) rfl rfl ?_
  refine X_iload_n (j := 1) (show decode cX4_isStem 1 = .ok (.iload_n 1, 1) by decide +kernel) rfl rfl ?_
  obtain ⟨s10, w⟩ := w
  refine X_vI (rc' := 0) (rs' := 0) (as := [.int _]) mv_X4_57 (show decode cX4_isStem 2 = .ok (.invokevirtual 57, 3) by decide +kernel) (by decide) (Nat.le_of_ble_eq_true rfl) (Nat.le_of_ble_eq_true rfl) rfl rfl (Nat.le_of_ble_eq_true rfl) (rcvD s10 (by decide) rfl) (kX4_has w) (fun E h hk => hk.elim) (fun r2 h1 w => ?_)
  refine X_if_eq (tgt := 27) (show decode cX4_isStem 5 = .ok (.ifCond .eq 22, 3) by decide +kernel) (by decide) ⟨fun c3 => ?_, fun c3 => ?_⟩
  · have w := w.1 c3
    refine X_iconst (v := 0) (show decode cX4_isStem 27 = .ok (.iconst 0, 1) by decide +kernel) (by decide) ?_
    exact X_iret ⟨(show decode cX4_isStem 28 = .ok (.ireturn, 1) by decide +kernel), .boolean, rfl, (by decide)⟩ ⟨_, rfl, w⟩
  · have w := w.2 c3
    refine X_aload_n (j := 0) (show decode cX4_isStem 8 = .ok (.aload_n 0, 1) by decide +kernel) rfl rfl ?_
    obtain ⟨s4, w⟩ := w
    refine X_getR fl_X4_31 (show decode cX4_isStem 9 = .ok (.getfield 31, 3) by decide +kernel) s4 ?_
    refine X_iload_n (j := 1) (show decode cX4_isStem 12 = .ok (.iload_n 1, 1) by decide +kernel) rfl rfl ?_
    obtain ⟨s5, w⟩ := w
    obtain ⟨s6, w⟩ := w
    refine X_iald (show decode cX4_isStem 13 = .ok (.iaload, 1) by decide +kernel) (isA_eq s5) s6 ?_
    refine X_aload_n (j := 0) (show decode cX4_isStem 14 = .ok (.aload_n 0, 1) by decide +kernel) rfl rfl ?_
    refine X_getR fl_X4_34 (show decode cX4_isStem 15 = .ok (.getfield 34, 3) by decide +kernel) s4 ?_
    refine X_iload_n (j := 1) (show decode cX4_isStem 18 = .ok (.iload_n 1, 1) by decide +kernel) rfl rfl ?_
    obtain ⟨s7, w⟩ := w
    obtain ⟨s8, w⟩ := w
    refine X_iald (show decode cX4_isStem 19 = .ok (.iaload, 1) by decide +kernel) (isA_eq s7) s8 ?_
    refine X_icmp_eq (tgt := 27) (show decode cX4_isStem 20 = .ok (.if_icmp .eq 7, 3) by decide +kernel) (by decide) ⟨fun c9 => ?_, fun c9 => ?_⟩
    · have w := w.1 c9
      refine X_iconst (v := 0) (show decode cX4_isStem 27 = .ok (.iconst 0, 1) by decide +kernel) (by decide) ?_
      exact X_iret ⟨(show decode cX4_isStem 28 = .ok (.ireturn, 1) by decide +kernel), .boolean, rfl, (by decide)⟩ ⟨_, rfl, w⟩
    · have w := w.2 c9
      refine X_iconst (v := 1) (show decode cX4_isStem 23 = .ok (.iconst 1, 1) by decide +kernel) (by decide) ?_
      refine X_goto (tgt := 28) (show decode cX4_isStem 24 = .ok (.goto 4, 3) by decide +kernel) (by decide) ?_
      exact X_iret ⟨(show decode cX4_isStem 28 = .ok (.ireturn, 1) by decide +kernel), .boolean, rfl, (by decide)⟩ ⟨_, rfl, w⟩
set_option maxRecDepth 100000 in
set_option maxHeartbeats 4000000 in
theorem kX4_leadsTo {a0 : Nat} {a1 : Int32} {a2 : Int32} {h : AH} {K : Int32 → AH → Prop} (w : wX4_leadsTo a0 a1 a2 h K) : Cn mX4_leadsTo (cwd mX4_leadsTo) 2 0 0 [.ref a0, .int a1, .int a2] h (KI K) T0 := by
  refine Cn_of (by decide +kernel) rfl (Nat.le_of_ble_eq_true rfl) ?_
  show X mX4_leadsTo 2 (KI K) T0 0 0 0 [(0, .ref a0), (1, .int a1), (2, .int a2)] [] h
  unfold wX4_leadsTo at w
  refine X_aload_n (j := 0) (show decode cX4_leadsTo 0 = .ok (.aload_n 0, 1) by decide +kernel) rfl rfl ?_
  refine X_iload_n (j := 1) (show decode cX4_leadsTo 1 = .ok (.iload_n 1, 1) by decide +kernel) rfl rfl ?_
  obtain ⟨s11, w⟩ := w
  refine X_vI (rc' := 0) (rs' := 0) (as := [.int _]) mv_X4_57 (show decode cX4_leadsTo 2 = .ok (.invokevirtual 57, 3) by decide +kernel) (by decide) (Nat.le_of_ble_eq_true rfl) (Nat.le_of_ble_eq_true rfl) rfl rfl (Nat.le_of_ble_eq_true rfl) (rcvD s11 (by decide) rfl) (kX4_has w) (fun E h hk => hk.elim) (fun r2 h1 w => ?_)
  refine X_if_eq (tgt := 32) (show decode cX4_leadsTo 5 = .ok (.ifCond .eq 27, 3) by decide +kernel) (by decide) ⟨fun c3 => ?_, fun c3 => ?_⟩
  · have w := w.1 c3
    refine X_iconst (v := 0) (show decode cX4_leadsTo 32 = .ok (.iconst 0, 1) by decide +kernel) (by decide) ?_
    exact X_iret ⟨(show decode cX4_leadsTo 33 = .ok (.ireturn, 1) by decide +kernel), .boolean, rfl, (by decide)⟩ ⟨_, rfl, w⟩
  · have w := w.2 c3
    refine X_aload_n (j := 0) (show decode cX4_leadsTo 8 = .ok (.aload_n 0, 1) by decide +kernel) rfl rfl ?_
    obtain ⟨s4, w⟩ := w
    refine X_getR fl_X4_31 (show decode cX4_leadsTo 9 = .ok (.getfield 31, 3) by decide +kernel) s4 ?_
    refine X_iload_n (j := 1) (show decode cX4_leadsTo 12 = .ok (.iload_n 1, 1) by decide +kernel) rfl rfl ?_
    obtain ⟨s5, w⟩ := w
    obtain ⟨s6, w⟩ := w
    refine X_iald (show decode cX4_leadsTo 13 = .ok (.iaload, 1) by decide +kernel) (isA_eq s5) s6 ?_
    refine X_iload_n (j := 2) (show decode cX4_leadsTo 14 = .ok (.iload_n 2, 1) by decide +kernel) rfl rfl ?_
    refine X_icmp_eq (tgt := 28) (show decode cX4_leadsTo 15 = .ok (.if_icmp .eq 13, 3) by decide +kernel) (by decide) ⟨fun c7 => ?_, fun c7 => ?_⟩
    · have w := w.1 c7
      refine X_iconst (v := 1) (show decode cX4_leadsTo 28 = .ok (.iconst 1, 1) by decide +kernel) (by decide) ?_
      refine X_goto (tgt := 33) (show decode cX4_leadsTo 29 = .ok (.goto 4, 3) by decide +kernel) (by decide) ?_
      exact X_iret ⟨(show decode cX4_leadsTo 33 = .ok (.ireturn, 1) by decide +kernel), .boolean, rfl, (by decide)⟩ ⟨_, rfl, w⟩
    · have w := w.2 c7
      refine X_aload_n (j := 0) (show decode cX4_leadsTo 18 = .ok (.aload_n 0, 1) by decide +kernel) rfl rfl ?_
      refine X_getR fl_X4_34 (show decode cX4_leadsTo 19 = .ok (.getfield 34, 3) by decide +kernel) s4 ?_
      refine X_iload_n (j := 1) (show decode cX4_leadsTo 22 = .ok (.iload_n 1, 1) by decide +kernel) rfl rfl ?_
      obtain ⟨s8, w⟩ := w
      obtain ⟨s9, w⟩ := w
      refine X_iald (show decode cX4_leadsTo 23 = .ok (.iaload, 1) by decide +kernel) (isA_eq s8) s9 ?_
      refine X_iload_n (j := 2) (show decode cX4_leadsTo 24 = .ok (.iload_n 2, 1) by decide +kernel) rfl rfl ?_
      refine X_icmp_ne (tgt := 32) (show decode cX4_leadsTo 25 = .ok (.if_icmp .ne 7, 3) by decide +kernel) (by decide) ⟨fun c10 => ?_, fun c10 => ?_⟩
      · have w := w.1 c10
        refine X_iconst (v := 0) (show decode cX4_leadsTo 32 = .ok (.iconst 0, 1) by decide +kernel) (by decide) ?_
        exact X_iret ⟨(show decode cX4_leadsTo 33 = .ok (.ireturn, 1) by decide +kernel), .boolean, rfl, (by decide)⟩ ⟨_, rfl, w⟩
      · have w := w.2 c10
        refine X_iconst (v := 1) (show decode cX4_leadsTo 28 = .ok (.iconst 1, 1) by decide +kernel) (by decide) ?_
        refine X_goto (tgt := 33) (show decode cX4_leadsTo 29 = .ok (.goto 4, 3) by decide +kernel) (by decide) ?_
        exact X_iret ⟨(show decode cX4_leadsTo 33 = .ok (.ireturn, 1) by decide +kernel), .boolean, rfl, (by decide)⟩ ⟨_, rfl, w⟩
set_option maxRecDepth 100000 in
set_option maxHeartbeats 4000000 in
theorem kX4_lengthOf {a0 : Nat} {a1 : Int32} {h : AH} {K : Int32 → AH → Prop} (w : wX4_lengthOf a0 a1 h K) : Cn mX4_lengthOf (cwd mX4_lengthOf) 2 0 0 [.ref a0, .int a1] h (KI K) T0 := by
  refine Cn_of (by decide +kernel) rfl (Nat.le_of_ble_eq_true rfl) ?_
  show X mX4_lengthOf 2 (KI K) T0 0 0 0 [(0, .ref a0), (1, .int a1)] [] h
  unfold wX4_lengthOf at w
  refine X_aload_n (j := 0) (show decode cX4_lengthOf 0 = .ok (.aload_n 0, 1) by decide +kernel) rfl rfl ?_
  refine X_iload_n (j := 1) (show decode cX4_lengthOf 1 = .ok (.iload_n 1, 1) by decide +kernel) rfl rfl ?_
  obtain ⟨s7, w⟩ := w
  refine X_vI (rc' := 0) (rs' := 0) (as := [.int _]) mv_X4_57 (show decode cX4_lengthOf 2 = .ok (.invokevirtual 57, 3) by decide +kernel) (by decide) (Nat.le_of_ble_eq_true rfl) (Nat.le_of_ble_eq_true rfl) rfl rfl (Nat.le_of_ble_eq_true rfl) (rcvD s7 (by decide) rfl) (kX4_has w) (fun E h hk => hk.elim) (fun r2 h1 w => ?_)
  refine X_if_eq (tgt := 17) (show decode cX4_lengthOf 5 = .ok (.ifCond .eq 12, 3) by decide +kernel) (by decide) ⟨fun c3 => ?_, fun c3 => ?_⟩
  · have w := w.1 c3
    refine X_iconst (v := 0) (show decode cX4_lengthOf 17 = .ok (.iconst 0, 1) by decide +kernel) (by decide) ?_
    exact X_iret ⟨(show decode cX4_lengthOf 18 = .ok (.ireturn, 1) by decide +kernel), .int, rfl, rfl⟩ ⟨_, rfl, w⟩
  · have w := w.2 c3
    refine X_aload_n (j := 0) (show decode cX4_lengthOf 8 = .ok (.aload_n 0, 1) by decide +kernel) rfl rfl ?_
    obtain ⟨s4, w⟩ := w
    refine X_getR fl_X4_27 (show decode cX4_lengthOf 9 = .ok (.getfield 27, 3) by decide +kernel) s4 ?_
    refine X_iload_n (j := 1) (show decode cX4_lengthOf 12 = .ok (.iload_n 1, 1) by decide +kernel) rfl rfl ?_
    obtain ⟨s5, w⟩ := w
    obtain ⟨s6, w⟩ := w
    refine X_iald (show decode cX4_lengthOf 13 = .ok (.iaload, 1) by decide +kernel) (isA_eq s5) s6 ?_
    refine X_goto (tgt := 18) (show decode cX4_lengthOf 14 = .ok (.goto 4, 3) by decide +kernel) (by decide) ?_
    exact X_iret ⟨(show decode cX4_lengthOf 18 = .ok (.ireturn, 1) by decide +kernel), .int, rfl, rfl⟩ ⟨_, rfl, w⟩
set_option maxRecDepth 100000 in
set_option maxHeartbeats 4000000 in
theorem kX4_stemOf {a0 : Nat} {a1 : Int32} {h : AH} {K : Int32 → AH → Prop} (w : wX4_stemOf a0 a1 h K) : Cn mX4_stemOf (cwd mX4_stemOf) 2 0 0 [.ref a0, .int a1] h (KI K) T0 := by
  refine Cn_of (by decide +kernel) rfl (Nat.le_of_ble_eq_true rfl) ?_
  show X mX4_stemOf 2 (KI K) T0 0 0 0 [(0, .ref a0), (1, .int a1)] [] h
  unfold wX4_stemOf at w
  refine X_aload_n (j := 0) (show decode cX4_stemOf 0 = .ok (.aload_n 0, 1) by decide +kernel) rfl rfl ?_
  refine X_iload_n (j := 1) (show decode cX4_stemOf 1 = .ok (.iload_n 1, 1) by decide +kernel) rfl rfl ?_
  obtain ⟨s7, w⟩ := w
  refine X_vI (rc' := 0) (rs' := 0) (as := [.int _]) mv_X4_61 (show decode cX4_stemOf 2 = .ok (.invokevirtual 61, 3) by decide +kernel) (by decide) (Nat.le_of_ble_eq_true rfl) (Nat.le_of_ble_eq_true rfl) rfl rfl (Nat.le_of_ble_eq_true rfl) (rcvD s7 (by decide) rfl) (kX4_hasPoint w) (fun E h hk => hk.elim) (fun r2 h1 w => ?_)
  refine X_if_eq (tgt := 17) (show decode cX4_stemOf 5 = .ok (.ifCond .eq 12, 3) by decide +kernel) (by decide) ⟨fun c3 => ?_, fun c3 => ?_⟩
  · have w := w.1 c3
    refine X_iconst (v := (-1)) (show decode cX4_stemOf 17 = .ok (.iconst (-1), 1) by decide +kernel) (by decide) ?_
    exact X_iret ⟨(show decode cX4_stemOf 18 = .ok (.ireturn, 1) by decide +kernel), .int, rfl, rfl⟩ ⟨_, rfl, w⟩
  · have w := w.2 c3
    refine X_aload_n (j := 0) (show decode cX4_stemOf 8 = .ok (.aload_n 0, 1) by decide +kernel) rfl rfl ?_
    obtain ⟨s4, w⟩ := w
    refine X_getR fl_X4_37 (show decode cX4_stemOf 9 = .ok (.getfield 37, 3) by decide +kernel) s4 ?_
    refine X_iload_n (j := 1) (show decode cX4_stemOf 12 = .ok (.iload_n 1, 1) by decide +kernel) rfl rfl ?_
    obtain ⟨s5, w⟩ := w
    obtain ⟨s6, w⟩ := w
    refine X_iald (show decode cX4_stemOf 13 = .ok (.iaload, 1) by decide +kernel) (isA_eq s5) s6 ?_
    refine X_goto (tgt := 18) (show decode cX4_stemOf 14 = .ok (.goto 4, 3) by decide +kernel) (by decide) ?_
    exact X_iret ⟨(show decode cX4_stemOf 18 = .ok (.ireturn, 1) by decide +kernel), .int, rfl, rfl⟩ ⟨_, rfl, w⟩
