set_option maxRecDepth 100000 in
set_option maxHeartbeats 4000000 in
theorem kL_restore {a0 : Nat} {a1 : Nat} {h : AH} {K : Int32 → AH → Prop} (w : wL_restore a0 a1 h K) : Cn mL_restore (cwh mL_restore) 9 1 6 [.ref a0, .ref a1] h (KI K) T0 := by
  refine CnH_of (by decide +kernel) (Nat.le_of_ble_eq_true rfl) ?_
  show X mL_restore 9 (KI K) T0 1 6 0 [(0, .ref a0), (1, .ref a1)] [] h
  unfold wL_restore at w
  refine X_aload_n (j := 1) (show decode cL_restore 0 = .ok (.aload_n 1, 1) by decide +kernel) rfl rfl ?_
  refine X_iconst (v := 0) (show decode cL_restore 1 = .ok (.iconst 0, 1) by decide +kernel) (by decide) ?_
  refine X_aload_n (j := 0) (show decode cL_restore 2 = .ok (.aload_n 0, 1) by decide +kernel) rfl rfl ?_
  obtain ⟨s7, w⟩ := w
  refine X_vI (rc' := 0) (rs' := 0) (as := []) mv_L_155 (show decode cL_restore 3 = .ok (.invokevirtual 155, 3) by decide +kernel) (by decide) (Nat.le_of_ble_eq_true rfl) (Nat.le_of_ble_eq_true rfl) rfl rfl (Nat.le_of_ble_eq_true rfl) (rcvD s7 (by decide) rfl) (kX9_restore w) (fun E h hk => XT_out hk (fun x hx => absurd hx List.not_mem_nil)) (fun r2 h1 w => ?_)
  refine X_i2l (show decode cL_restore 6 = .ok (.i2l, 1) by decide +kernel) ?_
  obtain ⟨s3, w⟩ := w
  obtain ⟨s4, w⟩ := w
  obtain ⟨s5, w⟩ := w
  refine X_last (show decode cL_restore 7 = .ok (.lastore, 1) by decide +kernel) (isA_eq s3) s4 s5 ?_
  have w := w _ rfl
  refine X_goto (tgt := 14) (show decode cL_restore 8 = .ok (.goto 6, 3) by decide +kernel) (by decide) ?_
  refine X_iconst (v := 0) (show decode cL_restore 14 = .ok (.iconst 0, 1) by decide +kernel) (by decide) ?_
  exact X_iret ⟨(show decode cL_restore 15 = .ok (.ireturn, 1) by decide +kernel), .int, rfl, rfl⟩ ⟨_, rfl, w⟩
set_option maxRecDepth 100000 in
set_option maxHeartbeats 4000000 in
theorem kL_law_J650 {K : Int32 → AH → Prop} {T : String → AH → Prop} {c28 : Nat → Nat → Nat → Nat → Nat → Int32 → AH → Prop} (hc28 : ∀ x0 x1 x2 x3 x4 x5 h, c28 x0 x1 x2 x3 x4 x5 h → X mL_law 12 (KI K) T 16962 4213772 28 [(0, .ref x0), (1, .ref x1), (2, .ref x2), (3, .ref x3), (4, .ref x4), (5, .int x5)] [] h) (x0 : Nat) (x1 : Nat) (x2 : Nat) (x3 : Nat) (x4 : Nat) (x5 : Int32) (y0 : Int64) (y1 : Int64) (h : AH) (w : wL_law_J650 K T c28 x0 x1 x2 x3 x4 x5 y0 y1 h) : X mL_law 12 (KI K) T 0 0 650 [(0, .ref x0), (1, .ref x1), (2, .ref x2), (3, .ref x3), (4, .ref x4), (5, .int x5)] [.long y0, .long y1] h := by
  unfold wL_law_J650 at w
  refine X_lcmp (show decode cL_law 650 = .ok (.lcmp, 1) by decide +kernel) ?_
  refine X_if_eq (tgt := 656) (show decode cL_law 651 = .ok (.ifCond .eq 5, 3) by decide +kernel) (by decide) ⟨fun c112 => ?_, fun c112 => ?_⟩
  · have w := w.1 c112
    refine X_goto (tgt := 2925) (show decode cL_law 656 = .ok (.goto 2269, 3) by decide +kernel) (by decide) ?_
    refine X_iinc (j := 5) (v := _ + 4) (ls' := [(0, .ref _), (1, .ref _), (2, .ref _), (3, .ref _), (4, .ref _), (5, .int _)]) (show decode cL_law 2925 = .ok (.iinc 5 4, 3) by decide +kernel) rfl rfl (Nat.le_of_ble_eq_true rfl) rfl ?_
    refine X_goto (tgt := 28) (show decode cL_law 2928 = .ok (.goto (-2900), 3) by decide +kernel) (by decide) ?_
    exact hc28 _ _ _ _ _ _ _ w
  · have w := w.2 c112
    refine X_iconst (v := 0) (show decode cL_law 654 = .ok (.iconst 0, 1) by decide +kernel) (by decide) ?_
    exact X_iret ⟨(show decode cL_law 655 = .ok (.ireturn, 1) by decide +kernel), .boolean, rfl, (by decide)⟩ ⟨_, rfl, w⟩
set_option maxRecDepth 100000 in
set_option maxHeartbeats 4000000 in
theorem kL_law_J1130 {K : Int32 → AH → Prop} {T : String → AH → Prop} {c28 : Nat → Nat → Nat → Nat → Nat → Int32 → AH → Prop} (hc28 : ∀ x0 x1 x2 x3 x4 x5 h, c28 x0 x1 x2 x3 x4 x5 h → X mL_law 12 (KI K) T 16962 4213772 28 [(0, .ref x0), (1, .ref x1), (2, .ref x2), (3, .ref x3), (4, .ref x4), (5, .int x5)] [] h) (x0 : Nat) (x1 : Nat) (x2 : Nat) (x3 : Nat) (x4 : Nat) (x5 : Int32) (y0 : Int64) (y1 : Int64) (h : AH) (w : wL_law_J1130 K T c28 x0 x1 x2 x3 x4 x5 y0 y1 h) : X mL_law 12 (KI K) T 0 0 1130 [(0, .ref x0), (1, .ref x1), (2, .ref x2), (3, .ref x3), (4, .ref x4), (5, .int x5)] [.long y0, .long y1] h := by
  unfold wL_law_J1130 at w
  refine X_lcmp (show decode cL_law 1130 = .ok (.lcmp, 1) by decide +kernel) ?_
  refine X_if_eq (tgt := 1136) (show decode cL_law 1131 = .ok (.ifCond .eq 5, 3) by decide +kernel) (by decide) ⟨fun c250 => ?_, fun c250 => ?_⟩
  · have w := w.1 c250
    refine X_goto (tgt := 2925) (show decode cL_law 1136 = .ok (.goto 1789, 3) by decide +kernel) (by decide) ?_
    refine X_iinc (j := 5) (v := _ + 4) (ls' := [(0, .ref _), (1, .ref _), (2, .ref _), (3, .ref _), (4, .ref _), (5, .int _)]) (show decode cL_law 2925 = .ok (.iinc 5 4, 3) by decide +kernel) rfl rfl (Nat.le_of_ble_eq_true rfl) rfl ?_
    refine X_goto (tgt := 28) (show decode cL_law 2928 = .ok (.goto (-2900), 3) by decide +kernel) (by decide) ?_
    exact hc28 _ _ _ _ _ _ _ w
  · have w := w.2 c250
    refine X_iconst (v := 0) (show decode cL_law 1134 = .ok (.iconst 0, 1) by decide +kernel) (by decide) ?_
    exact X_iret ⟨(show decode cL_law 1135 = .ok (.ireturn, 1) by decide +kernel), .boolean, rfl, (by decide)⟩ ⟨_, rfl, w⟩
set_option maxRecDepth 100000 in
set_option maxHeartbeats 4000000 in
theorem kL_law_J1683 {K : Int32 → AH → Prop} {T : String → AH → Prop} {c28 : Nat → Nat → Nat → Nat → Nat → Int32 → AH → Prop} (hc28 : ∀ x0 x1 x2 x3 x4 x5 h, c28 x0 x1 x2 x3 x4 x5 h → X mL_law 12 (KI K) T 16962 4213772 28 [(0, .ref x0), (1, .ref x1), (2, .ref x2), (3, .ref x3), (4, .ref x4), (5, .int x5)] [] h) (x0 : Nat) (x1 : Nat) (x2 : Nat) (x3 : Nat) (x4 : Nat) (x5 : Int32) (y0 : Int64) (y1 : Int64) (h : AH) (w : wL_law_J1683 K T c28 x0 x1 x2 x3 x4 x5 y0 y1 h) : X mL_law 12 (KI K) T 0 0 1683 [(0, .ref x0), (1, .ref x1), (2, .ref x2), (3, .ref x3), (4, .ref x4), (5, .int x5)] [.long y0, .long y1] h := by
  unfold wL_law_J1683 at w
  refine X_lcmp (show decode cL_law 1683 = .ok (.lcmp, 1) by decide +kernel) ?_
  refine X_if_eq (tgt := 1689) (show decode cL_law 1684 = .ok (.ifCond .eq 5, 3) by decide +kernel) (by decide) ⟨fun c406 => ?_, fun c406 => ?_⟩
  · have w := w.1 c406
    refine X_goto (tgt := 2925) (show decode cL_law 1689 = .ok (.goto 1236, 3) by decide +kernel) (by decide) ?_
    refine X_iinc (j := 5) (v := _ + 4) (ls' := [(0, .ref _), (1, .ref _), (2, .ref _), (3, .ref _), (4, .ref _), (5, .int _)]) (show decode cL_law 2925 = .ok (.iinc 5 4, 3) by decide +kernel) rfl rfl (Nat.le_of_ble_eq_true rfl) rfl ?_
    refine X_goto (tgt := 28) (show decode cL_law 2928 = .ok (.goto (-2900), 3) by decide +kernel) (by decide) ?_
    exact hc28 _ _ _ _ _ _ _ w
  · have w := w.2 c406
    refine X_iconst (v := 0) (show decode cL_law 1687 = .ok (.iconst 0, 1) by decide +kernel) (by decide) ?_
    exact X_iret ⟨(show decode cL_law 1688 = .ok (.ireturn, 1) by decide +kernel), .boolean, rfl, (by decide)⟩ ⟨_, rfl, w⟩
set_option maxRecDepth 100000 in
set_option maxHeartbeats 4000000 in
theorem kL_law_J1746 {K : Int32 → AH → Prop} {T : String → AH → Prop} {c28 : Nat → Nat → Nat → Nat → Nat → Int32 → AH → Prop} (hc28 : ∀ x0 x1 x2 x3 x4 x5 h, c28 x0 x1 x2 x3 x4 x5 h → X mL_law 12 (KI K) T 16962 4213772 28 [(0, .ref x0), (1, .ref x1), (2, .ref x2), (3, .ref x3), (4, .ref x4), (5, .int x5)] [] h) (x0 : Nat) (x1 : Nat) (x2 : Nat) (x3 : Nat) (x4 : Nat) (x5 : Int32) (y0 : Int64) (y1 : Int64) (h : AH) (w : wL_law_J1746 K T c28 x0 x1 x2 x3 x4 x5 y0 y1 h) : X mL_law 12 (KI K) T 0 0 1746 [(0, .ref x0), (1, .ref x1), (2, .ref x2), (3, .ref x3), (4, .ref x4), (5, .int x5)] [.long y0, .long y1] h := by
  unfold wL_law_J1746 at w
  refine X_lcmp (show decode cL_law 1746 = .ok (.lcmp, 1) by decide +kernel) ?_
  refine X_if_eq (tgt := 1752) (show decode cL_law 1747 = .ok (.ifCond .eq 5, 3) by decide +kernel) (by decide) ⟨fun c423 => ?_, fun c423 => ?_⟩
  · have w := w.1 c423
    refine X_goto (tgt := 2925) (show decode cL_law 1752 = .ok (.goto 1173, 3) by decide +kernel) (by decide) ?_
    refine X_iinc (j := 5) (v := _ + 4) (ls' := [(0, .ref _), (1, .ref _), (2, .ref _), (3, .ref _), (4, .ref _), (5, .int _)]) (show decode cL_law 2925 = .ok (.iinc 5 4, 3) by decide +kernel) rfl rfl (Nat.le_of_ble_eq_true rfl) rfl ?_
    refine X_goto (tgt := 28) (show decode cL_law 2928 = .ok (.goto (-2900), 3) by decide +kernel) (by decide) ?_
    exact hc28 _ _ _ _ _ _ _ w
  · have w := w.2 c423
    refine X_iconst (v := 0) (show decode cL_law 1750 = .ok (.iconst 0, 1) by decide +kernel) (by decide) ?_
    exact X_iret ⟨(show decode cL_law 1751 = .ok (.ireturn, 1) by decide +kernel), .boolean, rfl, (by decide)⟩ ⟨_, rfl, w⟩
set_option maxRecDepth 100000 in
set_option maxHeartbeats 4000000 in
theorem kL_law_J2101 {K : Int32 → AH → Prop} {T : String → AH → Prop} {c28 : Nat → Nat → Nat → Nat → Nat → Int32 → AH → Prop} (hc28 : ∀ x0 x1 x2 x3 x4 x5 h, c28 x0 x1 x2 x3 x4 x5 h → X mL_law 12 (KI K) T 16962 4213772 28 [(0, .ref x0), (1, .ref x1), (2, .ref x2), (3, .ref x3), (4, .ref x4), (5, .int x5)] [] h) (x0 : Nat) (x1 : Nat) (x2 : Nat) (x3 : Nat) (x4 : Nat) (x5 : Int32) (y0 : Int64) (y1 : Int64) (h : AH) (w : wL_law_J2101 K T c28 x0 x1 x2 x3 x4 x5 y0 y1 h) : X mL_law 12 (KI K) T 0 0 2101 [(0, .ref x0), (1, .ref x1), (2, .ref x2), (3, .ref x3), (4, .ref x4), (5, .int x5)] [.long y0, .long y1] h := by
  unfold wL_law_J2101 at w
  refine X_lcmp (show decode cL_law 2101 = .ok (.lcmp, 1) by decide +kernel) ?_
  refine X_if_eq (tgt := 2107) (show decode cL_law 2102 = .ok (.ifCond .eq 5, 3) by decide +kernel) (by decide) ⟨fun c522 => ?_, fun c522 => ?_⟩
  · have w := w.1 c522
    refine X_goto (tgt := 2925) (show decode cL_law 2107 = .ok (.goto 818, 3) by decide +kernel) (by decide) ?_
    refine X_iinc (j := 5) (v := _ + 4) (ls' := [(0, .ref _), (1, .ref _), (2, .ref _), (3, .ref _), (4, .ref _), (5, .int _)]) (show decode cL_law 2925 = .ok (.iinc 5 4, 3) by decide +kernel) rfl rfl (Nat.le_of_ble_eq_true rfl) rfl ?_
    refine X_goto (tgt := 28) (show decode cL_law 2928 = .ok (.goto (-2900), 3) by decide +kernel) (by decide) ?_
    exact hc28 _ _ _ _ _ _ _ w
  · have w := w.2 c522
    refine X_iconst (v := 0) (show decode cL_law 2105 = .ok (.iconst 0, 1) by decide +kernel) (by decide) ?_
    exact X_iret ⟨(show decode cL_law 2106 = .ok (.ireturn, 1) by decide +kernel), .boolean, rfl, (by decide)⟩ ⟨_, rfl, w⟩
set_option maxRecDepth 100000 in
set_option maxHeartbeats 4000000 in
theorem kL_law_J2202 {K : Int32 → AH → Prop} {T : String → AH → Prop} {c28 : Nat → Nat → Nat → Nat → Nat → Int32 → AH → Prop} (hc28 : ∀ x0 x1 x2 x3 x4 x5 h, c28 x0 x1 x2 x3 x4 x5 h → X mL_law 12 (KI K) T 16962 4213772 28 [(0, .ref x0), (1, .ref x1), (2, .ref x2), (3, .ref x3), (4, .ref x4), (5, .int x5)] [] h) (x0 : Nat) (x1 : Nat) (x2 : Nat) (x3 : Nat) (x4 : Nat) (x5 : Int32) (y0 : Int64) (y1 : Int64) (h : AH) (w : wL_law_J2202 K T c28 x0 x1 x2 x3 x4 x5 y0 y1 h) : X mL_law 12 (KI K) T 0 0 2202 [(0, .ref x0), (1, .ref x1), (2, .ref x2), (3, .ref x3), (4, .ref x4), (5, .int x5)] [.long y0, .long y1] h := by
  unfold wL_law_J2202 at w
  refine X_lcmp (show decode cL_law 2202 = .ok (.lcmp, 1) by decide +kernel) ?_
  refine X_if_eq (tgt := 2208) (show decode cL_law 2203 = .ok (.ifCond .eq 5, 3) by decide +kernel) (by decide) ⟨fun c555 => ?_, fun c555 => ?_⟩
  · have w := w.1 c555
    refine X_goto (tgt := 2925) (show decode cL_law 2208 = .ok (.goto 717, 3) by decide +kernel) (by decide) ?_
    refine X_iinc (j := 5) (v := _ + 4) (ls' := [(0, .ref _), (1, .ref _), (2, .ref _), (3, .ref _), (4, .ref _), (5, .int _)]) (show decode cL_law 2925 = .ok (.iinc 5 4, 3) by decide +kernel) rfl rfl (Nat.le_of_ble_eq_true rfl) rfl ?_
    refine X_goto (tgt := 28) (show decode cL_law 2928 = .ok (.goto (-2900), 3) by decide +kernel) (by decide) ?_
    exact hc28 _ _ _ _ _ _ _ w
  · have w := w.2 c555
    refine X_iconst (v := 0) (show decode cL_law 2206 = .ok (.iconst 0, 1) by decide +kernel) (by decide) ?_
    exact X_iret ⟨(show decode cL_law 2207 = .ok (.ireturn, 1) by decide +kernel), .boolean, rfl, (by decide)⟩ ⟨_, rfl, w⟩
set_option maxRecDepth 100000 in
set_option maxHeartbeats 4000000 in
theorem kL_law_L28 {K : Int32 → AH → Prop} {T : String → AH → Prop}    : ∀ (n : Nat) (x0 : Nat) (x1 : Nat) (x2 : Nat) (x3 : Nat) (x4 : Nat) (x5 : Int32) (h : AH), wL_law_L28 K T   n x0 x1 x2 x3 x4 x5 h → X mL_law 12 (KI K) T (n * 33 + 33) (n * 8198 + 8198) 28 [(0, .ref x0), (1, .ref x1), (2, .ref x2), (3, .ref x3), (4, .ref x4), (5, .int x5)] [] h := by
  intro n
  induction n with
  | zero => intro _ _ _ _ _ _ _ w; exact w.elim
  | succ n ih =>
    intro x0 x1 x2 x3 x4 x5 h w
    rw [wL_law_L28] at w
    refine X_room (rc' := (n * 33 + 66)) (rs' := (n * 8198 + 16396)) (by omega) (by omega) ?_
    refine X_iload (j := 5) (show decode cL_law 28 = .ok (.iload 5, 2) by decide +kernel) rfl ?_
    refine X_aload_n (j := 0) (show decode cL_law 30 = .ok (.aload_n 0, 1) by decide +kernel) rfl rfl ?_
    obtain ⟨s9, w⟩ := w
    refine X_alen (v := nI (ln _ _)) (show decode cL_law 31 = .ok (.arraylength, 1) by decide +kernel) (by decide) (isA_eq s9) rfl ?_
    refine X_iconst (v := 4) (show decode cL_law 32 = .ok (.iconst 4, 1) by decide +kernel) (by decide) ?_
    refine X_isub (show decode cL_law 33 = .ok (.isub, 1) by decide +kernel) ?_
    refine X_icmp_gt (tgt := 2931) (show decode cL_law 34 = .ok (.if_icmp .gt 2897, 3) by decide +kernel) (by decide) ⟨fun c10 => ?_, fun c10 => ?_⟩
    · have w := w.1 c10
      refine X_iconst (v := 1) (show decode cL_law 2931 = .ok (.iconst 1, 1) by decide +kernel) (by decide) ?_
      exact X_iret ⟨(show decode cL_law 2932 = .ok (.ireturn, 1) by decide +kernel), .boolean, rfl, (by decide)⟩ ⟨_, rfl, w⟩
    · have w := w.2 c10
      refine X_aload_n (j := 0) (show decode cL_law 37 = .ok (.aload_n 0, 1) by decide +kernel) rfl rfl ?_
      refine X_iload (j := 5) (show decode cL_law 38 = .ok (.iload 5, 2) by decide +kernel) rfl ?_
      obtain ⟨s11, w⟩ := w
      refine X_iald (show decode cL_law 40 = .ok (.iaload, 1) by decide +kernel) (isA_eq s9) s11 ?_
      refine X_bipush (v := 63) (show decode cL_law 41 = .ok (.bipush 63, 2) by decide +kernel) (by decide) ?_
      refine X_iand (show decode cL_law 43 = .ok (.iand, 1) by decide +kernel) ?_
      by_cases z0 : (mI h x0 x5.toNatClampNeg &&& 63) = 0
      · have w := w.1 z0
        refine X_tableIn (tgt := 280) (show decode cL_law 44 = .ok (.tableswitch 2881 0 54 #[236, 292, 372, 440, 496, 552, 615, 683, 739, 795, 851, 864, 920, 976, 1032, 1095, 1151, 1219, 1287, 1367, 1435, 1448, 1473, 1529, 1585, 1648, 1711, 1767, 1823, 1879, 1935, 1991, 2066, 2079, 2092, 2167, 2180, 2193, 2237, 2281, 2294, 2307, 2321, 2386, 2452, 2465, 2478, 2534, 2590, 2648, 2692, 2736, 2780, 2824, 2837], 236) by decide +kernel) (by rw [z0]; decide) (by rw [z0]; decide) (by rw [z0]; rfl) (by decide) ?_
        refine X_aload_n (j := 1) (show decode cL_law 280 = .ok (.aload_n 1, 1) by decide +kernel) rfl rfl ?_
        refine X_aload_n (j := 0) (show decode cL_law 281 = .ok (.aload_n 0, 1) by decide +kernel) rfl rfl ?_
        refine X_iload (j := 5) (show decode cL_law 282 = .ok (.iload 5, 2) by decide +kernel) rfl ?_
        refine X_iconst (v := 1) (show decode cL_law 284 = .ok (.iconst 1, 1) by decide +kernel) (by decide) ?_
        refine X_iadd (show decode cL_law 285 = .ok (.iadd, 1) by decide +kernel) ?_
        obtain ⟨s12, w⟩ := w
        refine X_iald (show decode cL_law 286 = .ok (.iaload, 1) by decide +kernel) (isA_eq s9) s12 ?_
        refine X_aload_n (j := 3) (show decode cL_law 287 = .ok (.aload_n 3, 1) by decide +kernel) rfl rfl ?_
        refine X_sI (rc' := (n * 33 + 65)) (rs' := (n * 8198 + 16390)) (as := [.ref _, .int _, .ref _]) ms_L_162 (show decode cL_law 288 = .ok (.invokestatic 162, 3) by decide +kernel) (by decide) (by omega) (by omega) rfl rfl (Nat.le_of_ble_eq_true rfl) (kL_addBlock w) (fun E h hk => hk.elim) (fun r14 h13 w => ?_)
        refine X_istore (ls' := [(0, .ref _), (1, .ref _), (2, .ref _), (3, .ref _), (4, .ref _), (5, .int _), (6, .int _)]) (show decode cL_law 291 = .ok (.istore 6, 2) by decide +kernel) (by decide) rfl ?_
        refine X_aload_n (j := 2) (show decode cL_law 293 = .ok (.aload_n 2, 1) by decide +kernel) rfl rfl ?_
        refine X_aload_n (j := 0) (show decode cL_law 294 = .ok (.aload_n 0, 1) by decide +kernel) rfl rfl ?_
        refine X_iload (j := 5) (show decode cL_law 295 = .ok (.iload 5, 2) by decide +kernel) rfl ?_
        refine X_iconst (v := 1) (show decode cL_law 297 = .ok (.iconst 1, 1) by decide +kernel) (by decide) ?_
        refine X_iadd (show decode cL_law 298 = .ok (.iadd, 1) by decide +kernel) ?_
        obtain ⟨s15, w⟩ := w
        obtain ⟨s16, w⟩ := w
        refine X_iald (show decode cL_law 299 = .ok (.iaload, 1) by decide +kernel) (isA_eq s15) s16 ?_
        obtain ⟨s27, w⟩ := w
        refine X_vI (rc' := (n * 33 + 65)) (rs' := (n * 8198 + 16390)) (as := [.int _]) mv_L_167 (show decode cL_law 300 = .ok (.invokevirtual 167, 3) by decide +kernel) (by decide) (by omega) (by omega) rfl rfl (Nat.le_of_ble_eq_true rfl) (rcvD s27 (by decide) rfl) (kX10_addBlock w) (fun E h hk => hk.elim) (fun r18 h17 w => ?_)
        refine X_istore (ls' := [(0, .ref _), (1, .ref _), (2, .ref _), (3, .ref _), (4, .ref _), (5, .int _), (6, .int _), (7, .int _)]) (show decode cL_law 303 = .ok (.istore 7, 2) by decide +kernel) (by decide) rfl ?_
        refine X_aload_n (j := 2) (show decode cL_law 305 = .ok (.aload_n 2, 1) by decide +kernel) rfl rfl ?_
        obtain ⟨s26, w⟩ := w
        refine X_vI (rc' := (n * 33 + 65)) (rs' := (n * 8198 + 16390)) (as := []) mv_L_168 (show decode cL_law 306 = .ok (.invokevirtual 168, 3) by decide +kernel) (by decide) (by omega) (by omega) rfl rfl (Nat.le_of_ble_eq_true rfl) (rcvD s26 (by decide) rfl) (kX10_thrown w) (fun E h hk => hk.elim) (fun r20 h19 w => ?_)
        refine X_iload (j := 6) (show decode cL_law 309 = .ok (.iload 6, 2) by decide +kernel) rfl ?_
        refine X_icmp_eq (tgt := 316) (show decode cL_law 311 = .ok (.if_icmp .eq 5, 3) by decide +kernel) (by decide) ⟨fun c21 => ?_, fun c21 => ?_⟩
        · have w := w.1 c21
          refine X_iload (j := 6) (show decode cL_law 316 = .ok (.iload 6, 2) by decide +kernel) rfl ?_
          refine X_if_ne (tgt := 333) (show decode cL_law 318 = .ok (.ifCond .ne 15, 3) by decide +kernel) (by decide) ⟨fun c22 => ?_, fun c22 => ?_⟩
          · have w := w.1 c22
            refine X_goto (tgt := 2925) (show decode cL_law 333 = .ok (.goto 2592, 3) by decide +kernel) (by decide) ?_
            refine X_iinc (j := 5) (v := _ + 4) (ls' := [(0, .ref _), (1, .ref _), (2, .ref _), (3, .ref _), (4, .ref _), (5, .int _), (6, .int _), (7, .int _)]) (show decode cL_law 2925 = .ok (.iinc 5 4, 3) by decide +kernel) rfl rfl (Nat.le_of_ble_eq_true rfl) rfl ?_
            refine X_goto (tgt := 28) (show decode cL_law 2928 = .ok (.goto (-2900), 3) by decide +kernel) (by decide) ?_
            refine X_room (rc' := (n * 33 + 33)) (rs' := (n * 8198 + 8198)) (by omega) (by omega) ?_
            refine X_pick (ls' := [(0, .ref _), (1, .ref _), (2, .ref _), (3, .ref _), (4, .ref _), (5, .int _)]) [0, 1, 2, 3, 4, 5] rfl ?_
            exact ih _ _ _ _ _ _ _ w
          · have w := w.2 c22
            refine X_aload_n (j := 3) (show decode cL_law 321 = .ok (.aload_n 3, 1) by decide +kernel) rfl rfl ?_
            refine X_iconst (v := 0) (show decode cL_law 322 = .ok (.iconst 0, 1) by decide +kernel) (by decide) ?_
            obtain ⟨s23, w⟩ := w
            obtain ⟨s24, w⟩ := w
            refine X_lald (show decode cL_law 323 = .ok (.laload, 1) by decide +kernel) (isA_eq s23) s24 ?_
            refine X_iload (j := 7) (show decode cL_law 324 = .ok (.iload 7, 2) by decide +kernel) rfl ?_
            refine X_i2l (show decode cL_law 326 = .ok (.i2l, 1) by decide +kernel) ?_
            refine X_lcmp (show decode cL_law 327 = .ok (.lcmp, 1) by decide +kernel) ?_
            refine X_if_eq (tgt := 333) (show decode cL_law 328 = .ok (.ifCond .eq 5, 3) by decide +kernel) (by decide) ⟨fun c25 => ?_, fun c25 => ?_⟩
            · have w := w.1 c25
              refine X_goto (tgt := 2925) (show decode cL_law 333 = .ok (.goto 2592, 3) by decide +kernel) (by decide) ?_
              refine X_iinc (j := 5) (v := _ + 4) (ls' := [(0, .ref _), (1, .ref _), (2, .ref _), (3, .ref _), (4, .ref _), (5, .int _), (6, .int _), (7, .int _)]) (show decode cL_law 2925 = .ok (.iinc 5 4, 3) by decide +kernel) rfl rfl (Nat.le_of_ble_eq_true rfl) rfl ?_
              refine X_goto (tgt := 28) (show decode cL_law 2928 = .ok (.goto (-2900), 3) by decide +kernel) (by decide) ?_
              refine X_room (rc' := (n * 33 + 33)) (rs' := (n * 8198 + 8198)) (by omega) (by omega) ?_
              refine X_pick (ls' := [(0, .ref _), (1, .ref _), (2, .ref _), (3, .ref _), (4, .ref _), (5, .int _)]) [0, 1, 2, 3, 4, 5] rfl ?_
              exact ih _ _ _ _ _ _ _ w
            · have w := w.2 c25
              refine X_iconst (v := 0) (show decode cL_law 331 = .ok (.iconst 0, 1) by decide +kernel) (by decide) ?_
              exact X_iret ⟨(show decode cL_law 332 = .ok (.ireturn, 1) by decide +kernel), .boolean, rfl, (by decide)⟩ ⟨_, rfl, w⟩
        · have w := w.2 c21
          refine X_iconst (v := 0) (show decode cL_law 314 = .ok (.iconst 0, 1) by decide +kernel) (by decide) ?_
          exact X_iret ⟨(show decode cL_law 315 = .ok (.ireturn, 1) by decide +kernel), .boolean, rfl, (by decide)⟩ ⟨_, rfl, w⟩
      by_cases z1 : (mI h x0 x5.toNatClampNeg &&& 63) = 1
      · have w := w.2.1 z1
        refine X_tableIn (tgt := 336) (show decode cL_law 44 = .ok (.tableswitch 2881 0 54 #[236, 292, 372, 440, 496, 552, 615, 683, 739, 795, 851, 864, 920, 976, 1032, 1095, 1151, 1219, 1287, 1367, 1435, 1448, 1473, 1529, 1585, 1648, 1711, 1767, 1823, 1879, 1935, 1991, 2066, 2079, 2092, 2167, 2180, 2193, 2237, 2281, 2294, 2307, 2321, 2386, 2452, 2465, 2478, 2534, 2590, 2648, 2692, 2736, 2780, 2824, 2837], 236) by decide +kernel) (by rw [z1]; decide) (by rw [z1]; decide) (by rw [z1]; rfl) (by decide) ?_
        refine X_aload_n (j := 1) (show decode cL_law 336 = .ok (.aload_n 1, 1) by decide +kernel) rfl rfl ?_
        refine X_aload_n (j := 0) (show decode cL_law 337 = .ok (.aload_n 0, 1) by decide +kernel) rfl rfl ?_
        refine X_iload (j := 5) (show decode cL_law 338 = .ok (.iload 5, 2) by decide +kernel) rfl ?_
        refine X_iconst (v := 1) (show decode cL_law 340 = .ok (.iconst 1, 1) by decide +kernel) (by decide) ?_
        refine X_iadd (show decode cL_law 341 = .ok (.iadd, 1) by decide +kernel) ?_
        obtain ⟨s28, w⟩ := w
        refine X_iald (show decode cL_law 342 = .ok (.iaload, 1) by decide +kernel) (isA_eq s9) s28 ?_
        refine X_aload_n (j := 0) (show decode cL_law 343 = .ok (.aload_n 0, 1) by decide +kernel) rfl rfl ?_
        refine X_iload (j := 5) (show decode cL_law 344 = .ok (.iload 5, 2) by decide +kernel) rfl ?_
        refine X_iconst (v := 2) (show decode cL_law 346 = .ok (.iconst 2, 1) by decide +kernel) (by decide) ?_
        refine X_iadd (show decode cL_law 347 = .ok (.iadd, 1) by decide +kernel) ?_
        obtain ⟨s29, w⟩ := w
        refine X_iald (show decode cL_law 348 = .ok (.iaload, 1) by decide +kernel) (isA_eq s9) s29 ?_
        refine X_aload_n (j := 0) (show decode cL_law 349 = .ok (.aload_n 0, 1) by decide +kernel) rfl rfl ?_
        refine X_iload (j := 5) (show decode cL_law 350 = .ok (.iload 5, 2) by decide +kernel) rfl ?_
        refine X_iconst (v := 3) (show decode cL_law 352 = .ok (.iconst 3, 1) by decide +kernel) (by decide) ?_
        refine X_iadd (show decode cL_law 353 = .ok (.iadd, 1) by decide +kernel) ?_
        obtain ⟨s30, w⟩ := w
        refine X_iald (show decode cL_law 354 = .ok (.iaload, 1) by decide +kernel) (isA_eq s9) s30 ?_
        refine X_aload_n (j := 3) (show decode cL_law 355 = .ok (.aload_n 3, 1) by decide +kernel) rfl rfl ?_
        refine X_sI (rc' := (n * 33 + 65)) (rs' := (n * 8198 + 16390)) (as := [.ref _, .int _, .int _, .int _, .ref _]) ms_L_171 (show decode cL_law 356 = .ok (.invokestatic 171, 3) by decide +kernel) (by decide) (by omega) (by omega) rfl rfl (Nat.le_of_ble_eq_true rfl) (kL_addPoint w) (fun E h hk => hk.elim) (fun r32 h31 w => ?_)
        refine X_istore (ls' := [(0, .ref _), (1, .ref _), (2, .ref _), (3, .ref _), (4, .ref _), (5, .int _), (6, .int _)]) (show decode cL_law 359 = .ok (.istore 6, 2) by decide +kernel) (by decide) rfl ?_
        refine X_aload_n (j := 2) (show decode cL_law 361 = .ok (.aload_n 2, 1) by decide +kernel) rfl rfl ?_
        refine X_aload_n (j := 0) (show decode cL_law 362 = .ok (.aload_n 0, 1) by decide +kernel) rfl rfl ?_
        refine X_iload (j := 5) (show decode cL_law 363 = .ok (.iload 5, 2) by decide +kernel) rfl ?_
        refine X_iconst (v := 1) (show decode cL_law 365 = .ok (.iconst 1, 1) by decide +kernel) (by decide) ?_
        refine X_iadd (show decode cL_law 366 = .ok (.iadd, 1) by decide +kernel) ?_
        obtain ⟨s33, w⟩ := w
        obtain ⟨s34, w⟩ := w
        refine X_iald (show decode cL_law 367 = .ok (.iaload, 1) by decide +kernel) (isA_eq s33) s34 ?_
        refine X_aload_n (j := 0) (show decode cL_law 368 = .ok (.aload_n 0, 1) by decide +kernel) rfl rfl ?_
        refine X_iload (j := 5) (show decode cL_law 369 = .ok (.iload 5, 2) by decide +kernel) rfl ?_
        refine X_iconst (v := 2) (show decode cL_law 371 = .ok (.iconst 2, 1) by decide +kernel) (by decide) ?_
        refine X_iadd (show decode cL_law 372 = .ok (.iadd, 1) by decide +kernel) ?_
        obtain ⟨s35, w⟩ := w
        refine X_iald (show decode cL_law 373 = .ok (.iaload, 1) by decide +kernel) (isA_eq s33) s35 ?_
        refine X_aload_n (j := 0) (show decode cL_law 374 = .ok (.aload_n 0, 1) by decide +kernel) rfl rfl ?_
        refine X_iload (j := 5) (show decode cL_law 375 = .ok (.iload 5, 2) by decide +kernel) rfl ?_
        refine X_iconst (v := 3) (show decode cL_law 377 = .ok (.iconst 3, 1) by decide +kernel) (by decide) ?_
        refine X_iadd (show decode cL_law 378 = .ok (.iadd, 1) by decide +kernel) ?_
        obtain ⟨s36, w⟩ := w
        refine X_iald (show decode cL_law 379 = .ok (.iaload, 1) by decide +kernel) (isA_eq s33) s36 ?_
        obtain ⟨s47, w⟩ := w
        refine X_vI (rc' := (n * 33 + 65)) (rs' := (n * 8198 + 16390)) (as := [.int _, .int _, .int _]) mv_L_174 (show decode cL_law 380 = .ok (.invokevirtual 174, 3) by decide +kernel) (by decide) (by omega) (by omega) rfl rfl (Nat.le_of_ble_eq_true rfl) (rcvD s47 (by decide) rfl) (kX10_addPoint w) (fun E h hk => hk.elim) (fun r38 h37 w => ?_)
        refine X_istore (ls' := [(0, .ref _), (1, .ref _), (2, .ref _), (3, .ref _), (4, .ref _), (5, .int _), (6, .int _), (7, .int _)]) (show decode cL_law 383 = .ok (.istore 7, 2) by decide +kernel) (by decide) rfl ?_
        refine X_aload_n (j := 2) (show decode cL_law 385 = .ok (.aload_n 2, 1) by decide +kernel) rfl rfl ?_
        obtain ⟨s46, w⟩ := w
        refine X_vI (rc' := (n * 33 + 65)) (rs' := (n * 8198 + 16390)) (as := []) mv_L_168 (show decode cL_law 386 = .ok (.invokevirtual 168, 3) by decide +kernel) (by decide) (by omega) (by omega) rfl rfl (Nat.le_of_ble_eq_true rfl) (rcvD s46 (by decide) rfl) (kX10_thrown w) (fun E h hk => hk.elim) (fun r40 h39 w => ?_)
        refine X_iload (j := 6) (show decode cL_law 389 = .ok (.iload 6, 2) by decide +kernel) rfl ?_
        refine X_icmp_eq (tgt := 396) (show decode cL_law 391 = .ok (.if_icmp .eq 5, 3) by decide +kernel) (by decide) ⟨fun c41 => ?_, fun c41 => ?_⟩
        · have w := w.1 c41
          refine X_iload (j := 6) (show decode cL_law 396 = .ok (.iload 6, 2) by decide +kernel) rfl ?_
          refine X_if_ne (tgt := 413) (show decode cL_law 398 = .ok (.ifCond .ne 15, 3) by decide +kernel) (by decide) ⟨fun c42 => ?_, fun c42 => ?_⟩
          · have w := w.1 c42
            refine X_goto (tgt := 2925) (show decode cL_law 413 = .ok (.goto 2512, 3) by decide +kernel) (by decide) ?_
            refine X_iinc (j := 5) (v := _ + 4) (ls' := [(0, .ref _), (1, .ref _), (2, .ref _), (3, .ref _), (4, .ref _), (5, .int _), (6, .int _), (7, .int _)]) (show decode cL_law 2925 = .ok (.iinc 5 4, 3) by decide +kernel) rfl rfl (Nat.le_of_ble_eq_true rfl) rfl ?_
            refine X_goto (tgt := 28) (show decode cL_law 2928 = .ok (.goto (-2900), 3) by decide +kernel) (by decide) ?_
            refine X_room (rc' := (n * 33 + 33)) (rs' := (n * 8198 + 8198)) (by omega) (by omega) ?_
            refine X_pick (ls' := [(0, .ref _), (1, .ref _), (2, .ref _), (3, .ref _), (4, .ref _), (5, .int _)]) [0, 1, 2, 3, 4, 5] rfl ?_
            exact ih _ _ _ _ _ _ _ w
          · have w := w.2 c42
            refine X_aload_n (j := 3) (show decode cL_law 401 = .ok (.aload_n 3, 1) by decide +kernel) rfl rfl ?_
            refine X_iconst (v := 0) (show decode cL_law 402 = .ok (.iconst 0, 1) by decide +kernel) (by decide) ?_
            obtain ⟨s43, w⟩ := w
            obtain ⟨s44, w⟩ := w
            refine X_lald (show decode cL_law 403 = .ok (.laload, 1) by decide +kernel) (isA_eq s43) s44 ?_
            refine X_iload (j := 7) (show decode cL_law 404 = .ok (.iload 7, 2) by decide +kernel) rfl ?_
            refine X_i2l (show decode cL_law 406 = .ok (.i2l, 1) by decide +kernel) ?_
            refine X_lcmp (show decode cL_law 407 = .ok (.lcmp, 1) by decide +kernel) ?_
            refine X_if_eq (tgt := 413) (show decode cL_law 408 = .ok (.ifCond .eq 5, 3) by decide +kernel) (by decide) ⟨fun c45 => ?_, fun c45 => ?_⟩
            · have w := w.1 c45
              refine X_goto (tgt := 2925) (show decode cL_law 413 = .ok (.goto 2512, 3) by decide +kernel) (by decide) ?_
              refine X_iinc (j := 5) (v := _ + 4) (ls' := [(0, .ref _), (1, .ref _), (2, .ref _), (3, .ref _), (4, .ref _), (5, .int _), (6, .int _), (7, .int _)]) (show decode cL_law 2925 = .ok (.iinc 5 4, 3) by decide +kernel) rfl rfl (Nat.le_of_ble_eq_true rfl) rfl ?_
              refine X_goto (tgt := 28) (show decode cL_law 2928 = .ok (.goto (-2900), 3) by decide +kernel) (by decide) ?_
              refine X_room (rc' := (n * 33 + 33)) (rs' := (n * 8198 + 8198)) (by omega) (by omega) ?_
              refine X_pick (ls' := [(0, .ref _), (1, .ref _), (2, .ref _), (3, .ref _), (4, .ref _), (5, .int _)]) [0, 1, 2, 3, 4, 5] rfl ?_
              exact ih _ _ _ _ _ _ _ w
            · have w := w.2 c45
              refine X_iconst (v := 0) (show decode cL_law 411 = .ok (.iconst 0, 1) by decide +kernel) (by decide) ?_
              exact X_iret ⟨(show decode cL_law 412 = .ok (.ireturn, 1) by decide +kernel), .boolean, rfl, (by decide)⟩ ⟨_, rfl, w⟩
        · have w := w.2 c41
          refine X_iconst (v := 0) (show decode cL_law 394 = .ok (.iconst 0, 1) by decide +kernel) (by decide) ?_
          exact X_iret ⟨(show decode cL_law 395 = .ok (.ireturn, 1) by decide +kernel), .boolean, rfl, (by decide)⟩ ⟨_, rfl, w⟩
      by_cases z2 : (mI h x0 x5.toNatClampNeg &&& 63) = 2
      · have w := w.2.2.1 z2
        refine X_tableIn (tgt := 416) (show decode cL_law 44 = .ok (.tableswitch 2881 0 54 #[236, 292, 372, 440, 496, 552, 615, 683, 739, 795, 851, 864, 920, 976, 1032, 1095, 1151, 1219, 1287, 1367, 1435, 1448, 1473, 1529, 1585, 1648, 1711, 1767, 1823, 1879, 1935, 1991, 2066, 2079, 2092, 2167, 2180, 2193, 2237, 2281, 2294, 2307, 2321, 2386, 2452, 2465, 2478, 2534, 2590, 2648, 2692, 2736, 2780, 2824, 2837], 236) by decide +kernel) (by rw [z2]; decide) (by rw [z2]; decide) (by rw [z2]; rfl) (by decide) ?_
        refine X_aload_n (j := 1) (show decode cL_law 416 = .ok (.aload_n 1, 1) by decide +kernel) rfl rfl ?_
        refine X_aload_n (j := 0) (show decode cL_law 417 = .ok (.aload_n 0, 1) by decide +kernel) rfl rfl ?_
        refine X_iload (j := 5) (show decode cL_law 418 = .ok (.iload 5, 2) by decide +kernel) rfl ?_
        refine X_iconst (v := 1) (show decode cL_law 420 = .ok (.iconst 1, 1) by decide +kernel) (by decide) ?_
        refine X_iadd (show decode cL_law 421 = .ok (.iadd, 1) by decide +kernel) ?_
        obtain ⟨s48, w⟩ := w
        refine X_iald (show decode cL_law 422 = .ok (.iaload, 1) by decide +kernel) (isA_eq s9) s48 ?_
        refine X_aload_n (j := 0) (show decode cL_law 423 = .ok (.aload_n 0, 1) by decide +kernel) rfl rfl ?_
        refine X_iload (j := 5) (show decode cL_law 424 = .ok (.iload 5, 2) by decide +kernel) rfl ?_
        refine X_iconst (v := 2) (show decode cL_law 426 = .ok (.iconst 2, 1) by decide +kernel) (by decide) ?_
        refine X_iadd (show decode cL_law 427 = .ok (.iadd, 1) by decide +kernel) ?_
        obtain ⟨s49, w⟩ := w
        refine X_iald (show decode cL_law 428 = .ok (.iaload, 1) by decide +kernel) (isA_eq s9) s49 ?_
        refine X_aload_n (j := 3) (show decode cL_law 429 = .ok (.aload_n 3, 1) by decide +kernel) rfl rfl ?_
        refine X_sI (rc' := (n * 33 + 65)) (rs' := (n * 8198 + 16390)) (as := [.ref _, .int _, .int _, .ref _]) ms_L_175 (show decode cL_law 430 = .ok (.invokestatic 175, 3) by decide +kernel) (by decide) (by omega) (by omega) rfl rfl (Nat.le_of_ble_eq_true rfl) (kL_addLink w) (fun E h hk => hk.elim) (fun r51 h50 w => ?_)
        refine X_istore (ls' := [(0, .ref _), (1, .ref _), (2, .ref _), (3, .ref _), (4, .ref _), (5, .int _), (6, .int _)]) (show decode cL_law 433 = .ok (.istore 6, 2) by decide +kernel) (by decide) rfl ?_
        refine X_aload_n (j := 2) (show decode cL_law 435 = .ok (.aload_n 2, 1) by decide +kernel) rfl rfl ?_
        refine X_aload_n (j := 0) (show decode cL_law 436 = .ok (.aload_n 0, 1) by decide +kernel) rfl rfl ?_
        refine X_iload (j := 5) (show decode cL_law 437 = .ok (.iload 5, 2) by decide +kernel) rfl ?_
        refine X_iconst (v := 1) (show decode cL_law 439 = .ok (.iconst 1, 1) by decide +kernel) (by decide) ?_
        refine X_iadd (show decode cL_law 440 = .ok (.iadd, 1) by decide +kernel) ?_
        obtain ⟨s52, w⟩ := w
        obtain ⟨s53, w⟩ := w
        refine X_iald (show decode cL_law 441 = .ok (.iaload, 1) by decide +kernel) (isA_eq s52) s53 ?_
        refine X_aload_n (j := 0) (show decode cL_law 442 = .ok (.aload_n 0, 1) by decide +kernel) rfl rfl ?_
        refine X_iload (j := 5) (show decode cL_law 443 = .ok (.iload 5, 2) by decide +kernel) rfl ?_
        refine X_iconst (v := 2) (show decode cL_law 445 = .ok (.iconst 2, 1) by decide +kernel) (by decide) ?_
        refine X_iadd (show decode cL_law 446 = .ok (.iadd, 1) by decide +kernel) ?_
        obtain ⟨s54, w⟩ := w
        refine X_iald (show decode cL_law 447 = .ok (.iaload, 1) by decide +kernel) (isA_eq s52) s54 ?_
        obtain ⟨s65, w⟩ := w
        refine X_vI (rc' := (n * 33 + 65)) (rs' := (n * 8198 + 16390)) (as := [.int _, .int _]) mv_L_178 (show decode cL_law 448 = .ok (.invokevirtual 178, 3) by decide +kernel) (by decide) (by omega) (by omega) rfl rfl (Nat.le_of_ble_eq_true rfl) (rcvD s65 (by decide) rfl) (kX10_addLink w) (fun E h hk => hk.elim) (fun r56 h55 w => ?_)
        refine X_istore (ls' := [(0, .ref _), (1, .ref _), (2, .ref _), (3, .ref _), (4, .ref _), (5, .int _), (6, .int _), (7, .int _)]) (show decode cL_law 451 = .ok (.istore 7, 2) by decide +kernel) (by decide) rfl ?_
        refine X_aload_n (j := 2) (show decode cL_law 453 = .ok (.aload_n 2, 1) by decide +kernel) rfl rfl ?_
        obtain ⟨s64, w⟩ := w
        refine X_vI (rc' := (n * 33 + 65)) (rs' := (n * 8198 + 16390)) (as := []) mv_L_168 (show decode cL_law 454 = .ok (.invokevirtual 168, 3) by decide +kernel) (by decide) (by omega) (by omega) rfl rfl (Nat.le_of_ble_eq_true rfl) (rcvD s64 (by decide) rfl) (kX10_thrown w) (fun E h hk => hk.elim) (fun r58 h57 w => ?_)
        refine X_iload (j := 6) (show decode cL_law 457 = .ok (.iload 6, 2) by decide +kernel) rfl ?_
        refine X_icmp_eq (tgt := 464) (show decode cL_law 459 = .ok (.if_icmp .eq 5, 3) by decide +kernel) (by decide) ⟨fun c59 => ?_, fun c59 => ?_⟩
        · have w := w.1 c59
          refine X_iload (j := 6) (show decode cL_law 464 = .ok (.iload 6, 2) by decide +kernel) rfl ?_
          refine X_if_ne (tgt := 481) (show decode cL_law 466 = .ok (.ifCond .ne 15, 3) by decide +kernel) (by decide) ⟨fun c60 => ?_, fun c60 => ?_⟩
          · have w := w.1 c60
            refine X_goto (tgt := 2925) (show decode cL_law 481 = .ok (.goto 2444, 3) by decide +kernel) (by decide) ?_
            refine X_iinc (j := 5) (v := _ + 4) (ls' := [(0, .ref _), (1, .ref _), (2, .ref _), (3, .ref _), (4, .ref _), (5, .int _), (6, .int _), (7, .int _)]) (show decode cL_law 2925 = .ok (.iinc 5 4, 3) by decide +kernel) rfl rfl (Nat.le_of_ble_eq_true rfl) rfl ?_
            refine X_goto (tgt := 28) (show decode cL_law 2928 = .ok (.goto (-2900), 3) by decide +kernel) (by decide) ?_
            refine X_room (rc' := (n * 33 + 33)) (rs' := (n * 8198 + 8198)) (by omega) (by omega) ?_
            refine X_pick (ls' := [(0, .ref _), (1, .ref _), (2, .ref _), (3, .ref _), (4, .ref _), (5, .int _)]) [0, 1, 2, 3, 4, 5] rfl ?_
            exact ih _ _ _ _ _ _ _ w
          · have w := w.2 c60
            refine X_aload_n (j := 3) (show decode cL_law 469 = .ok (.aload_n 3, 1) by decide +kernel) rfl rfl ?_
            refine X_iconst (v := 0) (show decode cL_law 470 = .ok (.iconst 0, 1) by decide +kernel) (by decide) ?_
            obtain ⟨s61, w⟩ := w
            obtain ⟨s62, w⟩ := w
            refine X_lald (show decode cL_law 471 = .ok (.laload, 1) by decide +kernel) (isA_eq s61) s62 ?_
            refine X_iload (j := 7) (show decode cL_law 472 = .ok (.iload 7, 2) by decide +kernel) rfl ?_
            refine X_i2l (show decode cL_law 474 = .ok (.i2l, 1) by decide +kernel) ?_
            refine X_lcmp (show decode cL_law 475 = .ok (.lcmp, 1) by decide +kernel) ?_
            refine X_if_eq (tgt := 481) (show decode cL_law 476 = .ok (.ifCond .eq 5, 3) by decide +kernel) (by decide) ⟨fun c63 => ?_, fun c63 => ?_⟩
            · have w := w.1 c63
              refine X_goto (tgt := 2925) (show decode cL_law 481 = .ok (.goto 2444, 3) by decide +kernel) (by decide) ?_
              refine X_iinc (j := 5) (v := _ + 4) (ls' := [(0, .ref _), (1, .ref _), (2, .ref _), (3, .ref _), (4, .ref _), (5, .int _), (6, .int _), (7, .int _)]) (show decode cL_law 2925 = .ok (.iinc 5 4, 3) by decide +kernel) rfl rfl (Nat.le_of_ble_eq_true rfl) rfl ?_
              refine X_goto (tgt := 28) (show decode cL_law 2928 = .ok (.goto (-2900), 3) by decide +kernel) (by decide) ?_
              refine X_room (rc' := (n * 33 + 33)) (rs' := (n * 8198 + 8198)) (by omega) (by omega) ?_
              refine X_pick (ls' := [(0, .ref _), (1, .ref _), (2, .ref _), (3, .ref _), (4, .ref _), (5, .int _)]) [0, 1, 2, 3, 4, 5] rfl ?_
              exact ih _ _ _ _ _ _ _ w
            · have w := w.2 c63
              refine X_iconst (v := 0) (show decode cL_law 479 = .ok (.iconst 0, 1) by decide +kernel) (by decide) ?_
              exact X_iret ⟨(show decode cL_law 480 = .ok (.ireturn, 1) by decide +kernel), .boolean, rfl, (by decide)⟩ ⟨_, rfl, w⟩
        · have w := w.2 c59
          refine X_iconst (v := 0) (show decode cL_law 462 = .ok (.iconst 0, 1) by decide +kernel) (by decide) ?_
          exact X_iret ⟨(show decode cL_law 463 = .ok (.ireturn, 1) by decide +kernel), .boolean, rfl, (by decide)⟩ ⟨_, rfl, w⟩
      by_cases z3 : (mI h x0 x5.toNatClampNeg &&& 63) = 3
      · have w := w.2.2.2.1 z3
        refine X_tableIn (tgt := 484) (show decode cL_law 44 = .ok (.tableswitch 2881 0 54 #[236, 292, 372, 440, 496, 552, 615, 683, 739, 795, 851, 864, 920, 976, 1032, 1095, 1151, 1219, 1287, 1367, 1435, 1448, 1473, 1529, 1585, 1648, 1711, 1767, 1823, 1879, 1935, 1991, 2066, 2079, 2092, 2167, 2180, 2193, 2237, 2281, 2294, 2307, 2321, 2386, 2452, 2465, 2478, 2534, 2590, 2648, 2692, 2736, 2780, 2824, 2837], 236) by decide +kernel) (by rw [z3]; decide) (by rw [z3]; decide) (by rw [z3]; rfl) (by decide) ?_
        refine X_aload_n (j := 1) (show decode cL_law 484 = .ok (.aload_n 1, 1) by decide +kernel) rfl rfl ?_
        refine X_aload_n (j := 0) (show decode cL_law 485 = .ok (.aload_n 0, 1) by decide +kernel) rfl rfl ?_
        refine X_iload (j := 5) (show decode cL_law 486 = .ok (.iload 5, 2) by decide +kernel) rfl ?_
        refine X_iconst (v := 1) (show decode cL_law 488 = .ok (.iconst 1, 1) by decide +kernel) (by decide) ?_
        refine X_iadd (show decode cL_law 489 = .ok (.iadd, 1) by decide +kernel) ?_
        obtain ⟨s66, w⟩ := w
        refine X_iald (show decode cL_law 490 = .ok (.iaload, 1) by decide +kernel) (isA_eq s9) s66 ?_
        refine X_aload_n (j := 3) (show decode cL_law 491 = .ok (.aload_n 3, 1) by decide +kernel) rfl rfl ?_
        refine X_sI (rc' := (n * 33 + 65)) (rs' := (n * 8198 + 16390)) (as := [.ref _, .int _, .ref _]) ms_L_179 (show decode cL_law 492 = .ok (.invokestatic 179, 3) by decide +kernel) (by decide) (by omega) (by omega) rfl rfl (Nat.le_of_ble_eq_true rfl) (kL_shut w) (fun E h hk => hk.elim) (fun r68 h67 w => ?_)
        refine X_istore (ls' := [(0, .ref _), (1, .ref _), (2, .ref _), (3, .ref _), (4, .ref _), (5, .int _), (6, .int _)]) (show decode cL_law 495 = .ok (.istore 6, 2) by decide +kernel) (by decide) rfl ?_
        refine X_aload_n (j := 2) (show decode cL_law 497 = .ok (.aload_n 2, 1) by decide +kernel) rfl rfl ?_
        refine X_aload_n (j := 0) (show decode cL_law 498 = .ok (.aload_n 0, 1) by decide +kernel) rfl rfl ?_
        refine X_iload (j := 5) (show decode cL_law 499 = .ok (.iload 5, 2) by decide +kernel) rfl ?_
        refine X_iconst (v := 1) (show decode cL_law 501 = .ok (.iconst 1, 1) by decide +kernel) (by decide) ?_
        refine X_iadd (show decode cL_law 502 = .ok (.iadd, 1) by decide +kernel) ?_
        obtain ⟨s69, w⟩ := w
        obtain ⟨s70, w⟩ := w
        refine X_iald (show decode cL_law 503 = .ok (.iaload, 1) by decide +kernel) (isA_eq s69) s70 ?_
        obtain ⟨s81, w⟩ := w
        refine X_vI (rc' := (n * 33 + 65)) (rs' := (n * 8198 + 16390)) (as := [.int _]) mv_L_181 (show decode cL_law 504 = .ok (.invokevirtual 181, 3) by decide +kernel) (by decide) (by omega) (by omega) rfl rfl (Nat.le_of_ble_eq_true rfl) (rcvD s81 (by decide) rfl) (kX10_shut w) (fun E h hk => hk.elim) (fun r72 h71 w => ?_)
        refine X_istore (ls' := [(0, .ref _), (1, .ref _), (2, .ref _), (3, .ref _), (4, .ref _), (5, .int _), (6, .int _), (7, .int _)]) (show decode cL_law 507 = .ok (.istore 7, 2) by decide +kernel) (by decide) rfl ?_
        refine X_aload_n (j := 2) (show decode cL_law 509 = .ok (.aload_n 2, 1) by decide +kernel) rfl rfl ?_
        obtain ⟨s80, w⟩ := w
        refine X_vI (rc' := (n * 33 + 65)) (rs' := (n * 8198 + 16390)) (as := []) mv_L_168 (show decode cL_law 510 = .ok (.invokevirtual 168, 3) by decide +kernel) (by decide) (by omega) (by omega) rfl rfl (Nat.le_of_ble_eq_true rfl) (rcvD s80 (by decide) rfl) (kX10_thrown w) (fun E h hk => hk.elim) (fun r74 h73 w => ?_)
        refine X_iload (j := 6) (show decode cL_law 513 = .ok (.iload 6, 2) by decide +kernel) rfl ?_
        refine X_icmp_eq (tgt := 520) (show decode cL_law 515 = .ok (.if_icmp .eq 5, 3) by decide +kernel) (by decide) ⟨fun c75 => ?_, fun c75 => ?_⟩
        · have w := w.1 c75
          refine X_iload (j := 6) (show decode cL_law 520 = .ok (.iload 6, 2) by decide +kernel) rfl ?_
          refine X_if_ne (tgt := 537) (show decode cL_law 522 = .ok (.ifCond .ne 15, 3) by decide +kernel) (by decide) ⟨fun c76 => ?_, fun c76 => ?_⟩
          · have w := w.1 c76
            refine X_goto (tgt := 2925) (show decode cL_law 537 = .ok (.goto 2388, 3) by decide +kernel) (by decide) ?_
            refine X_iinc (j := 5) (v := _ + 4) (ls' := [(0, .ref _), (1, .ref _), (2, .ref _), (3, .ref _), (4, .ref _), (5, .int _), (6, .int _), (7, .int _)]) (show decode cL_law 2925 = .ok (.iinc 5 4, 3) by decide +kernel) rfl rfl (Nat.le_of_ble_eq_true rfl) rfl ?_
            refine X_goto (tgt := 28) (show decode cL_law 2928 = .ok (.goto (-2900), 3) by decide +kernel) (by decide) ?_
            refine X_room (rc' := (n * 33 + 33)) (rs' := (n * 8198 + 8198)) (by omega) (by omega) ?_
            refine X_pick (ls' := [(0, .ref _), (1, .ref _), (2, .ref _), (3, .ref _), (4, .ref _), (5, .int _)]) [0, 1, 2, 3, 4, 5] rfl ?_
            exact ih _ _ _ _ _ _ _ w
          · have w := w.2 c76
            refine X_aload_n (j := 3) (show decode cL_law 525 = .ok (.aload_n 3, 1) by decide +kernel) rfl rfl ?_
            refine X_iconst (v := 0) (show decode cL_law 526 = .ok (.iconst 0, 1) by decide +kernel) (by decide) ?_
            obtain ⟨s77, w⟩ := w
            obtain ⟨s78, w⟩ := w
            refine X_lald (show decode cL_law 527 = .ok (.laload, 1) by decide +kernel) (isA_eq s77) s78 ?_
            refine X_iload (j := 7) (show decode cL_law 528 = .ok (.iload 7, 2) by decide +kernel) rfl ?_
            refine X_i2l (show decode cL_law 530 = .ok (.i2l, 1) by decide +kernel) ?_
            refine X_lcmp (show decode cL_law 531 = .ok (.lcmp, 1) by decide +kernel) ?_
            refine X_if_eq (tgt := 537) (show decode cL_law 532 = .ok (.ifCond .eq 5, 3) by decide +kernel) (by decide) ⟨fun c79 => ?_, fun c79 => ?_⟩
            · have w := w.1 c79
              refine X_goto (tgt := 2925) (show decode cL_law 537 = .ok (.goto 2388, 3) by decide +kernel) (by decide) ?_
              refine X_iinc (j := 5) (v := _ + 4) (ls' := [(0, .ref _), (1, .ref _), (2, .ref _), (3, .ref _), (4, .ref _), (5, .int _), (6, .int _), (7, .int _)]) (show decode cL_law 2925 = .ok (.iinc 5 4, 3) by decide +kernel) rfl rfl (Nat.le_of_ble_eq_true rfl) rfl ?_
              refine X_goto (tgt := 28) (show decode cL_law 2928 = .ok (.goto (-2900), 3) by decide +kernel) (by decide) ?_
              refine X_room (rc' := (n * 33 + 33)) (rs' := (n * 8198 + 8198)) (by omega) (by omega) ?_
              refine X_pick (ls' := [(0, .ref _), (1, .ref _), (2, .ref _), (3, .ref _), (4, .ref _), (5, .int _)]) [0, 1, 2, 3, 4, 5] rfl ?_
              exact ih _ _ _ _ _ _ _ w
            · have w := w.2 c79
              refine X_iconst (v := 0) (show decode cL_law 535 = .ok (.iconst 0, 1) by decide +kernel) (by decide) ?_
              exact X_iret ⟨(show decode cL_law 536 = .ok (.ireturn, 1) by decide +kernel), .boolean, rfl, (by decide)⟩ ⟨_, rfl, w⟩
        · have w := w.2 c75
          refine X_iconst (v := 0) (show decode cL_law 518 = .ok (.iconst 0, 1) by decide +kernel) (by decide) ?_
          exact X_iret ⟨(show decode cL_law 519 = .ok (.ireturn, 1) by decide +kernel), .boolean, rfl, (by decide)⟩ ⟨_, rfl, w⟩
      by_cases z4 : (mI h x0 x5.toNatClampNeg &&& 63) = 4
      · have w := w.2.2.2.2.1 z4
        refine X_tableIn (tgt := 540) (show decode cL_law 44 = .ok (.tableswitch 2881 0 54 #[236, 292, 372, 440, 496, 552, 615, 683, 739, 795, 851, 864, 920, 976, 1032, 1095, 1151, 1219, 1287, 1367, 1435, 1448, 1473, 1529, 1585, 1648, 1711, 1767, 1823, 1879, 1935, 1991, 2066, 2079, 2092, 2167, 2180, 2193, 2237, 2281, 2294, 2307, 2321, 2386, 2452, 2465, 2478, 2534, 2590, 2648, 2692, 2736, 2780, 2824, 2837], 236) by decide +kernel) (by rw [z4]; decide) (by rw [z4]; decide) (by rw [z4]; rfl) (by decide) ?_
        refine X_aload_n (j := 1) (show decode cL_law 540 = .ok (.aload_n 1, 1) by decide +kernel) rfl rfl ?_
        refine X_aload_n (j := 0) (show decode cL_law 541 = .ok (.aload_n 0, 1) by decide +kernel) rfl rfl ?_
        refine X_iload (j := 5) (show decode cL_law 542 = .ok (.iload 5, 2) by decide +kernel) rfl ?_
        refine X_iconst (v := 1) (show decode cL_law 544 = .ok (.iconst 1, 1) by decide +kernel) (by decide) ?_
        refine X_iadd (show decode cL_law 545 = .ok (.iadd, 1) by decide +kernel) ?_
        obtain ⟨s82, w⟩ := w
        refine X_iald (show decode cL_law 546 = .ok (.iaload, 1) by decide +kernel) (isA_eq s9) s82 ?_
        refine X_aload_n (j := 3) (show decode cL_law 547 = .ok (.aload_n 3, 1) by decide +kernel) rfl rfl ?_
        refine X_sI (rc' := (n * 33 + 65)) (rs' := (n * 8198 + 16390)) (as := [.ref _, .int _, .ref _]) ms_L_182 (show decode cL_law 548 = .ok (.invokestatic 182, 3) by decide +kernel) (by decide) (by omega) (by omega) rfl rfl (Nat.le_of_ble_eq_true rfl) (kL_open w) (fun E h hk => hk.elim) (fun r84 h83 w => ?_)
        refine X_istore (ls' := [(0, .ref _), (1, .ref _), (2, .ref _), (3, .ref _), (4, .ref _), (5, .int _), (6, .int _)]) (show decode cL_law 551 = .ok (.istore 6, 2) by decide +kernel) (by decide) rfl ?_
        refine X_aload_n (j := 2) (show decode cL_law 553 = .ok (.aload_n 2, 1) by decide +kernel) rfl rfl ?_
        refine X_aload_n (j := 0) (show decode cL_law 554 = .ok (.aload_n 0, 1) by decide +kernel) rfl rfl ?_
        refine X_iload (j := 5) (show decode cL_law 555 = .ok (.iload 5, 2) by decide +kernel) rfl ?_
        refine X_iconst (v := 1) (show decode cL_law 557 = .ok (.iconst 1, 1) by decide +kernel) (by decide) ?_
        refine X_iadd (show decode cL_law 558 = .ok (.iadd, 1) by decide +kernel) ?_
        obtain ⟨s85, w⟩ := w
        obtain ⟨s86, w⟩ := w
        refine X_iald (show decode cL_law 559 = .ok (.iaload, 1) by decide +kernel) (isA_eq s85) s86 ?_
        obtain ⟨s97, w⟩ := w
        refine X_vI (rc' := (n * 33 + 65)) (rs' := (n * 8198 + 16390)) (as := [.int _]) mv_L_184 (show decode cL_law 560 = .ok (.invokevirtual 184, 3) by decide +kernel) (by decide) (by omega) (by omega) rfl rfl (Nat.le_of_ble_eq_true rfl) (rcvD s97 (by decide) rfl) (kX10_open w) (fun E h hk => hk.elim) (fun r88 h87 w => ?_)
        refine X_istore (ls' := [(0, .ref _), (1, .ref _), (2, .ref _), (3, .ref _), (4, .ref _), (5, .int _), (6, .int _), (7, .int _)]) (show decode cL_law 563 = .ok (.istore 7, 2) by decide +kernel) (by decide) rfl ?_
        refine X_aload_n (j := 2) (show decode cL_law 565 = .ok (.aload_n 2, 1) by decide +kernel) rfl rfl ?_
        obtain ⟨s96, w⟩ := w
        refine X_vI (rc' := (n * 33 + 65)) (rs' := (n * 8198 + 16390)) (as := []) mv_L_168 (show decode cL_law 566 = .ok (.invokevirtual 168, 3) by decide +kernel) (by decide) (by omega) (by omega) rfl rfl (Nat.le_of_ble_eq_true rfl) (rcvD s96 (by decide) rfl) (kX10_thrown w) (fun E h hk => hk.elim) (fun r90 h89 w => ?_)
        refine X_iload (j := 6) (show decode cL_law 569 = .ok (.iload 6, 2) by decide +kernel) rfl ?_
        refine X_icmp_eq (tgt := 576) (show decode cL_law 571 = .ok (.if_icmp .eq 5, 3) by decide +kernel) (by decide) ⟨fun c91 => ?_, fun c91 => ?_⟩
        · have w := w.1 c91
          refine X_iload (j := 6) (show decode cL_law 576 = .ok (.iload 6, 2) by decide +kernel) rfl ?_
          refine X_if_ne (tgt := 593) (show decode cL_law 578 = .ok (.ifCond .ne 15, 3) by decide +kernel) (by decide) ⟨fun c92 => ?_, fun c92 => ?_⟩
          · have w := w.1 c92
            refine X_goto (tgt := 2925) (show decode cL_law 593 = .ok (.goto 2332, 3) by decide +kernel) (by decide) ?_
            refine X_iinc (j := 5) (v := _ + 4) (ls' := [(0, .ref _), (1, .ref _), (2, .ref _), (3, .ref _), (4, .ref _), (5, .int _), (6, .int _), (7, .int _)]) (show decode cL_law 2925 = .ok (.iinc 5 4, 3) by decide +kernel) rfl rfl (Nat.le_of_ble_eq_true rfl) rfl ?_
            refine X_goto (tgt := 28) (show decode cL_law 2928 = .ok (.goto (-2900), 3) by decide +kernel) (by decide) ?_
            refine X_room (rc' := (n * 33 + 33)) (rs' := (n * 8198 + 8198)) (by omega) (by omega) ?_
            refine X_pick (ls' := [(0, .ref _), (1, .ref _), (2, .ref _), (3, .ref _), (4, .ref _), (5, .int _)]) [0, 1, 2, 3, 4, 5] rfl ?_
            exact ih _ _ _ _ _ _ _ w
          · have w := w.2 c92
            refine X_aload_n (j := 3) (show decode cL_law 581 = .ok (.aload_n 3, 1) by decide +kernel) rfl rfl ?_
            refine X_iconst (v := 0) (show decode cL_law 582 = .ok (.iconst 0, 1) by decide +kernel) (by decide) ?_
            obtain ⟨s93, w⟩ := w
            obtain ⟨s94, w⟩ := w
            refine X_lald (show decode cL_law 583 = .ok (.laload, 1) by decide +kernel) (isA_eq s93) s94 ?_
            refine X_iload (j := 7) (show decode cL_law 584 = .ok (.iload 7, 2) by decide +kernel) rfl ?_
            refine X_i2l (show decode cL_law 586 = .ok (.i2l, 1) by decide +kernel) ?_
            refine X_lcmp (show decode cL_law 587 = .ok (.lcmp, 1) by decide +kernel) ?_
            refine X_if_eq (tgt := 593) (show decode cL_law 588 = .ok (.ifCond .eq 5, 3) by decide +kernel) (by decide) ⟨fun c95 => ?_, fun c95 => ?_⟩
            · have w := w.1 c95
              refine X_goto (tgt := 2925) (show decode cL_law 593 = .ok (.goto 2332, 3) by decide +kernel) (by decide) ?_
              refine X_iinc (j := 5) (v := _ + 4) (ls' := [(0, .ref _), (1, .ref _), (2, .ref _), (3, .ref _), (4, .ref _), (5, .int _), (6, .int _), (7, .int _)]) (show decode cL_law 2925 = .ok (.iinc 5 4, 3) by decide +kernel) rfl rfl (Nat.le_of_ble_eq_true rfl) rfl ?_
              refine X_goto (tgt := 28) (show decode cL_law 2928 = .ok (.goto (-2900), 3) by decide +kernel) (by decide) ?_
              refine X_room (rc' := (n * 33 + 33)) (rs' := (n * 8198 + 8198)) (by omega) (by omega) ?_
              refine X_pick (ls' := [(0, .ref _), (1, .ref _), (2, .ref _), (3, .ref _), (4, .ref _), (5, .int _)]) [0, 1, 2, 3, 4, 5] rfl ?_
              exact ih _ _ _ _ _ _ _ w
            · have w := w.2 c95
              refine X_iconst (v := 0) (show decode cL_law 591 = .ok (.iconst 0, 1) by decide +kernel) (by decide) ?_
              exact X_iret ⟨(show decode cL_law 592 = .ok (.ireturn, 1) by decide +kernel), .boolean, rfl, (by decide)⟩ ⟨_, rfl, w⟩
        · have w := w.2 c91
          refine X_iconst (v := 0) (show decode cL_law 574 = .ok (.iconst 0, 1) by decide +kernel) (by decide) ?_
          exact X_iret ⟨(show decode cL_law 575 = .ok (.ireturn, 1) by decide +kernel), .boolean, rfl, (by decide)⟩ ⟨_, rfl, w⟩
      by_cases z5 : (mI h x0 x5.toNatClampNeg &&& 63) = 5
      · have w := w.2.2.2.2.2.1 z5
        refine X_tableIn (tgt := 596) (show decode cL_law 44 = .ok (.tableswitch 2881 0 54 #[236, 292, 372, 440, 496, 552, 615, 683, 739, 795, 851, 864, 920, 976, 1032, 1095, 1151, 1219, 1287, 1367, 1435, 1448, 1473, 1529, 1585, 1648, 1711, 1767, 1823, 1879, 1935, 1991, 2066, 2079, 2092, 2167, 2180, 2193, 2237, 2281, 2294, 2307, 2321, 2386, 2452, 2465, 2478, 2534, 2590, 2648, 2692, 2736, 2780, 2824, 2837], 236) by decide +kernel) (by rw [z5]; decide) (by rw [z5]; decide) (by rw [z5]; rfl) (by decide) ?_
        refine X_aload_n (j := 1) (show decode cL_law 596 = .ok (.aload_n 1, 1) by decide +kernel) rfl rfl ?_
        refine X_aload_n (j := 0) (show decode cL_law 597 = .ok (.aload_n 0, 1) by decide +kernel) rfl rfl ?_
        refine X_iload (j := 5) (show decode cL_law 598 = .ok (.iload 5, 2) by decide +kernel) rfl ?_
        refine X_iconst (v := 1) (show decode cL_law 600 = .ok (.iconst 1, 1) by decide +kernel) (by decide) ?_
        refine X_iadd (show decode cL_law 601 = .ok (.iadd, 1) by decide +kernel) ?_
        obtain ⟨s98, w⟩ := w
        refine X_iald (show decode cL_law 602 = .ok (.iaload, 1) by decide +kernel) (isA_eq s9) s98 ?_
        refine X_aload_n (j := 3) (show decode cL_law 603 = .ok (.aload_n 3, 1) by decide +kernel) rfl rfl ?_
        refine X_sI (rc' := (n * 33 + 65)) (rs' := (n * 8198 + 16390)) (as := [.ref _, .int _, .ref _]) ms_L_185 (show decode cL_law 604 = .ok (.invokestatic 185, 3) by decide +kernel) (by decide) (by omega) (by omega) rfl rfl (Nat.le_of_ble_eq_true rfl) (kL_throwPoint w) (fun E h hk => hk.elim) (fun r100 h99 w => ?_)
        refine X_istore (ls' := [(0, .ref _), (1, .ref _), (2, .ref _), (3, .ref _), (4, .ref _), (5, .int _), (6, .int _)]) (show decode cL_law 607 = .ok (.istore 6, 2) by decide +kernel) (by decide) rfl ?_
        refine X_aload_n (j := 2) (show decode cL_law 609 = .ok (.aload_n 2, 1) by decide +kernel) rfl rfl ?_
        refine X_aload_n (j := 0) (show decode cL_law 610 = .ok (.aload_n 0, 1) by decide +kernel) rfl rfl ?_
        refine X_iload (j := 5) (show decode cL_law 611 = .ok (.iload 5, 2) by decide +kernel) rfl ?_
        refine X_iconst (v := 1) (show decode cL_law 613 = .ok (.iconst 1, 1) by decide +kernel) (by decide) ?_
        refine X_iadd (show decode cL_law 614 = .ok (.iadd, 1) by decide +kernel) ?_
        obtain ⟨s101, w⟩ := w
        obtain ⟨s102, w⟩ := w
        refine X_iald (show decode cL_law 615 = .ok (.iaload, 1) by decide +kernel) (isA_eq s101) s102 ?_
        obtain ⟨s114, w⟩ := w
        refine X_vI (rc' := (n * 33 + 65)) (rs' := (n * 8198 + 16390)) (as := [.int _]) mv_L_187 (show decode cL_law 616 = .ok (.invokevirtual 187, 3) by decide +kernel) (by decide) (by omega) (by omega) rfl rfl (Nat.le_of_ble_eq_true rfl) (rcvD s114 (by decide) rfl) (kX10_throwPoint w) (fun E h hk => hk.elim) (fun r104 h103 w => ?_)
        refine X_istore (ls' := [(0, .ref _), (1, .ref _), (2, .ref _), (3, .ref _), (4, .ref _), (5, .int _), (6, .int _), (7, .int _)]) (show decode cL_law 619 = .ok (.istore 7, 2) by decide +kernel) (by decide) rfl ?_
        refine X_aload_n (j := 2) (show decode cL_law 621 = .ok (.aload_n 2, 1) by decide +kernel) rfl rfl ?_
        obtain ⟨s113, w⟩ := w
        refine X_vI (rc' := (n * 33 + 65)) (rs' := (n * 8198 + 16390)) (as := []) mv_L_168 (show decode cL_law 622 = .ok (.invokevirtual 168, 3) by decide +kernel) (by decide) (by omega) (by omega) rfl rfl (Nat.le_of_ble_eq_true rfl) (rcvD s113 (by decide) rfl) (kX10_thrown w) (fun E h hk => hk.elim) (fun r106 h105 w => ?_)
        refine X_iload (j := 6) (show decode cL_law 625 = .ok (.iload 6, 2) by decide +kernel) rfl ?_
        refine X_icmp_eq (tgt := 632) (show decode cL_law 627 = .ok (.if_icmp .eq 5, 3) by decide +kernel) (by decide) ⟨fun c107 => ?_, fun c107 => ?_⟩
        · have w := w.1 c107
          refine X_iload (j := 6) (show decode cL_law 632 = .ok (.iload 6, 2) by decide +kernel) rfl ?_
          refine X_if_ne (tgt := 656) (show decode cL_law 634 = .ok (.ifCond .ne 22, 3) by decide +kernel) (by decide) ⟨fun c108 => ?_, fun c108 => ?_⟩
          · have w := w.1 c108
            refine X_goto (tgt := 2925) (show decode cL_law 656 = .ok (.goto 2269, 3) by decide +kernel) (by decide) ?_
            refine X_iinc (j := 5) (v := _ + 4) (ls' := [(0, .ref _), (1, .ref _), (2, .ref _), (3, .ref _), (4, .ref _), (5, .int _), (6, .int _), (7, .int _)]) (show decode cL_law 2925 = .ok (.iinc 5 4, 3) by decide +kernel) rfl rfl (Nat.le_of_ble_eq_true rfl) rfl ?_
            refine X_goto (tgt := 28) (show decode cL_law 2928 = .ok (.goto (-2900), 3) by decide +kernel) (by decide) ?_
            refine X_room (rc' := (n * 33 + 33)) (rs' := (n * 8198 + 8198)) (by omega) (by omega) ?_
            refine X_pick (ls' := [(0, .ref _), (1, .ref _), (2, .ref _), (3, .ref _), (4, .ref _), (5, .int _)]) [0, 1, 2, 3, 4, 5] rfl ?_
            exact ih _ _ _ _ _ _ _ w
          · have w := w.2 c108
            refine X_aload_n (j := 3) (show decode cL_law 637 = .ok (.aload_n 3, 1) by decide +kernel) rfl rfl ?_
            refine X_iconst (v := 0) (show decode cL_law 638 = .ok (.iconst 0, 1) by decide +kernel) (by decide) ?_
            obtain ⟨s109, w⟩ := w
            obtain ⟨s110, w⟩ := w
            refine X_lald (show decode cL_law 639 = .ok (.laload, 1) by decide +kernel) (isA_eq s109) s110 ?_
            refine X_iload (j := 7) (show decode cL_law 640 = .ok (.iload 7, 2) by decide +kernel) rfl ?_
            refine X_if_eq (tgt := 649) (show decode cL_law 642 = .ok (.ifCond .eq 7, 3) by decide +kernel) (by decide) ⟨fun c111 => ?_, fun c111 => ?_⟩
            · have w := w.1 c111
              refine X_lconst (v := 0) (show decode cL_law 649 = .ok (.lconst 0, 1) by decide +kernel) (by decide) ?_
              refine X_room (rc' := 0) (rs' := 0) (by omega) (by omega) ?_
              refine X_pick (ls' := [(0, .ref _), (1, .ref _), (2, .ref _), (3, .ref _), (4, .ref _), (5, .int _)]) [0, 1, 2, 3, 4, 5] rfl ?_
              exact kL_law_J650 ih _ _ _ _ _ _ _ _ _ w
            · have w := w.2 c111
              refine X_lconst (v := 1) (show decode cL_law 645 = .ok (.lconst 1, 1) by decide +kernel) (by decide) ?_
              refine X_goto (tgt := 650) (show decode cL_law 646 = .ok (.goto 4, 3) by decide +kernel) (by decide) ?_
              refine X_room (rc' := 0) (rs' := 0) (by omega) (by omega) ?_
              refine X_pick (ls' := [(0, .ref _), (1, .ref _), (2, .ref _), (3, .ref _), (4, .ref _), (5, .int _)]) [0, 1, 2, 3, 4, 5] rfl ?_
              exact kL_law_J650 ih _ _ _ _ _ _ _ _ _ w
        · have w := w.2 c107
          refine X_iconst (v := 0) (show decode cL_law 630 = .ok (.iconst 0, 1) by decide +kernel) (by decide) ?_
          exact X_iret ⟨(show decode cL_law 631 = .ok (.ireturn, 1) by decide +kernel), .boolean, rfl, (by decide)⟩ ⟨_, rfl, w⟩
      by_cases z6 : (mI h x0 x5.toNatClampNeg &&& 63) = 6
      · have w := w.2.2.2.2.2.2.1 z6
        refine X_tableIn (tgt := 659) (show decode cL_law 44 = .ok (.tableswitch 2881 0 54 #[236, 292, 372, 440, 496, 552, 615, 683, 739, 795, 851, 864, 920, 976, 1032, 1095, 1151, 1219, 1287, 1367, 1435, 1448, 1473, 1529, 1585, 1648, 1711, 1767, 1823, 1879, 1935, 1991, 2066, 2079, 2092, 2167, 2180, 2193, 2237, 2281, 2294, 2307, 2321, 2386, 2452, 2465, 2478, 2534, 2590, 2648, 2692, 2736, 2780, 2824, 2837], 236) by decide +kernel) (by rw [z6]; decide) (by rw [z6]; decide) (by rw [z6]; rfl) (by decide) ?_
        refine X_aload_n (j := 1) (show decode cL_law 659 = .ok (.aload_n 1, 1) by decide +kernel) rfl rfl ?_
        refine X_aload_n (j := 0) (show decode cL_law 660 = .ok (.aload_n 0, 1) by decide +kernel) rfl rfl ?_
        refine X_iload (j := 5) (show decode cL_law 661 = .ok (.iload 5, 2) by decide +kernel) rfl ?_
        refine X_iconst (v := 1) (show decode cL_law 663 = .ok (.iconst 1, 1) by decide +kernel) (by decide) ?_
        refine X_iadd (show decode cL_law 664 = .ok (.iadd, 1) by decide +kernel) ?_
        obtain ⟨s115, w⟩ := w
        refine X_iald (show decode cL_law 665 = .ok (.iaload, 1) by decide +kernel) (isA_eq s9) s115 ?_
        refine X_aload_n (j := 0) (show decode cL_law 666 = .ok (.aload_n 0, 1) by decide +kernel) rfl rfl ?_
        refine X_iload (j := 5) (show decode cL_law 667 = .ok (.iload 5, 2) by decide +kernel) rfl ?_
        refine X_iconst (v := 2) (show decode cL_law 669 = .ok (.iconst 2, 1) by decide +kernel) (by decide) ?_
        refine X_iadd (show decode cL_law 670 = .ok (.iadd, 1) by decide +kernel) ?_
        obtain ⟨s116, w⟩ := w
        refine X_iald (show decode cL_law 671 = .ok (.iaload, 1) by decide +kernel) (isA_eq s9) s116 ?_
        refine X_aload_n (j := 3) (show decode cL_law 672 = .ok (.aload_n 3, 1) by decide +kernel) rfl rfl ?_
        refine X_sI (rc' := (n * 33 + 65)) (rs' := (n * 8198 + 16390)) (as := [.ref _, .int _, .int _, .ref _]) ms_L_188 (show decode cL_law 673 = .ok (.invokestatic 188, 3) by decide +kernel) (by decide) (by omega) (by omega) rfl rfl (Nat.le_of_ble_eq_true rfl) (kL_addTrain w) (fun E h hk => hk.elim) (fun r118 h117 w => ?_)
        refine X_istore (ls' := [(0, .ref _), (1, .ref _), (2, .ref _), (3, .ref _), (4, .ref _), (5, .int _), (6, .int _)]) (show decode cL_law 676 = .ok (.istore 6, 2) by decide +kernel) (by decide) rfl ?_
        refine X_aload_n (j := 2) (show decode cL_law 678 = .ok (.aload_n 2, 1) by decide +kernel) rfl rfl ?_
        refine X_aload_n (j := 0) (show decode cL_law 679 = .ok (.aload_n 0, 1) by decide +kernel) rfl rfl ?_
        refine X_iload (j := 5) (show decode cL_law 680 = .ok (.iload 5, 2) by decide +kernel) rfl ?_
        refine X_iconst (v := 1) (show decode cL_law 682 = .ok (.iconst 1, 1) by decide +kernel) (by decide) ?_
        refine X_iadd (show decode cL_law 683 = .ok (.iadd, 1) by decide +kernel) ?_
        obtain ⟨s119, w⟩ := w
        obtain ⟨s120, w⟩ := w
        refine X_iald (show decode cL_law 684 = .ok (.iaload, 1) by decide +kernel) (isA_eq s119) s120 ?_
        refine X_aload_n (j := 0) (show decode cL_law 685 = .ok (.aload_n 0, 1) by decide +kernel) rfl rfl ?_
        refine X_iload (j := 5) (show decode cL_law 686 = .ok (.iload 5, 2) by decide +kernel) rfl ?_
        refine X_iconst (v := 2) (show decode cL_law 688 = .ok (.iconst 2, 1) by decide +kernel) (by decide) ?_
        refine X_iadd (show decode cL_law 689 = .ok (.iadd, 1) by decide +kernel) ?_
        obtain ⟨s121, w⟩ := w
        refine X_iald (show decode cL_law 690 = .ok (.iaload, 1) by decide +kernel) (isA_eq s119) s121 ?_
        obtain ⟨s132, w⟩ := w
        refine X_vI (rc' := (n * 33 + 65)) (rs' := (n * 8198 + 16390)) (as := [.int _, .int _]) mv_L_190 (show decode cL_law 691 = .ok (.invokevirtual 190, 3) by decide +kernel) (by decide) (by omega) (by omega) rfl rfl (Nat.le_of_ble_eq_true rfl) (rcvD s132 (by decide) rfl) (kX10_addTrain w) (fun E h hk => hk.elim) (fun r123 h122 w => ?_)
        refine X_istore (ls' := [(0, .ref _), (1, .ref _), (2, .ref _), (3, .ref _), (4, .ref _), (5, .int _), (6, .int _), (7, .int _)]) (show decode cL_law 694 = .ok (.istore 7, 2) by decide +kernel) (by decide) rfl ?_
        refine X_aload_n (j := 2) (show decode cL_law 696 = .ok (.aload_n 2, 1) by decide +kernel) rfl rfl ?_
        obtain ⟨s131, w⟩ := w
        refine X_vI (rc' := (n * 33 + 65)) (rs' := (n * 8198 + 16390)) (as := []) mv_L_168 (show decode cL_law 697 = .ok (.invokevirtual 168, 3) by decide +kernel) (by decide) (by omega) (by omega) rfl rfl (Nat.le_of_ble_eq_true rfl) (rcvD s131 (by decide) rfl) (kX10_thrown w) (fun E h hk => hk.elim) (fun r125 h124 w => ?_)
        refine X_iload (j := 6) (show decode cL_law 700 = .ok (.iload 6, 2) by decide +kernel) rfl ?_
        refine X_icmp_eq (tgt := 707) (show decode cL_law 702 = .ok (.if_icmp .eq 5, 3) by decide +kernel) (by decide) ⟨fun c126 => ?_, fun c126 => ?_⟩
        · have w := w.1 c126
          refine X_iload (j := 6) (show decode cL_law 707 = .ok (.iload 6, 2) by decide +kernel) rfl ?_
          refine X_if_ne (tgt := 724) (show decode cL_law 709 = .ok (.ifCond .ne 15, 3) by decide +kernel) (by decide) ⟨fun c127 => ?_, fun c127 => ?_⟩
          · have w := w.1 c127
            refine X_goto (tgt := 2925) (show decode cL_law 724 = .ok (.goto 2201, 3) by decide +kernel) (by decide) ?_
            refine X_iinc (j := 5) (v := _ + 4) (ls' := [(0, .ref _), (1, .ref _), (2, .ref _), (3, .ref _), (4, .ref _), (5, .int _), (6, .int _), (7, .int _)]) (show decode cL_law 2925 = .ok (.iinc 5 4, 3) by decide +kernel) rfl rfl (Nat.le_of_ble_eq_true rfl) rfl ?_
            refine X_goto (tgt := 28) (show decode cL_law 2928 = .ok (.goto (-2900), 3) by decide +kernel) (by decide) ?_
            refine X_room (rc' := (n * 33 + 33)) (rs' := (n * 8198 + 8198)) (by omega) (by omega) ?_
            refine X_pick (ls' := [(0, .ref _), (1, .ref _), (2, .ref _), (3, .ref _), (4, .ref _), (5, .int _)]) [0, 1, 2, 3, 4, 5] rfl ?_
            exact ih _ _ _ _ _ _ _ w
          · have w := w.2 c127
            refine X_aload_n (j := 3) (show decode cL_law 712 = .ok (.aload_n 3, 1) by decide +kernel) rfl rfl ?_
            refine X_iconst (v := 0) (show decode cL_law 713 = .ok (.iconst 0, 1) by decide +kernel) (by decide) ?_
            obtain ⟨s128, w⟩ := w
            obtain ⟨s129, w⟩ := w
            refine X_lald (show decode cL_law 714 = .ok (.laload, 1) by decide +kernel) (isA_eq s128) s129 ?_
            refine X_iload (j := 7) (show decode cL_law 715 = .ok (.iload 7, 2) by decide +kernel) rfl ?_
            refine X_i2l (show decode cL_law 717 = .ok (.i2l, 1) by decide +kernel) ?_
            refine X_lcmp (show decode cL_law 718 = .ok (.lcmp, 1) by decide +kernel) ?_
            refine X_if_eq (tgt := 724) (show decode cL_law 719 = .ok (.ifCond .eq 5, 3) by decide +kernel) (by decide) ⟨fun c130 => ?_, fun c130 => ?_⟩
            · have w := w.1 c130
              refine X_goto (tgt := 2925) (show decode cL_law 724 = .ok (.goto 2201, 3) by decide +kernel) (by decide) ?_
              refine X_iinc (j := 5) (v := _ + 4) (ls' := [(0, .ref _), (1, .ref _), (2, .ref _), (3, .ref _), (4, .ref _), (5, .int _), (6, .int _), (7, .int _)]) (show decode cL_law 2925 = .ok (.iinc 5 4, 3) by decide +kernel) rfl rfl (Nat.le_of_ble_eq_true rfl) rfl ?_
              refine X_goto (tgt := 28) (show decode cL_law 2928 = .ok (.goto (-2900), 3) by decide +kernel) (by decide) ?_
              refine X_room (rc' := (n * 33 + 33)) (rs' := (n * 8198 + 8198)) (by omega) (by omega) ?_
              refine X_pick (ls' := [(0, .ref _), (1, .ref _), (2, .ref _), (3, .ref _), (4, .ref _), (5, .int _)]) [0, 1, 2, 3, 4, 5] rfl ?_
              exact ih _ _ _ _ _ _ _ w
            · have w := w.2 c130
              refine X_iconst (v := 0) (show decode cL_law 722 = .ok (.iconst 0, 1) by decide +kernel) (by decide) ?_
              exact X_iret ⟨(show decode cL_law 723 = .ok (.ireturn, 1) by decide +kernel), .boolean, rfl, (by decide)⟩ ⟨_, rfl, w⟩
        · have w := w.2 c126
          refine X_iconst (v := 0) (show decode cL_law 705 = .ok (.iconst 0, 1) by decide +kernel) (by decide) ?_
          exact X_iret ⟨(show decode cL_law 706 = .ok (.ireturn, 1) by decide +kernel), .boolean, rfl, (by decide)⟩ ⟨_, rfl, w⟩
      by_cases z7 : (mI h x0 x5.toNatClampNeg &&& 63) = 7
      · have w := w.2.2.2.2.2.2.2.1 z7
        refine X_tableIn (tgt := 727) (show decode cL_law 44 = .ok (.tableswitch 2881 0 54 #[236, 292, 372, 440, 496, 552, 615, 683, 739, 795, 851, 864, 920, 976, 1032, 1095, 1151, 1219, 1287, 1367, 1435, 1448, 1473, 1529, 1585, 1648, 1711, 1767, 1823, 1879, 1935, 1991, 2066, 2079, 2092, 2167, 2180, 2193, 2237, 2281, 2294, 2307, 2321, 2386, 2452, 2465, 2478, 2534, 2590, 2648, 2692, 2736, 2780, 2824, 2837], 236) by decide +kernel) (by rw [z7]; decide) (by rw [z7]; decide) (by rw [z7]; rfl) (by decide) ?_
        refine X_aload_n (j := 1) (show decode cL_law 727 = .ok (.aload_n 1, 1) by decide +kernel) rfl rfl ?_
        refine X_aload_n (j := 0) (show decode cL_law 728 = .ok (.aload_n 0, 1) by decide +kernel) rfl rfl ?_
        refine X_iload (j := 5) (show decode cL_law 729 = .ok (.iload 5, 2) by decide +kernel) rfl ?_
        refine X_iconst (v := 1) (show decode cL_law 731 = .ok (.iconst 1, 1) by decide +kernel) (by decide) ?_
        refine X_iadd (show decode cL_law 732 = .ok (.iadd, 1) by decide +kernel) ?_
        obtain ⟨s133, w⟩ := w
        refine X_iald (show decode cL_law 733 = .ok (.iaload, 1) by decide +kernel) (isA_eq s9) s133 ?_
        refine X_aload_n (j := 3) (show decode cL_law 734 = .ok (.aload_n 3, 1) by decide +kernel) rfl rfl ?_
        refine X_sI (rc' := (n * 33 + 65)) (rs' := (n * 8198 + 16390)) (as := [.ref _, .int _, .ref _]) ms_L_191 (show decode cL_law 735 = .ok (.invokestatic 191, 3) by decide +kernel) (by decide) (by omega) (by omega) rfl rfl (Nat.le_of_ble_eq_true rfl) (kL_setRoute w) (fun E h hk => hk.elim) (fun r135 h134 w => ?_)
        refine X_istore (ls' := [(0, .ref _), (1, .ref _), (2, .ref _), (3, .ref _), (4, .ref _), (5, .int _), (6, .int _)]) (show decode cL_law 738 = .ok (.istore 6, 2) by decide +kernel) (by decide) rfl ?_
        refine X_aload_n (j := 2) (show decode cL_law 740 = .ok (.aload_n 2, 1) by decide +kernel) rfl rfl ?_
        refine X_aload_n (j := 0) (show decode cL_law 741 = .ok (.aload_n 0, 1) by decide +kernel) rfl rfl ?_
        refine X_iload (j := 5) (show decode cL_law 742 = .ok (.iload 5, 2) by decide +kernel) rfl ?_
        refine X_iconst (v := 1) (show decode cL_law 744 = .ok (.iconst 1, 1) by decide +kernel) (by decide) ?_
        refine X_iadd (show decode cL_law 745 = .ok (.iadd, 1) by decide +kernel) ?_
        obtain ⟨s136, w⟩ := w
        obtain ⟨s137, w⟩ := w
        refine X_iald (show decode cL_law 746 = .ok (.iaload, 1) by decide +kernel) (isA_eq s136) s137 ?_
        obtain ⟨s148, w⟩ := w
        refine X_vI (rc' := (n * 33 + 65)) (rs' := (n * 8198 + 16390)) (as := [.int _]) mv_L_193 (show decode cL_law 747 = .ok (.invokevirtual 193, 3) by decide +kernel) (by decide) (by omega) (by omega) rfl rfl (Nat.le_of_ble_eq_true rfl) (rcvD s148 (by decide) rfl) (kX10_setRoute w) (fun E h hk => hk.elim) (fun r139 h138 w => ?_)
        refine X_istore (ls' := [(0, .ref _), (1, .ref _), (2, .ref _), (3, .ref _), (4, .ref _), (5, .int _), (6, .int _), (7, .int _)]) (show decode cL_law 750 = .ok (.istore 7, 2) by decide +kernel) (by decide) rfl ?_
        refine X_aload_n (j := 2) (show decode cL_law 752 = .ok (.aload_n 2, 1) by decide +kernel) rfl rfl ?_
        obtain ⟨s147, w⟩ := w
        refine X_vI (rc' := (n * 33 + 65)) (rs' := (n * 8198 + 16390)) (as := []) mv_L_168 (show decode cL_law 753 = .ok (.invokevirtual 168, 3) by decide +kernel) (by decide) (by omega) (by omega) rfl rfl (Nat.le_of_ble_eq_true rfl) (rcvD s147 (by decide) rfl) (kX10_thrown w) (fun E h hk => hk.elim) (fun r141 h140 w => ?_)
        refine X_iload (j := 6) (show decode cL_law 756 = .ok (.iload 6, 2) by decide +kernel) rfl ?_
        refine X_icmp_eq (tgt := 763) (show decode cL_law 758 = .ok (.if_icmp .eq 5, 3) by decide +kernel) (by decide) ⟨fun c142 => ?_, fun c142 => ?_⟩
        · have w := w.1 c142
          refine X_iload (j := 6) (show decode cL_law 763 = .ok (.iload 6, 2) by decide +kernel) rfl ?_
          refine X_if_ne (tgt := 780) (show decode cL_law 765 = .ok (.ifCond .ne 15, 3) by decide +kernel) (by decide) ⟨fun c143 => ?_, fun c143 => ?_⟩
          · have w := w.1 c143
            refine X_goto (tgt := 2925) (show decode cL_law 780 = .ok (.goto 2145, 3) by decide +kernel) (by decide) ?_
            refine X_iinc (j := 5) (v := _ + 4) (ls' := [(0, .ref _), (1, .ref _), (2, .ref _), (3, .ref _), (4, .ref _), (5, .int _), (6, .int _), (7, .int _)]) (show decode cL_law 2925 = .ok (.iinc 5 4, 3) by decide +kernel) rfl rfl (Nat.le_of_ble_eq_true rfl) rfl ?_
            refine X_goto (tgt := 28) (show decode cL_law 2928 = .ok (.goto (-2900), 3) by decide +kernel) (by decide) ?_
            refine X_room (rc' := (n * 33 + 33)) (rs' := (n * 8198 + 8198)) (by omega) (by omega) ?_
            refine X_pick (ls' := [(0, .ref _), (1, .ref _), (2, .ref _), (3, .ref _), (4, .ref _), (5, .int _)]) [0, 1, 2, 3, 4, 5] rfl ?_
            exact ih _ _ _ _ _ _ _ w
          · have w := w.2 c143
            refine X_aload_n (j := 3) (show decode cL_law 768 = .ok (.aload_n 3, 1) by decide +kernel) rfl rfl ?_
            refine X_iconst (v := 0) (show decode cL_law 769 = .ok (.iconst 0, 1) by decide +kernel) (by decide) ?_
            obtain ⟨s144, w⟩ := w
            obtain ⟨s145, w⟩ := w
            refine X_lald (show decode cL_law 770 = .ok (.laload, 1) by decide +kernel) (isA_eq s144) s145 ?_
            refine X_iload (j := 7) (show decode cL_law 771 = .ok (.iload 7, 2) by decide +kernel) rfl ?_
            refine X_i2l (show decode cL_law 773 = .ok (.i2l, 1) by decide +kernel) ?_
            refine X_lcmp (show decode cL_law 774 = .ok (.lcmp, 1) by decide +kernel) ?_
            refine X_if_eq (tgt := 780) (show decode cL_law 775 = .ok (.ifCond .eq 5, 3) by decide +kernel) (by decide) ⟨fun c146 => ?_, fun c146 => ?_⟩
            · have w := w.1 c146
              refine X_goto (tgt := 2925) (show decode cL_law 780 = .ok (.goto 2145, 3) by decide +kernel) (by decide) ?_
              refine X_iinc (j := 5) (v := _ + 4) (ls' := [(0, .ref _), (1, .ref _), (2, .ref _), (3, .ref _), (4, .ref _), (5, .int _), (6, .int _), (7, .int _)]) (show decode cL_law 2925 = .ok (.iinc 5 4, 3) by decide +kernel) rfl rfl (Nat.le_of_ble_eq_true rfl) rfl ?_
              refine X_goto (tgt := 28) (show decode cL_law 2928 = .ok (.goto (-2900), 3) by decide +kernel) (by decide) ?_
              refine X_room (rc' := (n * 33 + 33)) (rs' := (n * 8198 + 8198)) (by omega) (by omega) ?_
              refine X_pick (ls' := [(0, .ref _), (1, .ref _), (2, .ref _), (3, .ref _), (4, .ref _), (5, .int _)]) [0, 1, 2, 3, 4, 5] rfl ?_
              exact ih _ _ _ _ _ _ _ w
            · have w := w.2 c146
              refine X_iconst (v := 0) (show decode cL_law 778 = .ok (.iconst 0, 1) by decide +kernel) (by decide) ?_
              exact X_iret ⟨(show decode cL_law 779 = .ok (.ireturn, 1) by decide +kernel), .boolean, rfl, (by decide)⟩ ⟨_, rfl, w⟩
        · have w := w.2 c142
          refine X_iconst (v := 0) (show decode cL_law 761 = .ok (.iconst 0, 1) by decide +kernel) (by decide) ?_
          exact X_iret ⟨(show decode cL_law 762 = .ok (.ireturn, 1) by decide +kernel), .boolean, rfl, (by decide)⟩ ⟨_, rfl, w⟩
      by_cases z8 : (mI h x0 x5.toNatClampNeg &&& 63) = 8
      · have w := w.2.2.2.2.2.2.2.2.1 z8
        refine X_tableIn (tgt := 783) (show decode cL_law 44 = .ok (.tableswitch 2881 0 54 #[236, 292, 372, 440, 496, 552, 615, 683, 739, 795, 851, 864, 920, 976, 1032, 1095, 1151, 1219, 1287, 1367, 1435, 1448, 1473, 1529, 1585, 1648, 1711, 1767, 1823, 1879, 1935, 1991, 2066, 2079, 2092, 2167, 2180, 2193, 2237, 2281, 2294, 2307, 2321, 2386, 2452, 2465, 2478, 2534, 2590, 2648, 2692, 2736, 2780, 2824, 2837], 236) by decide +kernel) (by rw [z8]; decide) (by rw [z8]; decide) (by rw [z8]; rfl) (by decide) ?_
        refine X_aload_n (j := 1) (show decode cL_law 783 = .ok (.aload_n 1, 1) by decide +kernel) rfl rfl ?_
        refine X_aload_n (j := 0) (show decode cL_law 784 = .ok (.aload_n 0, 1) by decide +kernel) rfl rfl ?_
        refine X_iload (j := 5) (show decode cL_law 785 = .ok (.iload 5, 2) by decide +kernel) rfl ?_
        refine X_iconst (v := 1) (show decode cL_law 787 = .ok (.iconst 1, 1) by decide +kernel) (by decide) ?_
        refine X_iadd (show decode cL_law 788 = .ok (.iadd, 1) by decide +kernel) ?_
        obtain ⟨s149, w⟩ := w
        refine X_iald (show decode cL_law 789 = .ok (.iaload, 1) by decide +kernel) (isA_eq s9) s149 ?_
        refine X_aload_n (j := 3) (show decode cL_law 790 = .ok (.aload_n 3, 1) by decide +kernel) rfl rfl ?_
        refine X_sI (rc' := (n * 33 + 65)) (rs' := (n * 8198 + 16390)) (as := [.ref _, .int _, .ref _]) ms_L_194 (show decode cL_law 791 = .ok (.invokestatic 194, 3) by decide +kernel) (by decide) (by omega) (by omega) rfl rfl (Nat.le_of_ble_eq_true rfl) (kL_releaseRoute w) (fun E h hk => hk.elim) (fun r151 h150 w => ?_)
        refine X_istore (ls' := [(0, .ref _), (1, .ref _), (2, .ref _), (3, .ref _), (4, .ref _), (5, .int _), (6, .int _)]) (show decode cL_law 794 = .ok (.istore 6, 2) by decide +kernel) (by decide) rfl ?_
        refine X_aload_n (j := 2) (show decode cL_law 796 = .ok (.aload_n 2, 1) by decide +kernel) rfl rfl ?_
        refine X_aload_n (j := 0) (show decode cL_law 797 = .ok (.aload_n 0, 1) by decide +kernel) rfl rfl ?_
        refine X_iload (j := 5) (show decode cL_law 798 = .ok (.iload 5, 2) by decide +kernel) rfl ?_
        refine X_iconst (v := 1) (show decode cL_law 800 = .ok (.iconst 1, 1) by decide +kernel) (by decide) ?_
        refine X_iadd (show decode cL_law 801 = .ok (.iadd, 1) by decide +kernel) ?_
        obtain ⟨s152, w⟩ := w
        obtain ⟨s153, w⟩ := w
        refine X_iald (show decode cL_law 802 = .ok (.iaload, 1) by decide +kernel) (isA_eq s152) s153 ?_
        obtain ⟨s164, w⟩ := w
        refine X_vI (rc' := (n * 33 + 65)) (rs' := (n * 8198 + 16390)) (as := [.int _]) mv_L_196 (show decode cL_law 803 = .ok (.invokevirtual 196, 3) by decide +kernel) (by decide) (by omega) (by omega) rfl rfl (Nat.le_of_ble_eq_true rfl) (rcvD s164 (by decide) rfl) (kX10_releaseRoute w) (fun E h hk => hk.elim) (fun r155 h154 w => ?_)
        refine X_istore (ls' := [(0, .ref _), (1, .ref _), (2, .ref _), (3, .ref _), (4, .ref _), (5, .int _), (6, .int _), (7, .int _)]) (show decode cL_law 806 = .ok (.istore 7, 2) by decide +kernel) (by decide) rfl ?_
        refine X_aload_n (j := 2) (show decode cL_law 808 = .ok (.aload_n 2, 1) by decide +kernel) rfl rfl ?_
        obtain ⟨s163, w⟩ := w
        refine X_vI (rc' := (n * 33 + 65)) (rs' := (n * 8198 + 16390)) (as := []) mv_L_168 (show decode cL_law 809 = .ok (.invokevirtual 168, 3) by decide +kernel) (by decide) (by omega) (by omega) rfl rfl (Nat.le_of_ble_eq_true rfl) (rcvD s163 (by decide) rfl) (kX10_thrown w) (fun E h hk => hk.elim) (fun r157 h156 w => ?_)
        refine X_iload (j := 6) (show decode cL_law 812 = .ok (.iload 6, 2) by decide +kernel) rfl ?_
        refine X_icmp_eq (tgt := 819) (show decode cL_law 814 = .ok (.if_icmp .eq 5, 3) by decide +kernel) (by decide) ⟨fun c158 => ?_, fun c158 => ?_⟩
        · have w := w.1 c158
          refine X_iload (j := 6) (show decode cL_law 819 = .ok (.iload 6, 2) by decide +kernel) rfl ?_
          refine X_if_ne (tgt := 836) (show decode cL_law 821 = .ok (.ifCond .ne 15, 3) by decide +kernel) (by decide) ⟨fun c159 => ?_, fun c159 => ?_⟩
          · have w := w.1 c159
            refine X_goto (tgt := 2925) (show decode cL_law 836 = .ok (.goto 2089, 3) by decide +kernel) (by decide) ?_
            refine X_iinc (j := 5) (v := _ + 4) (ls' := [(0, .ref _), (1, .ref _), (2, .ref _), (3, .ref _), (4, .ref _), (5, .int _), (6, .int _), (7, .int _)]) (show decode cL_law 2925 = .ok (.iinc 5 4, 3) by decide +kernel) rfl rfl (Nat.le_of_ble_eq_true rfl) rfl ?_
            refine X_goto (tgt := 28) (show decode cL_law 2928 = .ok (.goto (-2900), 3) by decide +kernel) (by decide) ?_
            refine X_room (rc' := (n * 33 + 33)) (rs' := (n * 8198 + 8198)) (by omega) (by omega) ?_
            refine X_pick (ls' := [(0, .ref _), (1, .ref _), (2, .ref _), (3, .ref _), (4, .ref _), (5, .int _)]) [0, 1, 2, 3, 4, 5] rfl ?_
            exact ih _ _ _ _ _ _ _ w
          · have w := w.2 c159
            refine X_aload_n (j := 3) (show decode cL_law 824 = .ok (.aload_n 3, 1) by decide +kernel) rfl rfl ?_
            refine X_iconst (v := 0) (show decode cL_law 825 = .ok (.iconst 0, 1) by decide +kernel) (by decide) ?_
            obtain ⟨s160, w⟩ := w
            obtain ⟨s161, w⟩ := w
            refine X_lald (show decode cL_law 826 = .ok (.laload, 1) by decide +kernel) (isA_eq s160) s161 ?_
            refine X_iload (j := 7) (show decode cL_law 827 = .ok (.iload 7, 2) by decide +kernel) rfl ?_
            refine X_i2l (show decode cL_law 829 = .ok (.i2l, 1) by decide +kernel) ?_
            refine X_lcmp (show decode cL_law 830 = .ok (.lcmp, 1) by decide +kernel) ?_
            refine X_if_eq (tgt := 836) (show decode cL_law 831 = .ok (.ifCond .eq 5, 3) by decide +kernel) (by decide) ⟨fun c162 => ?_, fun c162 => ?_⟩
            · have w := w.1 c162
              refine X_goto (tgt := 2925) (show decode cL_law 836 = .ok (.goto 2089, 3) by decide +kernel) (by decide) ?_
              refine X_iinc (j := 5) (v := _ + 4) (ls' := [(0, .ref _), (1, .ref _), (2, .ref _), (3, .ref _), (4, .ref _), (5, .int _), (6, .int _), (7, .int _)]) (show decode cL_law 2925 = .ok (.iinc 5 4, 3) by decide +kernel) rfl rfl (Nat.le_of_ble_eq_true rfl) rfl ?_
              refine X_goto (tgt := 28) (show decode cL_law 2928 = .ok (.goto (-2900), 3) by decide +kernel) (by decide) ?_
              refine X_room (rc' := (n * 33 + 33)) (rs' := (n * 8198 + 8198)) (by omega) (by omega) ?_
              refine X_pick (ls' := [(0, .ref _), (1, .ref _), (2, .ref _), (3, .ref _), (4, .ref _), (5, .int _)]) [0, 1, 2, 3, 4, 5] rfl ?_
              exact ih _ _ _ _ _ _ _ w
            · have w := w.2 c162
              refine X_iconst (v := 0) (show decode cL_law 834 = .ok (.iconst 0, 1) by decide +kernel) (by decide) ?_
              exact X_iret ⟨(show decode cL_law 835 = .ok (.ireturn, 1) by decide +kernel), .boolean, rfl, (by decide)⟩ ⟨_, rfl, w⟩
        · have w := w.2 c158
          refine X_iconst (v := 0) (show decode cL_law 817 = .ok (.iconst 0, 1) by decide +kernel) (by decide) ?_
          exact X_iret ⟨(show decode cL_law 818 = .ok (.ireturn, 1) by decide +kernel), .boolean, rfl, (by decide)⟩ ⟨_, rfl, w⟩
      by_cases z9 : (mI h x0 x5.toNatClampNeg &&& 63) = 9
      · have w := w.2.2.2.2.2.2.2.2.2.1 z9
        refine X_tableIn (tgt := 839) (show decode cL_law 44 = .ok (.tableswitch 2881 0 54 #[236, 292, 372, 440, 496, 552, 615, 683, 739, 795, 851, 864, 920, 976, 1032, 1095, 1151, 1219, 1287, 1367, 1435, 1448, 1473, 1529, 1585, 1648, 1711, 1767, 1823, 1879, 1935, 1991, 2066, 2079, 2092, 2167, 2180, 2193, 2237, 2281, 2294, 2307, 2321, 2386, 2452, 2465, 2478, 2534, 2590, 2648, 2692, 2736, 2780, 2824, 2837], 236) by decide +kernel) (by rw [z9]; decide) (by rw [z9]; decide) (by rw [z9]; rfl) (by decide) ?_
        refine X_aload_n (j := 1) (show decode cL_law 839 = .ok (.aload_n 1, 1) by decide +kernel) rfl rfl ?_
        refine X_aload_n (j := 0) (show decode cL_law 840 = .ok (.aload_n 0, 1) by decide +kernel) rfl rfl ?_
        refine X_iload (j := 5) (show decode cL_law 841 = .ok (.iload 5, 2) by decide +kernel) rfl ?_
        refine X_iconst (v := 1) (show decode cL_law 843 = .ok (.iconst 1, 1) by decide +kernel) (by decide) ?_
        refine X_iadd (show decode cL_law 844 = .ok (.iadd, 1) by decide +kernel) ?_
        obtain ⟨s165, w⟩ := w
        refine X_iald (show decode cL_law 845 = .ok (.iaload, 1) by decide +kernel) (isA_eq s9) s165 ?_
        refine X_aload_n (j := 3) (show decode cL_law 846 = .ok (.aload_n 3, 1) by decide +kernel) rfl rfl ?_
        refine X_sI (rc' := (n * 33 + 65)) (rs' := (n * 8198 + 16390)) (as := [.ref _, .int _, .ref _]) ms_L_197 (show decode cL_law 847 = .ok (.invokestatic 197, 3) by decide +kernel) (by decide) (by omega) (by omega) rfl rfl (Nat.le_of_ble_eq_true rfl) (kL_pass w) (fun E h hk => hk.elim) (fun r167 h166 w => ?_)
        refine X_istore (ls' := [(0, .ref _), (1, .ref _), (2, .ref _), (3, .ref _), (4, .ref _), (5, .int _), (6, .int _)]) (show decode cL_law 850 = .ok (.istore 6, 2) by decide +kernel) (by decide) rfl ?_
        refine X_aload_n (j := 2) (show decode cL_law 852 = .ok (.aload_n 2, 1) by decide +kernel) rfl rfl ?_
        refine X_aload_n (j := 0) (show decode cL_law 853 = .ok (.aload_n 0, 1) by decide +kernel) rfl rfl ?_
        refine X_iload (j := 5) (show decode cL_law 854 = .ok (.iload 5, 2) by decide +kernel) rfl ?_
        refine X_iconst (v := 1) (show decode cL_law 856 = .ok (.iconst 1, 1) by decide +kernel) (by decide) ?_
        refine X_iadd (show decode cL_law 857 = .ok (.iadd, 1) by decide +kernel) ?_
        obtain ⟨s168, w⟩ := w
        obtain ⟨s169, w⟩ := w
        refine X_iald (show decode cL_law 858 = .ok (.iaload, 1) by decide +kernel) (isA_eq s168) s169 ?_
        obtain ⟨s180, w⟩ := w
        refine X_vI (rc' := (n * 33 + 65)) (rs' := (n * 8198 + 16390)) (as := [.int _]) mv_L_199 (show decode cL_law 859 = .ok (.invokevirtual 199, 3) by decide +kernel) (by decide) (by omega) (by omega) rfl rfl (Nat.le_of_ble_eq_true rfl) (rcvD s180 (by decide) rfl) (kX10_pass w) (fun E h hk => hk.elim) (fun r171 h170 w => ?_)
        refine X_istore (ls' := [(0, .ref _), (1, .ref _), (2, .ref _), (3, .ref _), (4, .ref _), (5, .int _), (6, .int _), (7, .int _)]) (show decode cL_law 862 = .ok (.istore 7, 2) by decide +kernel) (by decide) rfl ?_
        refine X_aload_n (j := 2) (show decode cL_law 864 = .ok (.aload_n 2, 1) by decide +kernel) rfl rfl ?_
        obtain ⟨s179, w⟩ := w
        refine X_vI (rc' := (n * 33 + 65)) (rs' := (n * 8198 + 16390)) (as := []) mv_L_168 (show decode cL_law 865 = .ok (.invokevirtual 168, 3) by decide +kernel) (by decide) (by omega) (by omega) rfl rfl (Nat.le_of_ble_eq_true rfl) (rcvD s179 (by decide) rfl) (kX10_thrown w) (fun E h hk => hk.elim) (fun r173 h172 w => ?_)
        refine X_iload (j := 6) (show decode cL_law 868 = .ok (.iload 6, 2) by decide +kernel) rfl ?_
        refine X_icmp_eq (tgt := 875) (show decode cL_law 870 = .ok (.if_icmp .eq 5, 3) by decide +kernel) (by decide) ⟨fun c174 => ?_, fun c174 => ?_⟩
        · have w := w.1 c174
          refine X_iload (j := 6) (show decode cL_law 875 = .ok (.iload 6, 2) by decide +kernel) rfl ?_
          refine X_if_ne (tgt := 892) (show decode cL_law 877 = .ok (.ifCond .ne 15, 3) by decide +kernel) (by decide) ⟨fun c175 => ?_, fun c175 => ?_⟩
          · have w := w.1 c175
            refine X_goto (tgt := 2925) (show decode cL_law 892 = .ok (.goto 2033, 3) by decide +kernel) (by decide) ?_
            refine X_iinc (j := 5) (v := _ + 4) (ls' := [(0, .ref _), (1, .ref _), (2, .ref _), (3, .ref _), (4, .ref _), (5, .int _), (6, .int _), (7, .int _)]) (show decode cL_law 2925 = .ok (.iinc 5 4, 3) by decide +kernel) rfl rfl (Nat.le_of_ble_eq_true rfl) rfl ?_
            refine X_goto (tgt := 28) (show decode cL_law 2928 = .ok (.goto (-2900), 3) by decide +kernel) (by decide) ?_
            refine X_room (rc' := (n * 33 + 33)) (rs' := (n * 8198 + 8198)) (by omega) (by omega) ?_
            refine X_pick (ls' := [(0, .ref _), (1, .ref _), (2, .ref _), (3, .ref _), (4, .ref _), (5, .int _)]) [0, 1, 2, 3, 4, 5] rfl ?_
            exact ih _ _ _ _ _ _ _ w
          · have w := w.2 c175
            refine X_aload_n (j := 3) (show decode cL_law 880 = .ok (.aload_n 3, 1) by decide +kernel) rfl rfl ?_
            refine X_iconst (v := 0) (show decode cL_law 881 = .ok (.iconst 0, 1) by decide +kernel) (by decide) ?_
            obtain ⟨s176, w⟩ := w
            obtain ⟨s177, w⟩ := w
            refine X_lald (show decode cL_law 882 = .ok (.laload, 1) by decide +kernel) (isA_eq s176) s177 ?_
            refine X_iload (j := 7) (show decode cL_law 883 = .ok (.iload 7, 2) by decide +kernel) rfl ?_
            refine X_i2l (show decode cL_law 885 = .ok (.i2l, 1) by decide +kernel) ?_
            refine X_lcmp (show decode cL_law 886 = .ok (.lcmp, 1) by decide +kernel) ?_
            refine X_if_eq (tgt := 892) (show decode cL_law 887 = .ok (.ifCond .eq 5, 3) by decide +kernel) (by decide) ⟨fun c178 => ?_, fun c178 => ?_⟩
            · have w := w.1 c178
              refine X_goto (tgt := 2925) (show decode cL_law 892 = .ok (.goto 2033, 3) by decide +kernel) (by decide) ?_
              refine X_iinc (j := 5) (v := _ + 4) (ls' := [(0, .ref _), (1, .ref _), (2, .ref _), (3, .ref _), (4, .ref _), (5, .int _), (6, .int _), (7, .int _)]) (show decode cL_law 2925 = .ok (.iinc 5 4, 3) by decide +kernel) rfl rfl (Nat.le_of_ble_eq_true rfl) rfl ?_
              refine X_goto (tgt := 28) (show decode cL_law 2928 = .ok (.goto (-2900), 3) by decide +kernel) (by decide) ?_
              refine X_room (rc' := (n * 33 + 33)) (rs' := (n * 8198 + 8198)) (by omega) (by omega) ?_
              refine X_pick (ls' := [(0, .ref _), (1, .ref _), (2, .ref _), (3, .ref _), (4, .ref _), (5, .int _)]) [0, 1, 2, 3, 4, 5] rfl ?_
              exact ih _ _ _ _ _ _ _ w
            · have w := w.2 c178
              refine X_iconst (v := 0) (show decode cL_law 890 = .ok (.iconst 0, 1) by decide +kernel) (by decide) ?_
              exact X_iret ⟨(show decode cL_law 891 = .ok (.ireturn, 1) by decide +kernel), .boolean, rfl, (by decide)⟩ ⟨_, rfl, w⟩
        · have w := w.2 c174
          refine X_iconst (v := 0) (show decode cL_law 873 = .ok (.iconst 0, 1) by decide +kernel) (by decide) ?_
          exact X_iret ⟨(show decode cL_law 874 = .ok (.ireturn, 1) by decide +kernel), .boolean, rfl, (by decide)⟩ ⟨_, rfl, w⟩
      by_cases z10 : (mI h x0 x5.toNatClampNeg &&& 63) = 10
      · have w := w.2.2.2.2.2.2.2.2.2.2.1 z10
        refine X_tableIn (tgt := 895) (show decode cL_law 44 = .ok (.tableswitch 2881 0 54 #[236, 292, 372, 440, 496, 552, 615, 683, 739, 795, 851, 864, 920, 976, 1032, 1095, 1151, 1219, 1287, 1367, 1435, 1448, 1473, 1529, 1585, 1648, 1711, 1767, 1823, 1879, 1935, 1991, 2066, 2079, 2092, 2167, 2180, 2193, 2237, 2281, 2294, 2307, 2321, 2386, 2452, 2465, 2478, 2534, 2590, 2648, 2692, 2736, 2780, 2824, 2837], 236) by decide +kernel) (by rw [z10]; decide) (by rw [z10]; decide) (by rw [z10]; rfl) (by decide) ?_
        refine X_aload_n (j := 1) (show decode cL_law 895 = .ok (.aload_n 1, 1) by decide +kernel) rfl rfl ?_
        obtain ⟨s187, w⟩ := w
        refine X_vI (rc' := (n * 33 + 66)) (rs' := (n * 8198 + 16396)) (as := []) mv_L_200 (show decode cL_law 896 = .ok (.invokevirtual 200, 3) by decide +kernel) (by decide) (by omega) (by omega) rfl rfl (Nat.le_of_ble_eq_true rfl) (rcvD s187 (by decide) rfl) (kX9_blocks w) (fun E h hk => hk.elim) (fun r182 h181 w => ?_)
        refine X_aload_n (j := 2) (show decode cL_law 899 = .ok (.aload_n 2, 1) by decide +kernel) rfl rfl ?_
        obtain ⟨s186, w⟩ := w
        refine X_vI (rc' := (n * 33 + 66)) (rs' := (n * 8198 + 16396)) (as := []) mv_L_203 (show decode cL_law 900 = .ok (.invokevirtual 203, 3) by decide +kernel) (by decide) (by omega) (by omega) rfl rfl (Nat.le_of_ble_eq_true rfl) (rcvD s186 (by decide) rfl) (kX10_blocks w) (fun E h hk => hk.elim) (fun r184 h183 w => ?_)
        refine X_icmp_eq (tgt := 2925) (show decode cL_law 903 = .ok (.if_icmp .eq 2022, 3) by decide +kernel) (by decide) ⟨fun c185 => ?_, fun c185 => ?_⟩
        · have w := w.1 c185
          refine X_iinc (j := 5) (v := _ + 4) (ls' := [(0, .ref _), (1, .ref _), (2, .ref _), (3, .ref _), (4, .ref _), (5, .int _)]) (show decode cL_law 2925 = .ok (.iinc 5 4, 3) by decide +kernel) rfl rfl (Nat.le_of_ble_eq_true rfl) rfl ?_
          refine X_goto (tgt := 28) (show decode cL_law 2928 = .ok (.goto (-2900), 3) by decide +kernel) (by decide) ?_
          refine X_room (rc' := (n * 33 + 33)) (rs' := (n * 8198 + 8198)) (by omega) (by omega) ?_
          exact ih _ _ _ _ _ _ _ w
        · have w := w.2 c185
          refine X_iconst (v := 0) (show decode cL_law 906 = .ok (.iconst 0, 1) by decide +kernel) (by decide) ?_
          exact X_iret ⟨(show decode cL_law 907 = .ok (.ireturn, 1) by decide +kernel), .boolean, rfl, (by decide)⟩ ⟨_, rfl, w⟩
      by_cases z11 : (mI h x0 x5.toNatClampNeg &&& 63) = 11
      · have w := w.2.2.2.2.2.2.2.2.2.2.2.1 z11
        refine X_tableIn (tgt := 908) (show decode cL_law 44 = .ok (.tableswitch 2881 0 54 #[236, 292, 372, 440, 496, 552, 615, 683, 739, 795, 851, 864, 920, 976, 1032, 1095, 1151, 1219, 1287, 1367, 1435, 1448, 1473, 1529, 1585, 1648, 1711, 1767, 1823, 1879, 1935, 1991, 2066, 2079, 2092, 2167, 2180, 2193, 2237, 2281, 2294, 2307, 2321, 2386, 2452, 2465, 2478, 2534, 2590, 2648, 2692, 2736, 2780, 2824, 2837], 236) by decide +kernel) (by rw [z11]; decide) (by rw [z11]; decide) (by rw [z11]; rfl) (by decide) ?_
        refine X_aload_n (j := 1) (show decode cL_law 908 = .ok (.aload_n 1, 1) by decide +kernel) rfl rfl ?_
        refine X_aload_n (j := 0) (show decode cL_law 909 = .ok (.aload_n 0, 1) by decide +kernel) rfl rfl ?_
        refine X_iload (j := 5) (show decode cL_law 910 = .ok (.iload 5, 2) by decide +kernel) rfl ?_
        refine X_iconst (v := 1) (show decode cL_law 912 = .ok (.iconst 1, 1) by decide +kernel) (by decide) ?_
        refine X_iadd (show decode cL_law 913 = .ok (.iadd, 1) by decide +kernel) ?_
        obtain ⟨s188, w⟩ := w
        refine X_iald (show decode cL_law 914 = .ok (.iaload, 1) by decide +kernel) (isA_eq s9) s188 ?_
        refine X_aload_n (j := 3) (show decode cL_law 915 = .ok (.aload_n 3, 1) by decide +kernel) rfl rfl ?_
        refine X_sI (rc' := (n * 33 + 65)) (rs' := (n * 8198 + 16390)) (as := [.ref _, .int _, .ref _]) ms_L_204 (show decode cL_law 916 = .ok (.invokestatic 204, 3) by decide +kernel) (by decide) (by omega) (by omega) rfl rfl (Nat.le_of_ble_eq_true rfl) (kL_blockLength w) (fun E h hk => hk.elim) (fun r190 h189 w => ?_)
        refine X_istore (ls' := [(0, .ref _), (1, .ref _), (2, .ref _), (3, .ref _), (4, .ref _), (5, .int _), (6, .int _)]) (show decode cL_law 919 = .ok (.istore 6, 2) by decide +kernel) (by decide) rfl ?_
        refine X_aload_n (j := 2) (show decode cL_law 921 = .ok (.aload_n 2, 1) by decide +kernel) rfl rfl ?_
        refine X_aload_n (j := 0) (show decode cL_law 922 = .ok (.aload_n 0, 1) by decide +kernel) rfl rfl ?_
        refine X_iload (j := 5) (show decode cL_law 923 = .ok (.iload 5, 2) by decide +kernel) rfl ?_
        refine X_iconst (v := 1) (show decode cL_law 925 = .ok (.iconst 1, 1) by decide +kernel) (by decide) ?_
        refine X_iadd (show decode cL_law 926 = .ok (.iadd, 1) by decide +kernel) ?_
        obtain ⟨s191, w⟩ := w
        obtain ⟨s192, w⟩ := w
        refine X_iald (show decode cL_law 927 = .ok (.iaload, 1) by decide +kernel) (isA_eq s191) s192 ?_
        obtain ⟨s203, w⟩ := w
        refine X_vI (rc' := (n * 33 + 65)) (rs' := (n * 8198 + 16390)) (as := [.int _]) mv_L_206 (show decode cL_law 928 = .ok (.invokevirtual 206, 3) by decide +kernel) (by decide) (by omega) (by omega) rfl rfl (Nat.le_of_ble_eq_true rfl) (rcvD s203 (by decide) rfl) (kX10_blockLength w) (fun E h hk => hk.elim) (fun r194 h193 w => ?_)
        refine X_istore (ls' := [(0, .ref _), (1, .ref _), (2, .ref _), (3, .ref _), (4, .ref _), (5, .int _), (6, .int _), (7, .int _)]) (show decode cL_law 931 = .ok (.istore 7, 2) by decide +kernel) (by decide) rfl ?_
        refine X_aload_n (j := 2) (show decode cL_law 933 = .ok (.aload_n 2, 1) by decide +kernel) rfl rfl ?_
        obtain ⟨s202, w⟩ := w
        refine X_vI (rc' := (n * 33 + 65)) (rs' := (n * 8198 + 16390)) (as := []) mv_L_168 (show decode cL_law 934 = .ok (.invokevirtual 168, 3) by decide +kernel) (by decide) (by omega) (by omega) rfl rfl (Nat.le_of_ble_eq_true rfl) (rcvD s202 (by decide) rfl) (kX10_thrown w) (fun E h hk => hk.elim) (fun r196 h195 w => ?_)
        refine X_iload (j := 6) (show decode cL_law 937 = .ok (.iload 6, 2) by decide +kernel) rfl ?_
        refine X_icmp_eq (tgt := 944) (show decode cL_law 939 = .ok (.if_icmp .eq 5, 3) by decide +kernel) (by decide) ⟨fun c197 => ?_, fun c197 => ?_⟩
        · have w := w.1 c197
          refine X_iload (j := 6) (show decode cL_law 944 = .ok (.iload 6, 2) by decide +kernel) rfl ?_
          refine X_if_ne (tgt := 961) (show decode cL_law 946 = .ok (.ifCond .ne 15, 3) by decide +kernel) (by decide) ⟨fun c198 => ?_, fun c198 => ?_⟩
          · have w := w.1 c198
            refine X_goto (tgt := 2925) (show decode cL_law 961 = .ok (.goto 1964, 3) by decide +kernel) (by decide) ?_
            refine X_iinc (j := 5) (v := _ + 4) (ls' := [(0, .ref _), (1, .ref _), (2, .ref _), (3, .ref _), (4, .ref _), (5, .int _), (6, .int _), (7, .int _)]) (show decode cL_law 2925 = .ok (.iinc 5 4, 3) by decide +kernel) rfl rfl (Nat.le_of_ble_eq_true rfl) rfl ?_
            refine X_goto (tgt := 28) (show decode cL_law 2928 = .ok (.goto (-2900), 3) by decide +kernel) (by decide) ?_
            refine X_room (rc' := (n * 33 + 33)) (rs' := (n * 8198 + 8198)) (by omega) (by omega) ?_
            refine X_pick (ls' := [(0, .ref _), (1, .ref _), (2, .ref _), (3, .ref _), (4, .ref _), (5, .int _)]) [0, 1, 2, 3, 4, 5] rfl ?_
            exact ih _ _ _ _ _ _ _ w
          · have w := w.2 c198
            refine X_aload_n (j := 3) (show decode cL_law 949 = .ok (.aload_n 3, 1) by decide +kernel) rfl rfl ?_
            refine X_iconst (v := 0) (show decode cL_law 950 = .ok (.iconst 0, 1) by decide +kernel) (by decide) ?_
            obtain ⟨s199, w⟩ := w
            obtain ⟨s200, w⟩ := w
            refine X_lald (show decode cL_law 951 = .ok (.laload, 1) by decide +kernel) (isA_eq s199) s200 ?_
            refine X_iload (j := 7) (show decode cL_law 952 = .ok (.iload 7, 2) by decide +kernel) rfl ?_
            refine X_i2l (show decode cL_law 954 = .ok (.i2l, 1) by decide +kernel) ?_
            refine X_lcmp (show decode cL_law 955 = .ok (.lcmp, 1) by decide +kernel) ?_
            refine X_if_eq (tgt := 961) (show decode cL_law 956 = .ok (.ifCond .eq 5, 3) by decide +kernel) (by decide) ⟨fun c201 => ?_, fun c201 => ?_⟩
            · have w := w.1 c201
              refine X_goto (tgt := 2925) (show decode cL_law 961 = .ok (.goto 1964, 3) by decide +kernel) (by decide) ?_
              refine X_iinc (j := 5) (v := _ + 4) (ls' := [(0, .ref _), (1, .ref _), (2, .ref _), (3, .ref _), (4, .ref _), (5, .int _), (6, .int _), (7, .int _)]) (show decode cL_law 2925 = .ok (.iinc 5 4, 3) by decide +kernel) rfl rfl (Nat.le_of_ble_eq_true rfl) rfl ?_
              refine X_goto (tgt := 28) (show decode cL_law 2928 = .ok (.goto (-2900), 3) by decide +kernel) (by decide) ?_
              refine X_room (rc' := (n * 33 + 33)) (rs' := (n * 8198 + 8198)) (by omega) (by omega) ?_
              refine X_pick (ls' := [(0, .ref _), (1, .ref _), (2, .ref _), (3, .ref _), (4, .ref _), (5, .int _)]) [0, 1, 2, 3, 4, 5] rfl ?_
              exact ih _ _ _ _ _ _ _ w
            · have w := w.2 c201
              refine X_iconst (v := 0) (show decode cL_law 959 = .ok (.iconst 0, 1) by decide +kernel) (by decide) ?_
              exact X_iret ⟨(show decode cL_law 960 = .ok (.ireturn, 1) by decide +kernel), .boolean, rfl, (by decide)⟩ ⟨_, rfl, w⟩
        · have w := w.2 c197
          refine X_iconst (v := 0) (show decode cL_law 942 = .ok (.iconst 0, 1) by decide +kernel) (by decide) ?_
          exact X_iret ⟨(show decode cL_law 943 = .ok (.ireturn, 1) by decide +kernel), .boolean, rfl, (by decide)⟩ ⟨_, rfl, w⟩
      by_cases z12 : (mI h x0 x5.toNatClampNeg &&& 63) = 12
      · have w := w.2.2.2.2.2.2.2.2.2.2.2.2.1 z12
        refine X_tableIn (tgt := 964) (show decode cL_law 44 = .ok (.tableswitch 2881 0 54 #[236, 292, 372, 440, 496, 552, 615, 683, 739, 795, 851, 864, 920, 976, 1032, 1095, 1151, 1219, 1287, 1367, 1435, 1448, 1473, 1529, 1585, 1648, 1711, 1767, 1823, 1879, 1935, 1991, 2066, 2079, 2092, 2167, 2180, 2193, 2237, 2281, 2294, 2307, 2321, 2386, 2452, 2465, 2478, 2534, 2590, 2648, 2692, 2736, 2780, 2824, 2837], 236) by decide +kernel) (by rw [z12]; decide) (by rw [z12]; decide) (by rw [z12]; rfl) (by decide) ?_
        refine X_aload_n (j := 1) (show decode cL_law 964 = .ok (.aload_n 1, 1) by decide +kernel) rfl rfl ?_
        refine X_aload_n (j := 0) (show decode cL_law 965 = .ok (.aload_n 0, 1) by decide +kernel) rfl rfl ?_
        refine X_iload (j := 5) (show decode cL_law 966 = .ok (.iload 5, 2) by decide +kernel) rfl ?_
        refine X_iconst (v := 1) (show decode cL_law 968 = .ok (.iconst 1, 1) by decide +kernel) (by decide) ?_
        refine X_iadd (show decode cL_law 969 = .ok (.iadd, 1) by decide +kernel) ?_
        obtain ⟨s204, w⟩ := w
        refine X_iald (show decode cL_law 970 = .ok (.iaload, 1) by decide +kernel) (isA_eq s9) s204 ?_
        refine X_aload_n (j := 3) (show decode cL_law 971 = .ok (.aload_n 3, 1) by decide +kernel) rfl rfl ?_
        refine X_sI (rc' := (n * 33 + 65)) (rs' := (n * 8198 + 16390)) (as := [.ref _, .int _, .ref _]) ms_L_207 (show decode cL_law 972 = .ok (.invokestatic 207, 3) by decide +kernel) (by decide) (by omega) (by omega) rfl rfl (Nat.le_of_ble_eq_true rfl) (kL_blockState w) (fun E h hk => hk.elim) (fun r206 h205 w => ?_)
        refine X_istore (ls' := [(0, .ref _), (1, .ref _), (2, .ref _), (3, .ref _), (4, .ref _), (5, .int _), (6, .int _)]) (show decode cL_law 975 = .ok (.istore 6, 2) by decide +kernel) (by decide) rfl ?_
        refine X_aload_n (j := 2) (show decode cL_law 977 = .ok (.aload_n 2, 1) by decide +kernel) rfl rfl ?_
        refine X_aload_n (j := 0) (show decode cL_law 978 = .ok (.aload_n 0, 1) by decide +kernel) rfl rfl ?_
        refine X_iload (j := 5) (show decode cL_law 979 = .ok (.iload 5, 2) by decide +kernel) rfl ?_
        refine X_iconst (v := 1) (show decode cL_law 981 = .ok (.iconst 1, 1) by decide +kernel) (by decide) ?_
        refine X_iadd (show decode cL_law 982 = .ok (.iadd, 1) by decide +kernel) ?_
        obtain ⟨s207, w⟩ := w
        obtain ⟨s208, w⟩ := w
        refine X_iald (show decode cL_law 983 = .ok (.iaload, 1) by decide +kernel) (isA_eq s207) s208 ?_
        obtain ⟨s219, w⟩ := w
        refine X_vI (rc' := (n * 33 + 65)) (rs' := (n * 8198 + 16390)) (as := [.int _]) mv_L_209 (show decode cL_law 984 = .ok (.invokevirtual 209, 3) by decide +kernel) (by decide) (by omega) (by omega) rfl rfl (Nat.le_of_ble_eq_true rfl) (rcvD s219 (by decide) rfl) (kX10_blockState w) (fun E h hk => hk.elim) (fun r210 h209 w => ?_)
        refine X_istore (ls' := [(0, .ref _), (1, .ref _), (2, .ref _), (3, .ref _), (4, .ref _), (5, .int _), (6, .int _), (7, .int _)]) (show decode cL_law 987 = .ok (.istore 7, 2) by decide +kernel) (by decide) rfl ?_
        refine X_aload_n (j := 2) (show decode cL_law 989 = .ok (.aload_n 2, 1) by decide +kernel) rfl rfl ?_
        obtain ⟨s218, w⟩ := w
        refine X_vI (rc' := (n * 33 + 65)) (rs' := (n * 8198 + 16390)) (as := []) mv_L_168 (show decode cL_law 990 = .ok (.invokevirtual 168, 3) by decide +kernel) (by decide) (by omega) (by omega) rfl rfl (Nat.le_of_ble_eq_true rfl) (rcvD s218 (by decide) rfl) (kX10_thrown w) (fun E h hk => hk.elim) (fun r212 h211 w => ?_)
        refine X_iload (j := 6) (show decode cL_law 993 = .ok (.iload 6, 2) by decide +kernel) rfl ?_
        refine X_icmp_eq (tgt := 1000) (show decode cL_law 995 = .ok (.if_icmp .eq 5, 3) by decide +kernel) (by decide) ⟨fun c213 => ?_, fun c213 => ?_⟩
        · have w := w.1 c213
          refine X_iload (j := 6) (show decode cL_law 1000 = .ok (.iload 6, 2) by decide +kernel) rfl ?_
          refine X_if_ne (tgt := 1017) (show decode cL_law 1002 = .ok (.ifCond .ne 15, 3) by decide +kernel) (by decide) ⟨fun c214 => ?_, fun c214 => ?_⟩
          · have w := w.1 c214
            refine X_goto (tgt := 2925) (show decode cL_law 1017 = .ok (.goto 1908, 3) by decide +kernel) (by decide) ?_
            refine X_iinc (j := 5) (v := _ + 4) (ls' := [(0, .ref _), (1, .ref _), (2, .ref _), (3, .ref _), (4, .ref _), (5, .int _), (6, .int _), (7, .int _)]) (show decode cL_law 2925 = .ok (.iinc 5 4, 3) by decide +kernel) rfl rfl (Nat.le_of_ble_eq_true rfl) rfl ?_
            refine X_goto (tgt := 28) (show decode cL_law 2928 = .ok (.goto (-2900), 3) by decide +kernel) (by decide) ?_
            refine X_room (rc' := (n * 33 + 33)) (rs' := (n * 8198 + 8198)) (by omega) (by omega) ?_
            refine X_pick (ls' := [(0, .ref _), (1, .ref _), (2, .ref _), (3, .ref _), (4, .ref _), (5, .int _)]) [0, 1, 2, 3, 4, 5] rfl ?_
            exact ih _ _ _ _ _ _ _ w
          · have w := w.2 c214
            refine X_aload_n (j := 3) (show decode cL_law 1005 = .ok (.aload_n 3, 1) by decide +kernel) rfl rfl ?_
            refine X_iconst (v := 0) (show decode cL_law 1006 = .ok (.iconst 0, 1) by decide +kernel) (by decide) ?_
            obtain ⟨s215, w⟩ := w
            obtain ⟨s216, w⟩ := w
            refine X_lald (show decode cL_law 1007 = .ok (.laload, 1) by decide +kernel) (isA_eq s215) s216 ?_
            refine X_iload (j := 7) (show decode cL_law 1008 = .ok (.iload 7, 2) by decide +kernel) rfl ?_
            refine X_i2l (show decode cL_law 1010 = .ok (.i2l, 1) by decide +kernel) ?_
            refine X_lcmp (show decode cL_law 1011 = .ok (.lcmp, 1) by decide +kernel) ?_
            refine X_if_eq (tgt := 1017) (show decode cL_law 1012 = .ok (.ifCond .eq 5, 3) by decide +kernel) (by decide) ⟨fun c217 => ?_, fun c217 => ?_⟩
            · have w := w.1 c217
              refine X_goto (tgt := 2925) (show decode cL_law 1017 = .ok (.goto 1908, 3) by decide +kernel) (by decide) ?_
              refine X_iinc (j := 5) (v := _ + 4) (ls' := [(0, .ref _), (1, .ref _), (2, .ref _), (3, .ref _), (4, .ref _), (5, .int _), (6, .int _), (7, .int _)]) (show decode cL_law 2925 = .ok (.iinc 5 4, 3) by decide +kernel) rfl rfl (Nat.le_of_ble_eq_true rfl) rfl ?_
              refine X_goto (tgt := 28) (show decode cL_law 2928 = .ok (.goto (-2900), 3) by decide +kernel) (by decide) ?_
              refine X_room (rc' := (n * 33 + 33)) (rs' := (n * 8198 + 8198)) (by omega) (by omega) ?_
              refine X_pick (ls' := [(0, .ref _), (1, .ref _), (2, .ref _), (3, .ref _), (4, .ref _), (5, .int _)]) [0, 1, 2, 3, 4, 5] rfl ?_
              exact ih _ _ _ _ _ _ _ w
            · have w := w.2 c217
              refine X_iconst (v := 0) (show decode cL_law 1015 = .ok (.iconst 0, 1) by decide +kernel) (by decide) ?_
              exact X_iret ⟨(show decode cL_law 1016 = .ok (.ireturn, 1) by decide +kernel), .boolean, rfl, (by decide)⟩ ⟨_, rfl, w⟩
        · have w := w.2 c213
          refine X_iconst (v := 0) (show decode cL_law 998 = .ok (.iconst 0, 1) by decide +kernel) (by decide) ?_
          exact X_iret ⟨(show decode cL_law 999 = .ok (.ireturn, 1) by decide +kernel), .boolean, rfl, (by decide)⟩ ⟨_, rfl, w⟩
      by_cases z13 : (mI h x0 x5.toNatClampNeg &&& 63) = 13
      · have w := w.2.2.2.2.2.2.2.2.2.2.2.2.2.1 z13
        refine X_tableIn (tgt := 1020) (show decode cL_law 44 = .ok (.tableswitch 2881 0 54 #[236, 292, 372, 440, 496, 552, 615, 683, 739, 795, 851, 864, 920, 976, 1032, 1095, 1151, 1219, 1287, 1367, 1435, 1448, 1473, 1529, 1585, 1648, 1711, 1767, 1823, 1879, 1935, 1991, 2066, 2079, 2092, 2167, 2180, 2193, 2237, 2281, 2294, 2307, 2321, 2386, 2452, 2465, 2478, 2534, 2590, 2648, 2692, 2736, 2780, 2824, 2837], 236) by decide +kernel) (by rw [z13]; decide) (by rw [z13]; decide) (by rw [z13]; rfl) (by decide) ?_
        refine X_aload_n (j := 1) (show decode cL_law 1020 = .ok (.aload_n 1, 1) by decide +kernel) rfl rfl ?_
        refine X_aload_n (j := 0) (show decode cL_law 1021 = .ok (.aload_n 0, 1) by decide +kernel) rfl rfl ?_
        refine X_iload (j := 5) (show decode cL_law 1022 = .ok (.iload 5, 2) by decide +kernel) rfl ?_
        refine X_iconst (v := 1) (show decode cL_law 1024 = .ok (.iconst 1, 1) by decide +kernel) (by decide) ?_
        refine X_iadd (show decode cL_law 1025 = .ok (.iadd, 1) by decide +kernel) ?_
        obtain ⟨s220, w⟩ := w
        refine X_iald (show decode cL_law 1026 = .ok (.iaload, 1) by decide +kernel) (isA_eq s9) s220 ?_
        refine X_aload_n (j := 3) (show decode cL_law 1027 = .ok (.aload_n 3, 1) by decide +kernel) rfl rfl ?_
        refine X_sI (rc' := (n * 33 + 64)) (rs' := (n * 8198 + 16384)) (as := [.ref _, .int _, .ref _]) ms_L_210 (show decode cL_law 1028 = .ok (.invokestatic 210, 3) by decide +kernel) (by decide) (by omega) (by omega) rfl rfl (Nat.le_of_ble_eq_true rfl) (kL_trainAt w) (fun E h hk => hk.elim) (fun r222 h221 w => ?_)
        refine X_istore (ls' := [(0, .ref _), (1, .ref _), (2, .ref _), (3, .ref _), (4, .ref _), (5, .int _), (6, .int _)]) (show decode cL_law 1031 = .ok (.istore 6, 2) by decide +kernel) (by decide) rfl ?_
        refine X_aload_n (j := 2) (show decode cL_law 1033 = .ok (.aload_n 2, 1) by decide +kernel) rfl rfl ?_
        refine X_aload_n (j := 0) (show decode cL_law 1034 = .ok (.aload_n 0, 1) by decide +kernel) rfl rfl ?_
        refine X_iload (j := 5) (show decode cL_law 1035 = .ok (.iload 5, 2) by decide +kernel) rfl ?_
        refine X_iconst (v := 1) (show decode cL_law 1037 = .ok (.iconst 1, 1) by decide +kernel) (by decide) ?_
        refine X_iadd (show decode cL_law 1038 = .ok (.iadd, 1) by decide +kernel) ?_
        obtain ⟨s223, w⟩ := w
        obtain ⟨s224, w⟩ := w
        refine X_iald (show decode cL_law 1039 = .ok (.iaload, 1) by decide +kernel) (isA_eq s223) s224 ?_
        obtain ⟨s235, w⟩ := w
        refine X_vI (rc' := (n * 33 + 64)) (rs' := (n * 8198 + 16384)) (as := [.int _]) mv_L_212 (show decode cL_law 1040 = .ok (.invokevirtual 212, 3) by decide +kernel) (by decide) (by omega) (by omega) rfl rfl (Nat.le_of_ble_eq_true rfl) (rcvD s235 (by decide) rfl) (kX10_trainAt w) (fun E h hk => hk.elim) (fun r226 h225 w => ?_)
        refine X_istore (ls' := [(0, .ref _), (1, .ref _), (2, .ref _), (3, .ref _), (4, .ref _), (5, .int _), (6, .int _), (7, .int _)]) (show decode cL_law 1043 = .ok (.istore 7, 2) by decide +kernel) (by decide) rfl ?_
        refine X_aload_n (j := 2) (show decode cL_law 1045 = .ok (.aload_n 2, 1) by decide +kernel) rfl rfl ?_
        obtain ⟨s234, w⟩ := w
        refine X_vI (rc' := (n * 33 + 64)) (rs' := (n * 8198 + 16384)) (as := []) mv_L_168 (show decode cL_law 1046 = .ok (.invokevirtual 168, 3) by decide +kernel) (by decide) (by omega) (by omega) rfl rfl (Nat.le_of_ble_eq_true rfl) (rcvD s234 (by decide) rfl) (kX10_thrown w) (fun E h hk => hk.elim) (fun r228 h227 w => ?_)
        refine X_iload (j := 6) (show decode cL_law 1049 = .ok (.iload 6, 2) by decide +kernel) rfl ?_
        refine X_icmp_eq (tgt := 1056) (show decode cL_law 1051 = .ok (.if_icmp .eq 5, 3) by decide +kernel) (by decide) ⟨fun c229 => ?_, fun c229 => ?_⟩
        · have w := w.1 c229
          refine X_iload (j := 6) (show decode cL_law 1056 = .ok (.iload 6, 2) by decide +kernel) rfl ?_
          refine X_if_ne (tgt := 1073) (show decode cL_law 1058 = .ok (.ifCond .ne 15, 3) by decide +kernel) (by decide) ⟨fun c230 => ?_, fun c230 => ?_⟩
          · have w := w.1 c230
            refine X_goto (tgt := 2925) (show decode cL_law 1073 = .ok (.goto 1852, 3) by decide +kernel) (by decide) ?_
            refine X_iinc (j := 5) (v := _ + 4) (ls' := [(0, .ref _), (1, .ref _), (2, .ref _), (3, .ref _), (4, .ref _), (5, .int _), (6, .int _), (7, .int _)]) (show decode cL_law 2925 = .ok (.iinc 5 4, 3) by decide +kernel) rfl rfl (Nat.le_of_ble_eq_true rfl) rfl ?_
            refine X_goto (tgt := 28) (show decode cL_law 2928 = .ok (.goto (-2900), 3) by decide +kernel) (by decide) ?_
            refine X_room (rc' := (n * 33 + 33)) (rs' := (n * 8198 + 8198)) (by omega) (by omega) ?_
            refine X_pick (ls' := [(0, .ref _), (1, .ref _), (2, .ref _), (3, .ref _), (4, .ref _), (5, .int _)]) [0, 1, 2, 3, 4, 5] rfl ?_
            exact ih _ _ _ _ _ _ _ w
          · have w := w.2 c230
            refine X_aload_n (j := 3) (show decode cL_law 1061 = .ok (.aload_n 3, 1) by decide +kernel) rfl rfl ?_
            refine X_iconst (v := 0) (show decode cL_law 1062 = .ok (.iconst 0, 1) by decide +kernel) (by decide) ?_
            obtain ⟨s231, w⟩ := w
            obtain ⟨s232, w⟩ := w
            refine X_lald (show decode cL_law 1063 = .ok (.laload, 1) by decide +kernel) (isA_eq s231) s232 ?_
            refine X_iload (j := 7) (show decode cL_law 1064 = .ok (.iload 7, 2) by decide +kernel) rfl ?_
            refine X_i2l (show decode cL_law 1066 = .ok (.i2l, 1) by decide +kernel) ?_
            refine X_lcmp (show decode cL_law 1067 = .ok (.lcmp, 1) by decide +kernel) ?_
            refine X_if_eq (tgt := 1073) (show decode cL_law 1068 = .ok (.ifCond .eq 5, 3) by decide +kernel) (by decide) ⟨fun c233 => ?_, fun c233 => ?_⟩
            · have w := w.1 c233
              refine X_goto (tgt := 2925) (show decode cL_law 1073 = .ok (.goto 1852, 3) by decide +kernel) (by decide) ?_
              refine X_iinc (j := 5) (v := _ + 4) (ls' := [(0, .ref _), (1, .ref _), (2, .ref _), (3, .ref _), (4, .ref _), (5, .int _), (6, .int _), (7, .int _)]) (show decode cL_law 2925 = .ok (.iinc 5 4, 3) by decide +kernel) rfl rfl (Nat.le_of_ble_eq_true rfl) rfl ?_
              refine X_goto (tgt := 28) (show decode cL_law 2928 = .ok (.goto (-2900), 3) by decide +kernel) (by decide) ?_
              refine X_room (rc' := (n * 33 + 33)) (rs' := (n * 8198 + 8198)) (by omega) (by omega) ?_
              refine X_pick (ls' := [(0, .ref _), (1, .ref _), (2, .ref _), (3, .ref _), (4, .ref _), (5, .int _)]) [0, 1, 2, 3, 4, 5] rfl ?_
              exact ih _ _ _ _ _ _ _ w
            · have w := w.2 c233
              refine X_iconst (v := 0) (show decode cL_law 1071 = .ok (.iconst 0, 1) by decide +kernel) (by decide) ?_
              exact X_iret ⟨(show decode cL_law 1072 = .ok (.ireturn, 1) by decide +kernel), .boolean, rfl, (by decide)⟩ ⟨_, rfl, w⟩
        · have w := w.2 c229
          refine X_iconst (v := 0) (show decode cL_law 1054 = .ok (.iconst 0, 1) by decide +kernel) (by decide) ?_
          exact X_iret ⟨(show decode cL_law 1055 = .ok (.ireturn, 1) by decide +kernel), .boolean, rfl, (by decide)⟩ ⟨_, rfl, w⟩
      by_cases z14 : (mI h x0 x5.toNatClampNeg &&& 63) = 14
      · have w := w.2.2.2.2.2.2.2.2.2.2.2.2.2.2.1 z14
        refine X_tableIn (tgt := 1076) (show decode cL_law 44 = .ok (.tableswitch 2881 0 54 #[236, 292, 372, 440, 496, 552, 615, 683, 739, 795, 851, 864, 920, 976, 1032, 1095, 1151, 1219, 1287, 1367, 1435, 1448, 1473, 1529, 1585, 1648, 1711, 1767, 1823, 1879, 1935, 1991, 2066, 2079, 2092, 2167, 2180, 2193, 2237, 2281, 2294, 2307, 2321, 2386, 2452, 2465, 2478, 2534, 2590, 2648, 2692, 2736, 2780, 2824, 2837], 236) by decide +kernel) (by rw [z14]; decide) (by rw [z14]; decide) (by rw [z14]; rfl) (by decide) ?_
        refine X_aload_n (j := 1) (show decode cL_law 1076 = .ok (.aload_n 1, 1) by decide +kernel) rfl rfl ?_
        refine X_aload_n (j := 0) (show decode cL_law 1077 = .ok (.aload_n 0, 1) by decide +kernel) rfl rfl ?_
        refine X_iload (j := 5) (show decode cL_law 1078 = .ok (.iload 5, 2) by decide +kernel) rfl ?_
        refine X_iconst (v := 1) (show decode cL_law 1080 = .ok (.iconst 1, 1) by decide +kernel) (by decide) ?_
        refine X_iadd (show decode cL_law 1081 = .ok (.iadd, 1) by decide +kernel) ?_
        obtain ⟨s236, w⟩ := w
        refine X_iald (show decode cL_law 1082 = .ok (.iaload, 1) by decide +kernel) (isA_eq s9) s236 ?_
        refine X_aload_n (j := 3) (show decode cL_law 1083 = .ok (.aload_n 3, 1) by decide +kernel) rfl rfl ?_
        refine X_sI (rc' := (n * 33 + 65)) (rs' := (n * 8198 + 16390)) (as := [.ref _, .int _, .ref _]) ms_L_213 (show decode cL_law 1084 = .ok (.invokestatic 213, 3) by decide +kernel) (by decide) (by omega) (by omega) rfl rfl (Nat.le_of_ble_eq_true rfl) (kL_liesLeft w) (fun E h hk => hk.elim) (fun r238 h237 w => ?_)
        refine X_istore (ls' := [(0, .ref _), (1, .ref _), (2, .ref _), (3, .ref _), (4, .ref _), (5, .int _), (6, .int _)]) (show decode cL_law 1087 = .ok (.istore 6, 2) by decide +kernel) (by decide) rfl ?_
        refine X_aload_n (j := 2) (show decode cL_law 1089 = .ok (.aload_n 2, 1) by decide +kernel) rfl rfl ?_
        refine X_aload_n (j := 0) (show decode cL_law 1090 = .ok (.aload_n 0, 1) by decide +kernel) rfl rfl ?_
        refine X_iload (j := 5) (show decode cL_law 1091 = .ok (.iload 5, 2) by decide +kernel) rfl ?_
        refine X_iconst (v := 1) (show decode cL_law 1093 = .ok (.iconst 1, 1) by decide +kernel) (by decide) ?_
        refine X_iadd (show decode cL_law 1094 = .ok (.iadd, 1) by decide +kernel) ?_
        obtain ⟨s239, w⟩ := w
        obtain ⟨s240, w⟩ := w
        refine X_iald (show decode cL_law 1095 = .ok (.iaload, 1) by decide +kernel) (isA_eq s239) s240 ?_
        obtain ⟨s252, w⟩ := w
        refine X_vI (rc' := (n * 33 + 65)) (rs' := (n * 8198 + 16390)) (as := [.int _]) mv_L_215 (show decode cL_law 1096 = .ok (.invokevirtual 215, 3) by decide +kernel) (by decide) (by omega) (by omega) rfl rfl (Nat.le_of_ble_eq_true rfl) (rcvD s252 (by decide) rfl) (kX10_liesLeft w) (fun E h hk => hk.elim) (fun r242 h241 w => ?_)
        refine X_istore (ls' := [(0, .ref _), (1, .ref _), (2, .ref _), (3, .ref _), (4, .ref _), (5, .int _), (6, .int _), (7, .int _)]) (show decode cL_law 1099 = .ok (.istore 7, 2) by decide +kernel) (by decide) rfl ?_
        refine X_aload_n (j := 2) (show decode cL_law 1101 = .ok (.aload_n 2, 1) by decide +kernel) rfl rfl ?_
        obtain ⟨s251, w⟩ := w
        refine X_vI (rc' := (n * 33 + 65)) (rs' := (n * 8198 + 16390)) (as := []) mv_L_168 (show decode cL_law 1102 = .ok (.invokevirtual 168, 3) by decide +kernel) (by decide) (by omega) (by omega) rfl rfl (Nat.le_of_ble_eq_true rfl) (rcvD s251 (by decide) rfl) (kX10_thrown w) (fun E h hk => hk.elim) (fun r244 h243 w => ?_)
        refine X_iload (j := 6) (show decode cL_law 1105 = .ok (.iload 6, 2) by decide +kernel) rfl ?_
        refine X_icmp_eq (tgt := 1112) (show decode cL_law 1107 = .ok (.if_icmp .eq 5, 3) by decide +kernel) (by decide) ⟨fun c245 => ?_, fun c245 => ?_⟩
        · have w := w.1 c245
          refine X_iload (j := 6) (show decode cL_law 1112 = .ok (.iload 6, 2) by decide +kernel) rfl ?_
          refine X_if_ne (tgt := 1136) (show decode cL_law 1114 = .ok (.ifCond .ne 22, 3) by decide +kernel) (by decide) ⟨fun c246 => ?_, fun c246 => ?_⟩
          · have w := w.1 c246
            refine X_goto (tgt := 2925) (show decode cL_law 1136 = .ok (.goto 1789, 3) by decide +kernel) (by decide) ?_
            refine X_iinc (j := 5) (v := _ + 4) (ls' := [(0, .ref _), (1, .ref _), (2, .ref _), (3, .ref _), (4, .ref _), (5, .int _), (6, .int _), (7, .int _)]) (show decode cL_law 2925 = .ok (.iinc 5 4, 3) by decide +kernel) rfl rfl (Nat.le_of_ble_eq_true rfl) rfl ?_
            refine X_goto (tgt := 28) (show decode cL_law 2928 = .ok (.goto (-2900), 3) by decide +kernel) (by decide) ?_
            refine X_room (rc' := (n * 33 + 33)) (rs' := (n * 8198 + 8198)) (by omega) (by omega) ?_
            refine X_pick (ls' := [(0, .ref _), (1, .ref _), (2, .ref _), (3, .ref _), (4, .ref _), (5, .int _)]) [0, 1, 2, 3, 4, 5] rfl ?_
            exact ih _ _ _ _ _ _ _ w
          · have w := w.2 c246
            refine X_aload_n (j := 3) (show decode cL_law 1117 = .ok (.aload_n 3, 1) by decide +kernel) rfl rfl ?_
            refine X_iconst (v := 0) (show decode cL_law 1118 = .ok (.iconst 0, 1) by decide +kernel) (by decide) ?_
            obtain ⟨s247, w⟩ := w
            obtain ⟨s248, w⟩ := w
            refine X_lald (show decode cL_law 1119 = .ok (.laload, 1) by decide +kernel) (isA_eq s247) s248 ?_
            refine X_iload (j := 7) (show decode cL_law 1120 = .ok (.iload 7, 2) by decide +kernel) rfl ?_
            refine X_if_eq (tgt := 1129) (show decode cL_law 1122 = .ok (.ifCond .eq 7, 3) by decide +kernel) (by decide) ⟨fun c249 => ?_, fun c249 => ?_⟩
            · have w := w.1 c249
              refine X_lconst (v := 0) (show decode cL_law 1129 = .ok (.lconst 0, 1) by decide +kernel) (by decide) ?_
              refine X_room (rc' := 0) (rs' := 0) (by omega) (by omega) ?_
              refine X_pick (ls' := [(0, .ref _), (1, .ref _), (2, .ref _), (3, .ref _), (4, .ref _), (5, .int _)]) [0, 1, 2, 3, 4, 5] rfl ?_
              exact kL_law_J1130 ih _ _ _ _ _ _ _ _ _ w
            · have w := w.2 c249
              refine X_lconst (v := 1) (show decode cL_law 1125 = .ok (.lconst 1, 1) by decide +kernel) (by decide) ?_
              refine X_goto (tgt := 1130) (show decode cL_law 1126 = .ok (.goto 4, 3) by decide +kernel) (by decide) ?_
              refine X_room (rc' := 0) (rs' := 0) (by omega) (by omega) ?_
              refine X_pick (ls' := [(0, .ref _), (1, .ref _), (2, .ref _), (3, .ref _), (4, .ref _), (5, .int _)]) [0, 1, 2, 3, 4, 5] rfl ?_
              exact kL_law_J1130 ih _ _ _ _ _ _ _ _ _ w
        · have w := w.2 c245
          refine X_iconst (v := 0) (show decode cL_law 1110 = .ok (.iconst 0, 1) by decide +kernel) (by decide) ?_
          exact X_iret ⟨(show decode cL_law 1111 = .ok (.ireturn, 1) by decide +kernel), .boolean, rfl, (by decide)⟩ ⟨_, rfl, w⟩
      by_cases z15 : (mI h x0 x5.toNatClampNeg &&& 63) = 15
      · have w := w.2.2.2.2.2.2.2.2.2.2.2.2.2.2.2.1 z15
        refine X_tableIn (tgt := 1139) (show decode cL_law 44 = .ok (.tableswitch 2881 0 54 #[236, 292, 372, 440, 496, 552, 615, 683, 739, 795, 851, 864, 920, 976, 1032, 1095, 1151, 1219, 1287, 1367, 1435, 1448, 1473, 1529, 1585, 1648, 1711, 1767, 1823, 1879, 1935, 1991, 2066, 2079, 2092, 2167, 2180, 2193, 2237, 2281, 2294, 2307, 2321, 2386, 2452, 2465, 2478, 2534, 2590, 2648, 2692, 2736, 2780, 2824, 2837], 236) by decide +kernel) (by rw [z15]; decide) (by rw [z15]; decide) (by rw [z15]; rfl) (by decide) ?_
        refine X_aload_n (j := 1) (show decode cL_law 1139 = .ok (.aload_n 1, 1) by decide +kernel) rfl rfl ?_
        refine X_aload_n (j := 0) (show decode cL_law 1140 = .ok (.aload_n 0, 1) by decide +kernel) rfl rfl ?_
        refine X_iload (j := 5) (show decode cL_law 1141 = .ok (.iload 5, 2) by decide +kernel) rfl ?_
        refine X_iconst (v := 1) (show decode cL_law 1143 = .ok (.iconst 1, 1) by decide +kernel) (by decide) ?_
        refine X_iadd (show decode cL_law 1144 = .ok (.iadd, 1) by decide +kernel) ?_
        obtain ⟨s253, w⟩ := w
        refine X_iald (show decode cL_law 1145 = .ok (.iaload, 1) by decide +kernel) (isA_eq s9) s253 ?_
        refine X_aload_n (j := 3) (show decode cL_law 1146 = .ok (.aload_n 3, 1) by decide +kernel) rfl rfl ?_
        refine X_sI (rc' := (n * 33 + 64)) (rs' := (n * 8198 + 16384)) (as := [.ref _, .int _, .ref _]) ms_L_216 (show decode cL_law 1147 = .ok (.invokestatic 216, 3) by decide +kernel) (by decide) (by omega) (by omega) rfl rfl (Nat.le_of_ble_eq_true rfl) (kL_lockedBy w) (fun E h hk => hk.elim) (fun r255 h254 w => ?_)
        refine X_istore (ls' := [(0, .ref _), (1, .ref _), (2, .ref _), (3, .ref _), (4, .ref _), (5, .int _), (6, .int _)]) (show decode cL_law 1150 = .ok (.istore 6, 2) by decide +kernel) (by decide) rfl ?_
        refine X_aload_n (j := 2) (show decode cL_law 1152 = .ok (.aload_n 2, 1) by decide +kernel) rfl rfl ?_
        refine X_aload_n (j := 0) (show decode cL_law 1153 = .ok (.aload_n 0, 1) by decide +kernel) rfl rfl ?_
        refine X_iload (j := 5) (show decode cL_law 1154 = .ok (.iload 5, 2) by decide +kernel) rfl ?_
        refine X_iconst (v := 1) (show decode cL_law 1156 = .ok (.iconst 1, 1) by decide +kernel) (by decide) ?_
        refine X_iadd (show decode cL_law 1157 = .ok (.iadd, 1) by decide +kernel) ?_
        obtain ⟨s256, w⟩ := w
        obtain ⟨s257, w⟩ := w
        refine X_iald (show decode cL_law 1158 = .ok (.iaload, 1) by decide +kernel) (isA_eq s256) s257 ?_
        obtain ⟨s268, w⟩ := w
        refine X_vI (rc' := (n * 33 + 64)) (rs' := (n * 8198 + 16384)) (as := [.int _]) mv_L_218 (show decode cL_law 1159 = .ok (.invokevirtual 218, 3) by decide +kernel) (by decide) (by omega) (by omega) rfl rfl (Nat.le_of_ble_eq_true rfl) (rcvD s268 (by decide) rfl) (kX10_lockedBy w) (fun E h hk => hk.elim) (fun r259 h258 w => ?_)
        refine X_istore (ls' := [(0, .ref _), (1, .ref _), (2, .ref _), (3, .ref _), (4, .ref _), (5, .int _), (6, .int _), (7, .int _)]) (show decode cL_law 1162 = .ok (.istore 7, 2) by decide +kernel) (by decide) rfl ?_
        refine X_aload_n (j := 2) (show decode cL_law 1164 = .ok (.aload_n 2, 1) by decide +kernel) rfl rfl ?_
        obtain ⟨s267, w⟩ := w
        refine X_vI (rc' := (n * 33 + 64)) (rs' := (n * 8198 + 16384)) (as := []) mv_L_168 (show decode cL_law 1165 = .ok (.invokevirtual 168, 3) by decide +kernel) (by decide) (by omega) (by omega) rfl rfl (Nat.le_of_ble_eq_true rfl) (rcvD s267 (by decide) rfl) (kX10_thrown w) (fun E h hk => hk.elim) (fun r261 h260 w => ?_)
        refine X_iload (j := 6) (show decode cL_law 1168 = .ok (.iload 6, 2) by decide +kernel) rfl ?_
        refine X_icmp_eq (tgt := 1175) (show decode cL_law 1170 = .ok (.if_icmp .eq 5, 3) by decide +kernel) (by decide) ⟨fun c262 => ?_, fun c262 => ?_⟩
        · have w := w.1 c262
          refine X_iload (j := 6) (show decode cL_law 1175 = .ok (.iload 6, 2) by decide +kernel) rfl ?_
          refine X_if_ne (tgt := 1192) (show decode cL_law 1177 = .ok (.ifCond .ne 15, 3) by decide +kernel) (by decide) ⟨fun c263 => ?_, fun c263 => ?_⟩
          · have w := w.1 c263
            refine X_goto (tgt := 2925) (show decode cL_law 1192 = .ok (.goto 1733, 3) by decide +kernel) (by decide) ?_
            refine X_iinc (j := 5) (v := _ + 4) (ls' := [(0, .ref _), (1, .ref _), (2, .ref _), (3, .ref _), (4, .ref _), (5, .int _), (6, .int _), (7, .int _)]) (show decode cL_law 2925 = .ok (.iinc 5 4, 3) by decide +kernel) rfl rfl (Nat.le_of_ble_eq_true rfl) rfl ?_
            refine X_goto (tgt := 28) (show decode cL_law 2928 = .ok (.goto (-2900), 3) by decide +kernel) (by decide) ?_
            refine X_room (rc' := (n * 33 + 33)) (rs' := (n * 8198 + 8198)) (by omega) (by omega) ?_
            refine X_pick (ls' := [(0, .ref _), (1, .ref _), (2, .ref _), (3, .ref _), (4, .ref _), (5, .int _)]) [0, 1, 2, 3, 4, 5] rfl ?_
            exact ih _ _ _ _ _ _ _ w
          · have w := w.2 c263
            refine X_aload_n (j := 3) (show decode cL_law 1180 = .ok (.aload_n 3, 1) by decide +kernel) rfl rfl ?_
            refine X_iconst (v := 0) (show decode cL_law 1181 = .ok (.iconst 0, 1) by decide +kernel) (by decide) ?_
            obtain ⟨s264, w⟩ := w
            obtain ⟨s265, w⟩ := w
            refine X_lald (show decode cL_law 1182 = .ok (.laload, 1) by decide +kernel) (isA_eq s264) s265 ?_
            refine X_iload (j := 7) (show decode cL_law 1183 = .ok (.iload 7, 2) by decide +kernel) rfl ?_
            refine X_i2l (show decode cL_law 1185 = .ok (.i2l, 1) by decide +kernel) ?_
            refine X_lcmp (show decode cL_law 1186 = .ok (.lcmp, 1) by decide +kernel) ?_
            refine X_if_eq (tgt := 1192) (show decode cL_law 1187 = .ok (.ifCond .eq 5, 3) by decide +kernel) (by decide) ⟨fun c266 => ?_, fun c266 => ?_⟩
            · have w := w.1 c266
              refine X_goto (tgt := 2925) (show decode cL_law 1192 = .ok (.goto 1733, 3) by decide +kernel) (by decide) ?_
              refine X_iinc (j := 5) (v := _ + 4) (ls' := [(0, .ref _), (1, .ref _), (2, .ref _), (3, .ref _), (4, .ref _), (5, .int _), (6, .int _), (7, .int _)]) (show decode cL_law 2925 = .ok (.iinc 5 4, 3) by decide +kernel) rfl rfl (Nat.le_of_ble_eq_true rfl) rfl ?_
              refine X_goto (tgt := 28) (show decode cL_law 2928 = .ok (.goto (-2900), 3) by decide +kernel) (by decide) ?_
              refine X_room (rc' := (n * 33 + 33)) (rs' := (n * 8198 + 8198)) (by omega) (by omega) ?_
              refine X_pick (ls' := [(0, .ref _), (1, .ref _), (2, .ref _), (3, .ref _), (4, .ref _), (5, .int _)]) [0, 1, 2, 3, 4, 5] rfl ?_
              exact ih _ _ _ _ _ _ _ w
            · have w := w.2 c266
              refine X_iconst (v := 0) (show decode cL_law 1190 = .ok (.iconst 0, 1) by decide +kernel) (by decide) ?_
              exact X_iret ⟨(show decode cL_law 1191 = .ok (.ireturn, 1) by decide +kernel), .boolean, rfl, (by decide)⟩ ⟨_, rfl, w⟩
        · have w := w.2 c262
          refine X_iconst (v := 0) (show decode cL_law 1173 = .ok (.iconst 0, 1) by decide +kernel) (by decide) ?_
          exact X_iret ⟨(show decode cL_law 1174 = .ok (.ireturn, 1) by decide +kernel), .boolean, rfl, (by decide)⟩ ⟨_, rfl, w⟩
      by_cases z16 : (mI h x0 x5.toNatClampNeg &&& 63) = 16
      · have w := w.2.2.2.2.2.2.2.2.2.2.2.2.2.2.2.2.1 z16
        refine X_tableIn (tgt := 1195) (show decode cL_law 44 = .ok (.tableswitch 2881 0 54 #[236, 292, 372, 440, 496, 552, 615, 683, 739, 795, 851, 864, 920, 976, 1032, 1095, 1151, 1219, 1287, 1367, 1435, 1448, 1473, 1529, 1585, 1648, 1711, 1767, 1823, 1879, 1935, 1991, 2066, 2079, 2092, 2167, 2180, 2193, 2237, 2281, 2294, 2307, 2321, 2386, 2452, 2465, 2478, 2534, 2590, 2648, 2692, 2736, 2780, 2824, 2837], 236) by decide +kernel) (by rw [z16]; decide) (by rw [z16]; decide) (by rw [z16]; rfl) (by decide) ?_
        refine X_aload_n (j := 1) (show decode cL_law 1195 = .ok (.aload_n 1, 1) by decide +kernel) rfl rfl ?_
        refine X_aload_n (j := 0) (show decode cL_law 1196 = .ok (.aload_n 0, 1) by decide +kernel) rfl rfl ?_
        refine X_iload (j := 5) (show decode cL_law 1197 = .ok (.iload 5, 2) by decide +kernel) rfl ?_
        refine X_iconst (v := 1) (show decode cL_law 1199 = .ok (.iconst 1, 1) by decide +kernel) (by decide) ?_
        refine X_iadd (show decode cL_law 1200 = .ok (.iadd, 1) by decide +kernel) ?_
        obtain ⟨s269, w⟩ := w
        refine X_iald (show decode cL_law 1201 = .ok (.iaload, 1) by decide +kernel) (isA_eq s9) s269 ?_
        refine X_aload_n (j := 0) (show decode cL_law 1202 = .ok (.aload_n 0, 1) by decide +kernel) rfl rfl ?_
        refine X_iload (j := 5) (show decode cL_law 1203 = .ok (.iload 5, 2) by decide +kernel) rfl ?_
        refine X_iconst (v := 2) (show decode cL_law 1205 = .ok (.iconst 2, 1) by decide +kernel) (by decide) ?_
        refine X_iadd (show decode cL_law 1206 = .ok (.iadd, 1) by decide +kernel) ?_
        obtain ⟨s270, w⟩ := w
        refine X_iald (show decode cL_law 1207 = .ok (.iaload, 1) by decide +kernel) (isA_eq s9) s270 ?_
        refine X_aload_n (j := 3) (show decode cL_law 1208 = .ok (.aload_n 3, 1) by decide +kernel) rfl rfl ?_
        refine X_sI (rc' := (n * 33 + 63)) (rs' := (n * 8198 + 16378)) (as := [.ref _, .int _, .int _, .ref _]) ms_L_219 (show decode cL_law 1209 = .ok (.invokestatic 219, 3) by decide +kernel) (by decide) (by omega) (by omega) rfl rfl (Nat.le_of_ble_eq_true rfl) (kL_routeLength w) (fun E h hk => hk.elim) (fun r272 h271 w => ?_)
        refine X_istore (ls' := [(0, .ref _), (1, .ref _), (2, .ref _), (3, .ref _), (4, .ref _), (5, .int _), (6, .int _)]) (show decode cL_law 1212 = .ok (.istore 6, 2) by decide +kernel) (by decide) rfl ?_
        refine X_aload_n (j := 2) (show decode cL_law 1214 = .ok (.aload_n 2, 1) by decide +kernel) rfl rfl ?_
        refine X_aload_n (j := 0) (show decode cL_law 1215 = .ok (.aload_n 0, 1) by decide +kernel) rfl rfl ?_
        refine X_iload (j := 5) (show decode cL_law 1216 = .ok (.iload 5, 2) by decide +kernel) rfl ?_
        refine X_iconst (v := 1) (show decode cL_law 1218 = .ok (.iconst 1, 1) by decide +kernel) (by decide) ?_
        refine X_iadd (show decode cL_law 1219 = .ok (.iadd, 1) by decide +kernel) ?_
        obtain ⟨s273, w⟩ := w
        obtain ⟨s274, w⟩ := w
        refine X_iald (show decode cL_law 1220 = .ok (.iaload, 1) by decide +kernel) (isA_eq s273) s274 ?_
        refine X_aload_n (j := 0) (show decode cL_law 1221 = .ok (.aload_n 0, 1) by decide +kernel) rfl rfl ?_
        refine X_iload (j := 5) (show decode cL_law 1222 = .ok (.iload 5, 2) by decide +kernel) rfl ?_
        refine X_iconst (v := 2) (show decode cL_law 1224 = .ok (.iconst 2, 1) by decide +kernel) (by decide) ?_
        refine X_iadd (show decode cL_law 1225 = .ok (.iadd, 1) by decide +kernel) ?_
        obtain ⟨s275, w⟩ := w
        refine X_iald (show decode cL_law 1226 = .ok (.iaload, 1) by decide +kernel) (isA_eq s273) s275 ?_
        obtain ⟨s286, w⟩ := w
        refine X_vI (rc' := (n * 33 + 63)) (rs' := (n * 8198 + 16378)) (as := [.int _, .int _]) mv_L_221 (show decode cL_law 1227 = .ok (.invokevirtual 221, 3) by decide +kernel) (by decide) (by omega) (by omega) rfl rfl (Nat.le_of_ble_eq_true rfl) (rcvD s286 (by decide) rfl) (kX10_routeLength w) (fun E h hk => hk.elim) (fun r277 h276 w => ?_)
        refine X_istore (ls' := [(0, .ref _), (1, .ref _), (2, .ref _), (3, .ref _), (4, .ref _), (5, .int _), (6, .int _), (7, .int _)]) (show decode cL_law 1230 = .ok (.istore 7, 2) by decide +kernel) (by decide) rfl ?_
        refine X_aload_n (j := 2) (show decode cL_law 1232 = .ok (.aload_n 2, 1) by decide +kernel) rfl rfl ?_
        obtain ⟨s285, w⟩ := w
        refine X_vI (rc' := (n * 33 + 63)) (rs' := (n * 8198 + 16378)) (as := []) mv_L_168 (show decode cL_law 1233 = .ok (.invokevirtual 168, 3) by decide +kernel) (by decide) (by omega) (by omega) rfl rfl (Nat.le_of_ble_eq_true rfl) (rcvD s285 (by decide) rfl) (kX10_thrown w) (fun E h hk => hk.elim) (fun r279 h278 w => ?_)
        refine X_iload (j := 6) (show decode cL_law 1236 = .ok (.iload 6, 2) by decide +kernel) rfl ?_
        refine X_icmp_eq (tgt := 1243) (show decode cL_law 1238 = .ok (.if_icmp .eq 5, 3) by decide +kernel) (by decide) ⟨fun c280 => ?_, fun c280 => ?_⟩
        · have w := w.1 c280
          refine X_iload (j := 6) (show decode cL_law 1243 = .ok (.iload 6, 2) by decide +kernel) rfl ?_
          refine X_if_ne (tgt := 1260) (show decode cL_law 1245 = .ok (.ifCond .ne 15, 3) by decide +kernel) (by decide) ⟨fun c281 => ?_, fun c281 => ?_⟩
          · have w := w.1 c281
            refine X_goto (tgt := 2925) (show decode cL_law 1260 = .ok (.goto 1665, 3) by decide +kernel) (by decide) ?_
            refine X_iinc (j := 5) (v := _ + 4) (ls' := [(0, .ref _), (1, .ref _), (2, .ref _), (3, .ref _), (4, .ref _), (5, .int _), (6, .int _), (7, .int _)]) (show decode cL_law 2925 = .ok (.iinc 5 4, 3) by decide +kernel) rfl rfl (Nat.le_of_ble_eq_true rfl) rfl ?_
            refine X_goto (tgt := 28) (show decode cL_law 2928 = .ok (.goto (-2900), 3) by decide +kernel) (by decide) ?_
            refine X_room (rc' := (n * 33 + 33)) (rs' := (n * 8198 + 8198)) (by omega) (by omega) ?_
            refine X_pick (ls' := [(0, .ref _), (1, .ref _), (2, .ref _), (3, .ref _), (4, .ref _), (5, .int _)]) [0, 1, 2, 3, 4, 5] rfl ?_
            exact ih _ _ _ _ _ _ _ w
          · have w := w.2 c281
            refine X_aload_n (j := 3) (show decode cL_law 1248 = .ok (.aload_n 3, 1) by decide +kernel) rfl rfl ?_
            refine X_iconst (v := 0) (show decode cL_law 1249 = .ok (.iconst 0, 1) by decide +kernel) (by decide) ?_
            obtain ⟨s282, w⟩ := w
            obtain ⟨s283, w⟩ := w
            refine X_lald (show decode cL_law 1250 = .ok (.laload, 1) by decide +kernel) (isA_eq s282) s283 ?_
            refine X_iload (j := 7) (show decode cL_law 1251 = .ok (.iload 7, 2) by decide +kernel) rfl ?_
            refine X_i2l (show decode cL_law 1253 = .ok (.i2l, 1) by decide +kernel) ?_
            refine X_lcmp (show decode cL_law 1254 = .ok (.lcmp, 1) by decide +kernel) ?_
            refine X_if_eq (tgt := 1260) (show decode cL_law 1255 = .ok (.ifCond .eq 5, 3) by decide +kernel) (by decide) ⟨fun c284 => ?_, fun c284 => ?_⟩
            · have w := w.1 c284
              refine X_goto (tgt := 2925) (show decode cL_law 1260 = .ok (.goto 1665, 3) by decide +kernel) (by decide) ?_
              refine X_iinc (j := 5) (v := _ + 4) (ls' := [(0, .ref _), (1, .ref _), (2, .ref _), (3, .ref _), (4, .ref _), (5, .int _), (6, .int _), (7, .int _)]) (show decode cL_law 2925 = .ok (.iinc 5 4, 3) by decide +kernel) rfl rfl (Nat.le_of_ble_eq_true rfl) rfl ?_
              refine X_goto (tgt := 28) (show decode cL_law 2928 = .ok (.goto (-2900), 3) by decide +kernel) (by decide) ?_
              refine X_room (rc' := (n * 33 + 33)) (rs' := (n * 8198 + 8198)) (by omega) (by omega) ?_
              refine X_pick (ls' := [(0, .ref _), (1, .ref _), (2, .ref _), (3, .ref _), (4, .ref _), (5, .int _)]) [0, 1, 2, 3, 4, 5] rfl ?_
              exact ih _ _ _ _ _ _ _ w
            · have w := w.2 c284
              refine X_iconst (v := 0) (show decode cL_law 1258 = .ok (.iconst 0, 1) by decide +kernel) (by decide) ?_
              exact X_iret ⟨(show decode cL_law 1259 = .ok (.ireturn, 1) by decide +kernel), .boolean, rfl, (by decide)⟩ ⟨_, rfl, w⟩
        · have w := w.2 c280
          refine X_iconst (v := 0) (show decode cL_law 1241 = .ok (.iconst 0, 1) by decide +kernel) (by decide) ?_
          exact X_iret ⟨(show decode cL_law 1242 = .ok (.ireturn, 1) by decide +kernel), .boolean, rfl, (by decide)⟩ ⟨_, rfl, w⟩
      by_cases z17 : (mI h x0 x5.toNatClampNeg &&& 63) = 17
      · have w := w.2.2.2.2.2.2.2.2.2.2.2.2.2.2.2.2.2.1 z17
        refine X_tableIn (tgt := 1263) (show decode cL_law 44 = .ok (.tableswitch 2881 0 54 #[236, 292, 372, 440, 496, 552, 615, 683, 739, 795, 851, 864, 920, 976, 1032, 1095, 1151, 1219, 1287, 1367, 1435, 1448, 1473, 1529, 1585, 1648, 1711, 1767, 1823, 1879, 1935, 1991, 2066, 2079, 2092, 2167, 2180, 2193, 2237, 2281, 2294, 2307, 2321, 2386, 2452, 2465, 2478, 2534, 2590, 2648, 2692, 2736, 2780, 2824, 2837], 236) by decide +kernel) (by rw [z17]; decide) (by rw [z17]; decide) (by rw [z17]; rfl) (by decide) ?_
        refine X_aload_n (j := 1) (show decode cL_law 1263 = .ok (.aload_n 1, 1) by decide +kernel) rfl rfl ?_
        refine X_aload_n (j := 0) (show decode cL_law 1264 = .ok (.aload_n 0, 1) by decide +kernel) rfl rfl ?_
        refine X_iload (j := 5) (show decode cL_law 1265 = .ok (.iload 5, 2) by decide +kernel) rfl ?_
        refine X_iconst (v := 1) (show decode cL_law 1267 = .ok (.iconst 1, 1) by decide +kernel) (by decide) ?_
        refine X_iadd (show decode cL_law 1268 = .ok (.iadd, 1) by decide +kernel) ?_
        obtain ⟨s287, w⟩ := w
        refine X_iald (show decode cL_law 1269 = .ok (.iaload, 1) by decide +kernel) (isA_eq s9) s287 ?_
        refine X_aload_n (j := 0) (show decode cL_law 1270 = .ok (.aload_n 0, 1) by decide +kernel) rfl rfl ?_
        refine X_iload (j := 5) (show decode cL_law 1271 = .ok (.iload 5, 2) by decide +kernel) rfl ?_
        refine X_iconst (v := 2) (show decode cL_law 1273 = .ok (.iconst 2, 1) by decide +kernel) (by decide) ?_
        refine X_iadd (show decode cL_law 1274 = .ok (.iadd, 1) by decide +kernel) ?_
        obtain ⟨s288, w⟩ := w
        refine X_iald (show decode cL_law 1275 = .ok (.iaload, 1) by decide +kernel) (isA_eq s9) s288 ?_
        refine X_aload_n (j := 3) (show decode cL_law 1276 = .ok (.aload_n 3, 1) by decide +kernel) rfl rfl ?_
        refine X_sI (rc' := (n * 33 + 63)) (rs' := (n * 8198 + 16378)) (as := [.ref _, .int _, .int _, .ref _]) ms_L_222 (show decode cL_law 1277 = .ok (.invokestatic 222, 3) by decide +kernel) (by decide) (by omega) (by omega) rfl rfl (Nat.le_of_ble_eq_true rfl) (kL_routeLengthByPaths w) (fun E h hk => hk.elim) (fun r290 h289 w => ?_)
        refine X_istore (ls' := [(0, .ref _), (1, .ref _), (2, .ref _), (3, .ref _), (4, .ref _), (5, .int _), (6, .int _)]) (show decode cL_law 1280 = .ok (.istore 6, 2) by decide +kernel) (by decide) rfl ?_
        refine X_aload_n (j := 2) (show decode cL_law 1282 = .ok (.aload_n 2, 1) by decide +kernel) rfl rfl ?_
        refine X_aload_n (j := 0) (show decode cL_law 1283 = .ok (.aload_n 0, 1) by decide +kernel) rfl rfl ?_
        refine X_iload (j := 5) (show decode cL_law 1284 = .ok (.iload 5, 2) by decide +kernel) rfl ?_
        refine X_iconst (v := 1) (show decode cL_law 1286 = .ok (.iconst 1, 1) by decide +kernel) (by decide) ?_
        refine X_iadd (show decode cL_law 1287 = .ok (.iadd, 1) by decide +kernel) ?_
        obtain ⟨s291, w⟩ := w
        obtain ⟨s292, w⟩ := w
        refine X_iald (show decode cL_law 1288 = .ok (.iaload, 1) by decide +kernel) (isA_eq s291) s292 ?_
        refine X_aload_n (j := 0) (show decode cL_law 1289 = .ok (.aload_n 0, 1) by decide +kernel) rfl rfl ?_
        refine X_iload (j := 5) (show decode cL_law 1290 = .ok (.iload 5, 2) by decide +kernel) rfl ?_
        refine X_iconst (v := 2) (show decode cL_law 1292 = .ok (.iconst 2, 1) by decide +kernel) (by decide) ?_
        refine X_iadd (show decode cL_law 1293 = .ok (.iadd, 1) by decide +kernel) ?_
        obtain ⟨s293, w⟩ := w
        refine X_iald (show decode cL_law 1294 = .ok (.iaload, 1) by decide +kernel) (isA_eq s291) s293 ?_
        obtain ⟨s304, w⟩ := w
        refine X_vI (rc' := (n * 33 + 63)) (rs' := (n * 8198 + 16378)) (as := [.int _, .int _]) mv_L_224 (show decode cL_law 1295 = .ok (.invokevirtual 224, 3) by decide +kernel) (by decide) (by omega) (by omega) rfl rfl (Nat.le_of_ble_eq_true rfl) (rcvD s304 (by decide) rfl) (kX10_routeLengthByPaths w) (fun E h hk => hk.elim) (fun r295 h294 w => ?_)
        refine X_istore (ls' := [(0, .ref _), (1, .ref _), (2, .ref _), (3, .ref _), (4, .ref _), (5, .int _), (6, .int _), (7, .int _)]) (show decode cL_law 1298 = .ok (.istore 7, 2) by decide +kernel) (by decide) rfl ?_
        refine X_aload_n (j := 2) (show decode cL_law 1300 = .ok (.aload_n 2, 1) by decide +kernel) rfl rfl ?_
        obtain ⟨s303, w⟩ := w
        refine X_vI (rc' := (n * 33 + 63)) (rs' := (n * 8198 + 16378)) (as := []) mv_L_168 (show decode cL_law 1301 = .ok (.invokevirtual 168, 3) by decide +kernel) (by decide) (by omega) (by omega) rfl rfl (Nat.le_of_ble_eq_true rfl) (rcvD s303 (by decide) rfl) (kX10_thrown w) (fun E h hk => hk.elim) (fun r297 h296 w => ?_)
        refine X_iload (j := 6) (show decode cL_law 1304 = .ok (.iload 6, 2) by decide +kernel) rfl ?_
        refine X_icmp_eq (tgt := 1311) (show decode cL_law 1306 = .ok (.if_icmp .eq 5, 3) by decide +kernel) (by decide) ⟨fun c298 => ?_, fun c298 => ?_⟩
        · have w := w.1 c298
          refine X_iload (j := 6) (show decode cL_law 1311 = .ok (.iload 6, 2) by decide +kernel) rfl ?_
          refine X_if_ne (tgt := 1328) (show decode cL_law 1313 = .ok (.ifCond .ne 15, 3) by decide +kernel) (by decide) ⟨fun c299 => ?_, fun c299 => ?_⟩
          · have w := w.1 c299
            refine X_goto (tgt := 2925) (show decode cL_law 1328 = .ok (.goto 1597, 3) by decide +kernel) (by decide) ?_
            refine X_iinc (j := 5) (v := _ + 4) (ls' := [(0, .ref _), (1, .ref _), (2, .ref _), (3, .ref _), (4, .ref _), (5, .int _), (6, .int _), (7, .int _)]) (show decode cL_law 2925 = .ok (.iinc 5 4, 3) by decide +kernel) rfl rfl (Nat.le_of_ble_eq_true rfl) rfl ?_
            refine X_goto (tgt := 28) (show decode cL_law 2928 = .ok (.goto (-2900), 3) by decide +kernel) (by decide) ?_
            refine X_room (rc' := (n * 33 + 33)) (rs' := (n * 8198 + 8198)) (by omega) (by omega) ?_
            refine X_pick (ls' := [(0, .ref _), (1, .ref _), (2, .ref _), (3, .ref _), (4, .ref _), (5, .int _)]) [0, 1, 2, 3, 4, 5] rfl ?_
            exact ih _ _ _ _ _ _ _ w
          · have w := w.2 c299
            refine X_aload_n (j := 3) (show decode cL_law 1316 = .ok (.aload_n 3, 1) by decide +kernel) rfl rfl ?_
            refine X_iconst (v := 0) (show decode cL_law 1317 = .ok (.iconst 0, 1) by decide +kernel) (by decide) ?_
            obtain ⟨s300, w⟩ := w
            obtain ⟨s301, w⟩ := w
            refine X_lald (show decode cL_law 1318 = .ok (.laload, 1) by decide +kernel) (isA_eq s300) s301 ?_
            refine X_iload (j := 7) (show decode cL_law 1319 = .ok (.iload 7, 2) by decide +kernel) rfl ?_
            refine X_i2l (show decode cL_law 1321 = .ok (.i2l, 1) by decide +kernel) ?_
            refine X_lcmp (show decode cL_law 1322 = .ok (.lcmp, 1) by decide +kernel) ?_
            refine X_if_eq (tgt := 1328) (show decode cL_law 1323 = .ok (.ifCond .eq 5, 3) by decide +kernel) (by decide) ⟨fun c302 => ?_, fun c302 => ?_⟩
            · have w := w.1 c302
              refine X_goto (tgt := 2925) (show decode cL_law 1328 = .ok (.goto 1597, 3) by decide +kernel) (by decide) ?_
              refine X_iinc (j := 5) (v := _ + 4) (ls' := [(0, .ref _), (1, .ref _), (2, .ref _), (3, .ref _), (4, .ref _), (5, .int _), (6, .int _), (7, .int _)]) (show decode cL_law 2925 = .ok (.iinc 5 4, 3) by decide +kernel) rfl rfl (Nat.le_of_ble_eq_true rfl) rfl ?_
              refine X_goto (tgt := 28) (show decode cL_law 2928 = .ok (.goto (-2900), 3) by decide +kernel) (by decide) ?_
              refine X_room (rc' := (n * 33 + 33)) (rs' := (n * 8198 + 8198)) (by omega) (by omega) ?_
              refine X_pick (ls' := [(0, .ref _), (1, .ref _), (2, .ref _), (3, .ref _), (4, .ref _), (5, .int _)]) [0, 1, 2, 3, 4, 5] rfl ?_
              exact ih _ _ _ _ _ _ _ w
            · have w := w.2 c302
              refine X_iconst (v := 0) (show decode cL_law 1326 = .ok (.iconst 0, 1) by decide +kernel) (by decide) ?_
              exact X_iret ⟨(show decode cL_law 1327 = .ok (.ireturn, 1) by decide +kernel), .boolean, rfl, (by decide)⟩ ⟨_, rfl, w⟩
        · have w := w.2 c298
          refine X_iconst (v := 0) (show decode cL_law 1309 = .ok (.iconst 0, 1) by decide +kernel) (by decide) ?_
          exact X_iret ⟨(show decode cL_law 1310 = .ok (.ireturn, 1) by decide +kernel), .boolean, rfl, (by decide)⟩ ⟨_, rfl, w⟩
      by_cases z18 : (mI h x0 x5.toNatClampNeg &&& 63) = 18
      · have w := w.2.2.2.2.2.2.2.2.2.2.2.2.2.2.2.2.2.2.1 z18
        refine X_tableIn (tgt := 1331) (show decode cL_law 44 = .ok (.tableswitch 2881 0 54 #[236, 292, 372, 440, 496, 552, 615, 683, 739, 795, 851, 864, 920, 976, 1032, 1095, 1151, 1219, 1287, 1367, 1435, 1448, 1473, 1529, 1585, 1648, 1711, 1767, 1823, 1879, 1935, 1991, 2066, 2079, 2092, 2167, 2180, 2193, 2237, 2281, 2294, 2307, 2321, 2386, 2452, 2465, 2478, 2534, 2590, 2648, 2692, 2736, 2780, 2824, 2837], 236) by decide +kernel) (by rw [z18]; decide) (by rw [z18]; decide) (by rw [z18]; rfl) (by decide) ?_
        refine X_aload_n (j := 1) (show decode cL_law 1331 = .ok (.aload_n 1, 1) by decide +kernel) rfl rfl ?_
        refine X_aload_n (j := 0) (show decode cL_law 1332 = .ok (.aload_n 0, 1) by decide +kernel) rfl rfl ?_
        refine X_iload (j := 5) (show decode cL_law 1333 = .ok (.iload 5, 2) by decide +kernel) rfl ?_
        refine X_iconst (v := 1) (show decode cL_law 1335 = .ok (.iconst 1, 1) by decide +kernel) (by decide) ?_
        refine X_iadd (show decode cL_law 1336 = .ok (.iadd, 1) by decide +kernel) ?_
        obtain ⟨s305, w⟩ := w
        refine X_iald (show decode cL_law 1337 = .ok (.iaload, 1) by decide +kernel) (isA_eq s9) s305 ?_
        refine X_aload_n (j := 0) (show decode cL_law 1338 = .ok (.aload_n 0, 1) by decide +kernel) rfl rfl ?_
        refine X_iload (j := 5) (show decode cL_law 1339 = .ok (.iload 5, 2) by decide +kernel) rfl ?_
        refine X_iconst (v := 2) (show decode cL_law 1341 = .ok (.iconst 2, 1) by decide +kernel) (by decide) ?_
        refine X_iadd (show decode cL_law 1342 = .ok (.iadd, 1) by decide +kernel) ?_
        obtain ⟨s306, w⟩ := w
        refine X_iald (show decode cL_law 1343 = .ok (.iaload, 1) by decide +kernel) (isA_eq s9) s306 ?_
        refine X_aload_n (j := 0) (show decode cL_law 1344 = .ok (.aload_n 0, 1) by decide +kernel) rfl rfl ?_
        refine X_iload (j := 5) (show decode cL_law 1345 = .ok (.iload 5, 2) by decide +kernel) rfl ?_
        refine X_iconst (v := 3) (show decode cL_law 1347 = .ok (.iconst 3, 1) by decide +kernel) (by decide) ?_
        refine X_iadd (show decode cL_law 1348 = .ok (.iadd, 1) by decide +kernel) ?_
        obtain ⟨s307, w⟩ := w
        refine X_iald (show decode cL_law 1349 = .ok (.iaload, 1) by decide +kernel) (isA_eq s9) s307 ?_
        refine X_aload_n (j := 3) (show decode cL_law 1350 = .ok (.aload_n 3, 1) by decide +kernel) rfl rfl ?_
        refine X_sI (rc' := (n * 33 + 62)) (rs' := (n * 8198 + 16372)) (as := [.ref _, .int _, .int _, .int _, .ref _]) ms_L_225 (show decode cL_law 1351 = .ok (.invokestatic 225, 3) by decide +kernel) (by decide) (by omega) (by omega) rfl rfl (Nat.le_of_ble_eq_true rfl) (kL_routeBlock w) (fun E h hk => hk.elim) (fun r309 h308 w => ?_)
        refine X_istore (ls' := [(0, .ref _), (1, .ref _), (2, .ref _), (3, .ref _), (4, .ref _), (5, .int _), (6, .int _)]) (show decode cL_law 1354 = .ok (.istore 6, 2) by decide +kernel) (by decide) rfl ?_
        refine X_aload_n (j := 2) (show decode cL_law 1356 = .ok (.aload_n 2, 1) by decide +kernel) rfl rfl ?_
        refine X_aload_n (j := 0) (show decode cL_law 1357 = .ok (.aload_n 0, 1) by decide +kernel) rfl rfl ?_
        refine X_iload (j := 5) (show decode cL_law 1358 = .ok (.iload 5, 2) by decide +kernel) rfl ?_
        refine X_iconst (v := 1) (show decode cL_law 1360 = .ok (.iconst 1, 1) by decide +kernel) (by decide) ?_
        refine X_iadd (show decode cL_law 1361 = .ok (.iadd, 1) by decide +kernel) ?_
        obtain ⟨s310, w⟩ := w
        obtain ⟨s311, w⟩ := w
        refine X_iald (show decode cL_law 1362 = .ok (.iaload, 1) by decide +kernel) (isA_eq s310) s311 ?_
        refine X_aload_n (j := 0) (show decode cL_law 1363 = .ok (.aload_n 0, 1) by decide +kernel) rfl rfl ?_
        refine X_iload (j := 5) (show decode cL_law 1364 = .ok (.iload 5, 2) by decide +kernel) rfl ?_
        refine X_iconst (v := 2) (show decode cL_law 1366 = .ok (.iconst 2, 1) by decide +kernel) (by decide) ?_
        refine X_iadd (show decode cL_law 1367 = .ok (.iadd, 1) by decide +kernel) ?_
        obtain ⟨s312, w⟩ := w
        refine X_iald (show decode cL_law 1368 = .ok (.iaload, 1) by decide +kernel) (isA_eq s310) s312 ?_
        refine X_aload_n (j := 0) (show decode cL_law 1369 = .ok (.aload_n 0, 1) by decide +kernel) rfl rfl ?_
        refine X_iload (j := 5) (show decode cL_law 1370 = .ok (.iload 5, 2) by decide +kernel) rfl ?_
        refine X_iconst (v := 3) (show decode cL_law 1372 = .ok (.iconst 3, 1) by decide +kernel) (by decide) ?_
        refine X_iadd (show decode cL_law 1373 = .ok (.iadd, 1) by decide +kernel) ?_
        obtain ⟨s313, w⟩ := w
        refine X_iald (show decode cL_law 1374 = .ok (.iaload, 1) by decide +kernel) (isA_eq s310) s313 ?_
        obtain ⟨s324, w⟩ := w
        refine X_vI (rc' := (n * 33 + 62)) (rs' := (n * 8198 + 16372)) (as := [.int _, .int _, .int _]) mv_L_227 (show decode cL_law 1375 = .ok (.invokevirtual 227, 3) by decide +kernel) (by decide) (by omega) (by omega) rfl rfl (Nat.le_of_ble_eq_true rfl) (rcvD s324 (by decide) rfl) (kX10_routeBlock w) (fun E h hk => hk.elim) (fun r315 h314 w => ?_)
        refine X_istore (ls' := [(0, .ref _), (1, .ref _), (2, .ref _), (3, .ref _), (4, .ref _), (5, .int _), (6, .int _), (7, .int _)]) (show decode cL_law 1378 = .ok (.istore 7, 2) by decide +kernel) (by decide) rfl ?_
        refine X_aload_n (j := 2) (show decode cL_law 1380 = .ok (.aload_n 2, 1) by decide +kernel) rfl rfl ?_
        obtain ⟨s323, w⟩ := w
        refine X_vI (rc' := (n * 33 + 62)) (rs' := (n * 8198 + 16372)) (as := []) mv_L_168 (show decode cL_law 1381 = .ok (.invokevirtual 168, 3) by decide +kernel) (by decide) (by omega) (by omega) rfl rfl (Nat.le_of_ble_eq_true rfl) (rcvD s323 (by decide) rfl) (kX10_thrown w) (fun E h hk => hk.elim) (fun r317 h316 w => ?_)
        refine X_iload (j := 6) (show decode cL_law 1384 = .ok (.iload 6, 2) by decide +kernel) rfl ?_
        refine X_icmp_eq (tgt := 1391) (show decode cL_law 1386 = .ok (.if_icmp .eq 5, 3) by decide +kernel) (by decide) ⟨fun c318 => ?_, fun c318 => ?_⟩
        · have w := w.1 c318
          refine X_iload (j := 6) (show decode cL_law 1391 = .ok (.iload 6, 2) by decide +kernel) rfl ?_
          refine X_if_ne (tgt := 1408) (show decode cL_law 1393 = .ok (.ifCond .ne 15, 3) by decide +kernel) (by decide) ⟨fun c319 => ?_, fun c319 => ?_⟩
          · have w := w.1 c319
            refine X_goto (tgt := 2925) (show decode cL_law 1408 = .ok (.goto 1517, 3) by decide +kernel) (by decide) ?_
            refine X_iinc (j := 5) (v := _ + 4) (ls' := [(0, .ref _), (1, .ref _), (2, .ref _), (3, .ref _), (4, .ref _), (5, .int _), (6, .int _), (7, .int _)]) (show decode cL_law 2925 = .ok (.iinc 5 4, 3) by decide +kernel) rfl rfl (Nat.le_of_ble_eq_true rfl) rfl ?_
            refine X_goto (tgt := 28) (show decode cL_law 2928 = .ok (.goto (-2900), 3) by decide +kernel) (by decide) ?_
            refine X_room (rc' := (n * 33 + 33)) (rs' := (n * 8198 + 8198)) (by omega) (by omega) ?_
            refine X_pick (ls' := [(0, .ref _), (1, .ref _), (2, .ref _), (3, .ref _), (4, .ref _), (5, .int _)]) [0, 1, 2, 3, 4, 5] rfl ?_
            exact ih _ _ _ _ _ _ _ w
          · have w := w.2 c319
            refine X_aload_n (j := 3) (show decode cL_law 1396 = .ok (.aload_n 3, 1) by decide +kernel) rfl rfl ?_
            refine X_iconst (v := 0) (show decode cL_law 1397 = .ok (.iconst 0, 1) by decide +kernel) (by decide) ?_
            obtain ⟨s320, w⟩ := w
            obtain ⟨s321, w⟩ := w
            refine X_lald (show decode cL_law 1398 = .ok (.laload, 1) by decide +kernel) (isA_eq s320) s321 ?_
            refine X_iload (j := 7) (show decode cL_law 1399 = .ok (.iload 7, 2) by decide +kernel) rfl ?_
            refine X_i2l (show decode cL_law 1401 = .ok (.i2l, 1) by decide +kernel) ?_
            refine X_lcmp (show decode cL_law 1402 = .ok (.lcmp, 1) by decide +kernel) ?_
            refine X_if_eq (tgt := 1408) (show decode cL_law 1403 = .ok (.ifCond .eq 5, 3) by decide +kernel) (by decide) ⟨fun c322 => ?_, fun c322 => ?_⟩
            · have w := w.1 c322
              refine X_goto (tgt := 2925) (show decode cL_law 1408 = .ok (.goto 1517, 3) by decide +kernel) (by decide) ?_
              refine X_iinc (j := 5) (v := _ + 4) (ls' := [(0, .ref _), (1, .ref _), (2, .ref _), (3, .ref _), (4, .ref _), (5, .int _), (6, .int _), (7, .int _)]) (show decode cL_law 2925 = .ok (.iinc 5 4, 3) by decide +kernel) rfl rfl (Nat.le_of_ble_eq_true rfl) rfl ?_
              refine X_goto (tgt := 28) (show decode cL_law 2928 = .ok (.goto (-2900), 3) by decide +kernel) (by decide) ?_
              refine X_room (rc' := (n * 33 + 33)) (rs' := (n * 8198 + 8198)) (by omega) (by omega) ?_
              refine X_pick (ls' := [(0, .ref _), (1, .ref _), (2, .ref _), (3, .ref _), (4, .ref _), (5, .int _)]) [0, 1, 2, 3, 4, 5] rfl ?_
              exact ih _ _ _ _ _ _ _ w
            · have w := w.2 c322
              refine X_iconst (v := 0) (show decode cL_law 1406 = .ok (.iconst 0, 1) by decide +kernel) (by decide) ?_
              exact X_iret ⟨(show decode cL_law 1407 = .ok (.ireturn, 1) by decide +kernel), .boolean, rfl, (by decide)⟩ ⟨_, rfl, w⟩
        · have w := w.2 c318
          refine X_iconst (v := 0) (show decode cL_law 1389 = .ok (.iconst 0, 1) by decide +kernel) (by decide) ?_
          exact X_iret ⟨(show decode cL_law 1390 = .ok (.ireturn, 1) by decide +kernel), .boolean, rfl, (by decide)⟩ ⟨_, rfl, w⟩
      by_cases z19 : (mI h x0 x5.toNatClampNeg &&& 63) = 19
      · have w := w.2.2.2.2.2.2.2.2.2.2.2.2.2.2.2.2.2.2.2.1 z19
        refine X_tableIn (tgt := 1411) (show decode cL_law 44 = .ok (.tableswitch 2881 0 54 #[236, 292, 372, 440, 496, 552, 615, 683, 739, 795, 851, 864, 920, 976, 1032, 1095, 1151, 1219, 1287, 1367, 1435, 1448, 1473, 1529, 1585, 1648, 1711, 1767, 1823, 1879, 1935, 1991, 2066, 2079, 2092, 2167, 2180, 2193, 2237, 2281, 2294, 2307, 2321, 2386, 2452, 2465, 2478, 2534, 2590, 2648, 2692, 2736, 2780, 2824, 2837], 236) by decide +kernel) (by rw [z19]; decide) (by rw [z19]; decide) (by rw [z19]; rfl) (by decide) ?_
        refine X_aload_n (j := 1) (show decode cL_law 1411 = .ok (.aload_n 1, 1) by decide +kernel) rfl rfl ?_
        refine X_aload_n (j := 0) (show decode cL_law 1412 = .ok (.aload_n 0, 1) by decide +kernel) rfl rfl ?_
        refine X_iload (j := 5) (show decode cL_law 1413 = .ok (.iload 5, 2) by decide +kernel) rfl ?_
        refine X_iconst (v := 1) (show decode cL_law 1415 = .ok (.iconst 1, 1) by decide +kernel) (by decide) ?_
        refine X_iadd (show decode cL_law 1416 = .ok (.iadd, 1) by decide +kernel) ?_
        obtain ⟨s325, w⟩ := w
        refine X_iald (show decode cL_law 1417 = .ok (.iaload, 1) by decide +kernel) (isA_eq s9) s325 ?_
        refine X_aload_n (j := 0) (show decode cL_law 1418 = .ok (.aload_n 0, 1) by decide +kernel) rfl rfl ?_
        refine X_iload (j := 5) (show decode cL_law 1419 = .ok (.iload 5, 2) by decide +kernel) rfl ?_
        refine X_iconst (v := 2) (show decode cL_law 1421 = .ok (.iconst 2, 1) by decide +kernel) (by decide) ?_
        refine X_iadd (show decode cL_law 1422 = .ok (.iadd, 1) by decide +kernel) ?_
        obtain ⟨s326, w⟩ := w
        refine X_iald (show decode cL_law 1423 = .ok (.iaload, 1) by decide +kernel) (isA_eq s9) s326 ?_
        refine X_aload_n (j := 3) (show decode cL_law 1424 = .ok (.aload_n 3, 1) by decide +kernel) rfl rfl ?_
        refine X_sI (rc' := (n * 33 + 64)) (rs' := (n * 8198 + 16384)) (as := [.ref _, .int _, .int _, .ref _]) ms_L_228 (show decode cL_law 1425 = .ok (.invokestatic 228, 3) by decide +kernel) (by decide) (by omega) (by omega) rfl rfl (Nat.le_of_ble_eq_true rfl) (kL_paths w) (fun E h hk => hk.elim) (fun r328 h327 w => ?_)
        refine X_istore (ls' := [(0, .ref _), (1, .ref _), (2, .ref _), (3, .ref _), (4, .ref _), (5, .int _), (6, .int _)]) (show decode cL_law 1428 = .ok (.istore 6, 2) by decide +kernel) (by decide) rfl ?_
        refine X_aload_n (j := 2) (show decode cL_law 1430 = .ok (.aload_n 2, 1) by decide +kernel) rfl rfl ?_
        refine X_aload_n (j := 0) (show decode cL_law 1431 = .ok (.aload_n 0, 1) by decide +kernel) rfl rfl ?_
        refine X_iload (j := 5) (show decode cL_law 1432 = .ok (.iload 5, 2) by decide +kernel) rfl ?_
        refine X_iconst (v := 1) (show decode cL_law 1434 = .ok (.iconst 1, 1) by decide +kernel) (by decide) ?_
        refine X_iadd (show decode cL_law 1435 = .ok (.iadd, 1) by decide +kernel) ?_
        obtain ⟨s329, w⟩ := w
        obtain ⟨s330, w⟩ := w
        refine X_iald (show decode cL_law 1436 = .ok (.iaload, 1) by decide +kernel) (isA_eq s329) s330 ?_
        refine X_aload_n (j := 0) (show decode cL_law 1437 = .ok (.aload_n 0, 1) by decide +kernel) rfl rfl ?_
        refine X_iload (j := 5) (show decode cL_law 1438 = .ok (.iload 5, 2) by decide +kernel) rfl ?_
        refine X_iconst (v := 2) (show decode cL_law 1440 = .ok (.iconst 2, 1) by decide +kernel) (by decide) ?_
        refine X_iadd (show decode cL_law 1441 = .ok (.iadd, 1) by decide +kernel) ?_
        obtain ⟨s331, w⟩ := w
        refine X_iald (show decode cL_law 1442 = .ok (.iaload, 1) by decide +kernel) (isA_eq s329) s331 ?_
        obtain ⟨s342, w⟩ := w
        refine X_vI (rc' := (n * 33 + 64)) (rs' := (n * 8198 + 16384)) (as := [.int _, .int _]) mv_L_230 (show decode cL_law 1443 = .ok (.invokevirtual 230, 3) by decide +kernel) (by decide) (by omega) (by omega) rfl rfl (Nat.le_of_ble_eq_true rfl) (rcvD s342 (by decide) rfl) (kX10_paths w) (fun E h hk => hk.elim) (fun r333 h332 w => ?_)
        refine X_istore (ls' := [(0, .ref _), (1, .ref _), (2, .ref _), (3, .ref _), (4, .ref _), (5, .int _), (6, .int _), (7, .int _)]) (show decode cL_law 1446 = .ok (.istore 7, 2) by decide +kernel) (by decide) rfl ?_
        refine X_aload_n (j := 2) (show decode cL_law 1448 = .ok (.aload_n 2, 1) by decide +kernel) rfl rfl ?_
        obtain ⟨s341, w⟩ := w
        refine X_vI (rc' := (n * 33 + 64)) (rs' := (n * 8198 + 16384)) (as := []) mv_L_168 (show decode cL_law 1449 = .ok (.invokevirtual 168, 3) by decide +kernel) (by decide) (by omega) (by omega) rfl rfl (Nat.le_of_ble_eq_true rfl) (rcvD s341 (by decide) rfl) (kX10_thrown w) (fun E h hk => hk.elim) (fun r335 h334 w => ?_)
        refine X_iload (j := 6) (show decode cL_law 1452 = .ok (.iload 6, 2) by decide +kernel) rfl ?_
        refine X_icmp_eq (tgt := 1459) (show decode cL_law 1454 = .ok (.if_icmp .eq 5, 3) by decide +kernel) (by decide) ⟨fun c336 => ?_, fun c336 => ?_⟩
        · have w := w.1 c336
          refine X_iload (j := 6) (show decode cL_law 1459 = .ok (.iload 6, 2) by decide +kernel) rfl ?_
          refine X_if_ne (tgt := 1476) (show decode cL_law 1461 = .ok (.ifCond .ne 15, 3) by decide +kernel) (by decide) ⟨fun c337 => ?_, fun c337 => ?_⟩
          · have w := w.1 c337
            refine X_goto (tgt := 2925) (show decode cL_law 1476 = .ok (.goto 1449, 3) by decide +kernel) (by decide) ?_
            refine X_iinc (j := 5) (v := _ + 4) (ls' := [(0, .ref _), (1, .ref _), (2, .ref _), (3, .ref _), (4, .ref _), (5, .int _), (6, .int _), (7, .int _)]) (show decode cL_law 2925 = .ok (.iinc 5 4, 3) by decide +kernel) rfl rfl (Nat.le_of_ble_eq_true rfl) rfl ?_
            refine X_goto (tgt := 28) (show decode cL_law 2928 = .ok (.goto (-2900), 3) by decide +kernel) (by decide) ?_
            refine X_room (rc' := (n * 33 + 33)) (rs' := (n * 8198 + 8198)) (by omega) (by omega) ?_
            refine X_pick (ls' := [(0, .ref _), (1, .ref _), (2, .ref _), (3, .ref _), (4, .ref _), (5, .int _)]) [0, 1, 2, 3, 4, 5] rfl ?_
            exact ih _ _ _ _ _ _ _ w
          · have w := w.2 c337
            refine X_aload_n (j := 3) (show decode cL_law 1464 = .ok (.aload_n 3, 1) by decide +kernel) rfl rfl ?_
            refine X_iconst (v := 0) (show decode cL_law 1465 = .ok (.iconst 0, 1) by decide +kernel) (by decide) ?_
            obtain ⟨s338, w⟩ := w
            obtain ⟨s339, w⟩ := w
            refine X_lald (show decode cL_law 1466 = .ok (.laload, 1) by decide +kernel) (isA_eq s338) s339 ?_
            refine X_iload (j := 7) (show decode cL_law 1467 = .ok (.iload 7, 2) by decide +kernel) rfl ?_
            refine X_i2l (show decode cL_law 1469 = .ok (.i2l, 1) by decide +kernel) ?_
            refine X_lcmp (show decode cL_law 1470 = .ok (.lcmp, 1) by decide +kernel) ?_
            refine X_if_eq (tgt := 1476) (show decode cL_law 1471 = .ok (.ifCond .eq 5, 3) by decide +kernel) (by decide) ⟨fun c340 => ?_, fun c340 => ?_⟩
            · have w := w.1 c340
              refine X_goto (tgt := 2925) (show decode cL_law 1476 = .ok (.goto 1449, 3) by decide +kernel) (by decide) ?_
              refine X_iinc (j := 5) (v := _ + 4) (ls' := [(0, .ref _), (1, .ref _), (2, .ref _), (3, .ref _), (4, .ref _), (5, .int _), (6, .int _), (7, .int _)]) (show decode cL_law 2925 = .ok (.iinc 5 4, 3) by decide +kernel) rfl rfl (Nat.le_of_ble_eq_true rfl) rfl ?_
              refine X_goto (tgt := 28) (show decode cL_law 2928 = .ok (.goto (-2900), 3) by decide +kernel) (by decide) ?_
              refine X_room (rc' := (n * 33 + 33)) (rs' := (n * 8198 + 8198)) (by omega) (by omega) ?_
              refine X_pick (ls' := [(0, .ref _), (1, .ref _), (2, .ref _), (3, .ref _), (4, .ref _), (5, .int _)]) [0, 1, 2, 3, 4, 5] rfl ?_
              exact ih _ _ _ _ _ _ _ w
            · have w := w.2 c340
              refine X_iconst (v := 0) (show decode cL_law 1474 = .ok (.iconst 0, 1) by decide +kernel) (by decide) ?_
              exact X_iret ⟨(show decode cL_law 1475 = .ok (.ireturn, 1) by decide +kernel), .boolean, rfl, (by decide)⟩ ⟨_, rfl, w⟩
        · have w := w.2 c336
          refine X_iconst (v := 0) (show decode cL_law 1457 = .ok (.iconst 0, 1) by decide +kernel) (by decide) ?_
          exact X_iret ⟨(show decode cL_law 1458 = .ok (.ireturn, 1) by decide +kernel), .boolean, rfl, (by decide)⟩ ⟨_, rfl, w⟩
      by_cases z20 : (mI h x0 x5.toNatClampNeg &&& 63) = 20
      · have w := w.2.2.2.2.2.2.2.2.2.2.2.2.2.2.2.2.2.2.2.2.1 z20
        refine X_tableIn (tgt := 1479) (show decode cL_law 44 = .ok (.tableswitch 2881 0 54 #[236, 292, 372, 440, 496, 552, 615, 683, 739, 795, 851, 864, 920, 976, 1032, 1095, 1151, 1219, 1287, 1367, 1435, 1448, 1473, 1529, 1585, 1648, 1711, 1767, 1823, 1879, 1935, 1991, 2066, 2079, 2092, 2167, 2180, 2193, 2237, 2281, 2294, 2307, 2321, 2386, 2452, 2465, 2478, 2534, 2590, 2648, 2692, 2736, 2780, 2824, 2837], 236) by decide +kernel) (by rw [z20]; decide) (by rw [z20]; decide) (by rw [z20]; rfl) (by decide) ?_
        refine X_aload_n (j := 1) (show decode cL_law 1479 = .ok (.aload_n 1, 1) by decide +kernel) rfl rfl ?_
        obtain ⟨s349, w⟩ := w
        refine X_vI (rc' := (n * 33 + 66)) (rs' := (n * 8198 + 16396)) (as := []) mv_L_231 (show decode cL_law 1480 = .ok (.invokevirtual 231, 3) by decide +kernel) (by decide) (by omega) (by omega) rfl rfl (Nat.le_of_ble_eq_true rfl) (rcvD s349 (by decide) rfl) (kX9_trains w) (fun E h hk => hk.elim) (fun r344 h343 w => ?_)
        refine X_aload_n (j := 2) (show decode cL_law 1483 = .ok (.aload_n 2, 1) by decide +kernel) rfl rfl ?_
        obtain ⟨s348, w⟩ := w
        refine X_vI (rc' := (n * 33 + 66)) (rs' := (n * 8198 + 16396)) (as := []) mv_L_234 (show decode cL_law 1484 = .ok (.invokevirtual 234, 3) by decide +kernel) (by decide) (by omega) (by omega) rfl rfl (Nat.le_of_ble_eq_true rfl) (rcvD s348 (by decide) rfl) (kX10_trains w) (fun E h hk => hk.elim) (fun r346 h345 w => ?_)
        refine X_icmp_eq (tgt := 2925) (show decode cL_law 1487 = .ok (.if_icmp .eq 1438, 3) by decide +kernel) (by decide) ⟨fun c347 => ?_, fun c347 => ?_⟩
        · have w := w.1 c347
          refine X_iinc (j := 5) (v := _ + 4) (ls' := [(0, .ref _), (1, .ref _), (2, .ref _), (3, .ref _), (4, .ref _), (5, .int _)]) (show decode cL_law 2925 = .ok (.iinc 5 4, 3) by decide +kernel) rfl rfl (Nat.le_of_ble_eq_true rfl) rfl ?_
          refine X_goto (tgt := 28) (show decode cL_law 2928 = .ok (.goto (-2900), 3) by decide +kernel) (by decide) ?_
          refine X_room (rc' := (n * 33 + 33)) (rs' := (n * 8198 + 8198)) (by omega) (by omega) ?_
          exact ih _ _ _ _ _ _ _ w
        · have w := w.2 c347
          refine X_iconst (v := 0) (show decode cL_law 1490 = .ok (.iconst 0, 1) by decide +kernel) (by decide) ?_
          exact X_iret ⟨(show decode cL_law 1491 = .ok (.ireturn, 1) by decide +kernel), .boolean, rfl, (by decide)⟩ ⟨_, rfl, w⟩
      by_cases z21 : (mI h x0 x5.toNatClampNeg &&& 63) = 21
      · have w := w.2.2.2.2.2.2.2.2.2.2.2.2.2.2.2.2.2.2.2.2.2.1 z21
        refine X_tableIn (tgt := 1492) (show decode cL_law 44 = .ok (.tableswitch 2881 0 54 #[236, 292, 372, 440, 496, 552, 615, 683, 739, 795, 851, 864, 920, 976, 1032, 1095, 1151, 1219, 1287, 1367, 1435, 1448, 1473, 1529, 1585, 1648, 1711, 1767, 1823, 1879, 1935, 1991, 2066, 2079, 2092, 2167, 2180, 2193, 2237, 2281, 2294, 2307, 2321, 2386, 2452, 2465, 2478, 2534, 2590, 2648, 2692, 2736, 2780, 2824, 2837], 236) by decide +kernel) (by rw [z21]; decide) (by rw [z21]; decide) (by rw [z21]; rfl) (by decide) ?_
        refine X_aload_n (j := 1) (show decode cL_law 1492 = .ok (.aload_n 1, 1) by decide +kernel) rfl rfl ?_
        refine X_aload_n (j := 0) (show decode cL_law 1493 = .ok (.aload_n 0, 1) by decide +kernel) rfl rfl ?_
        refine X_iload (j := 5) (show decode cL_law 1494 = .ok (.iload 5, 2) by decide +kernel) rfl ?_
        refine X_iconst (v := 1) (show decode cL_law 1496 = .ok (.iconst 1, 1) by decide +kernel) (by decide) ?_
        refine X_iadd (show decode cL_law 1497 = .ok (.iadd, 1) by decide +kernel) ?_
        obtain ⟨s350, w⟩ := w
        refine X_iald (show decode cL_law 1498 = .ok (.iaload, 1) by decide +kernel) (isA_eq s9) s350 ?_
        obtain ⟨s359, w⟩ := w
        refine X_vI (rc' := (n * 33 + 66)) (rs' := (n * 8198 + 16396)) (as := [.int _]) mv_L_235 (show decode cL_law 1499 = .ok (.invokevirtual 235, 3) by decide +kernel) (by decide) (by omega) (by omega) rfl rfl (Nat.le_of_ble_eq_true rfl) (rcvD s359 (by decide) rfl) (kX9_isPresent w) (fun E h hk => hk.elim) (fun r352 h351 w => ?_)
        refine X_aload_n (j := 2) (show decode cL_law 1502 = .ok (.aload_n 2, 1) by decide +kernel) rfl rfl ?_
        refine X_aload_n (j := 0) (show decode cL_law 1503 = .ok (.aload_n 0, 1) by decide +kernel) rfl rfl ?_
        refine X_iload (j := 5) (show decode cL_law 1504 = .ok (.iload 5, 2) by decide +kernel) rfl ?_
        refine X_iconst (v := 1) (show decode cL_law 1506 = .ok (.iconst 1, 1) by decide +kernel) (by decide) ?_
        refine X_iadd (show decode cL_law 1507 = .ok (.iadd, 1) by decide +kernel) ?_
        obtain ⟨s353, w⟩ := w
        obtain ⟨s354, w⟩ := w
        refine X_iald (show decode cL_law 1508 = .ok (.iaload, 1) by decide +kernel) (isA_eq s353) s354 ?_
        obtain ⟨s358, w⟩ := w
        refine X_vI (rc' := (n * 33 + 66)) (rs' := (n * 8198 + 16396)) (as := [.int _]) mv_L_238 (show decode cL_law 1509 = .ok (.invokevirtual 238, 3) by decide +kernel) (by decide) (by omega) (by omega) rfl rfl (Nat.le_of_ble_eq_true rfl) (rcvD s358 (by decide) rfl) (kX10_isPresent w) (fun E h hk => hk.elim) (fun r356 h355 w => ?_)
        refine X_icmp_eq (tgt := 2925) (show decode cL_law 1512 = .ok (.if_icmp .eq 1413, 3) by decide +kernel) (by decide) ⟨fun c357 => ?_, fun c357 => ?_⟩
        · have w := w.1 c357
          refine X_iinc (j := 5) (v := _ + 4) (ls' := [(0, .ref _), (1, .ref _), (2, .ref _), (3, .ref _), (4, .ref _), (5, .int _)]) (show decode cL_law 2925 = .ok (.iinc 5 4, 3) by decide +kernel) rfl rfl (Nat.le_of_ble_eq_true rfl) rfl ?_
          refine X_goto (tgt := 28) (show decode cL_law 2928 = .ok (.goto (-2900), 3) by decide +kernel) (by decide) ?_
          refine X_room (rc' := (n * 33 + 33)) (rs' := (n * 8198 + 8198)) (by omega) (by omega) ?_
          exact ih _ _ _ _ _ _ _ w
        · have w := w.2 c357
          refine X_iconst (v := 0) (show decode cL_law 1515 = .ok (.iconst 0, 1) by decide +kernel) (by decide) ?_
          exact X_iret ⟨(show decode cL_law 1516 = .ok (.ireturn, 1) by decide +kernel), .boolean, rfl, (by decide)⟩ ⟨_, rfl, w⟩
      by_cases z22 : (mI h x0 x5.toNatClampNeg &&& 63) = 22
      · have w := w.2.2.2.2.2.2.2.2.2.2.2.2.2.2.2.2.2.2.2.2.2.2.1 z22
        refine X_tableIn (tgt := 1517) (show decode cL_law 44 = .ok (.tableswitch 2881 0 54 #[236, 292, 372, 440, 496, 552, 615, 683, 739, 795, 851, 864, 920, 976, 1032, 1095, 1151, 1219, 1287, 1367, 1435, 1448, 1473, 1529, 1585, 1648, 1711, 1767, 1823, 1879, 1935, 1991, 2066, 2079, 2092, 2167, 2180, 2193, 2237, 2281, 2294, 2307, 2321, 2386, 2452, 2465, 2478, 2534, 2590, 2648, 2692, 2736, 2780, 2824, 2837], 236) by decide +kernel) (by rw [z22]; decide) (by rw [z22]; decide) (by rw [z22]; rfl) (by decide) ?_
        refine X_aload_n (j := 1) (show decode cL_law 1517 = .ok (.aload_n 1, 1) by decide +kernel) rfl rfl ?_
        refine X_aload_n (j := 0) (show decode cL_law 1518 = .ok (.aload_n 0, 1) by decide +kernel) rfl rfl ?_
        refine X_iload (j := 5) (show decode cL_law 1519 = .ok (.iload 5, 2) by decide +kernel) rfl ?_
        refine X_iconst (v := 1) (show decode cL_law 1521 = .ok (.iconst 1, 1) by decide +kernel) (by decide) ?_
        refine X_iadd (show decode cL_law 1522 = .ok (.iadd, 1) by decide +kernel) ?_
        obtain ⟨s360, w⟩ := w
        refine X_iald (show decode cL_law 1523 = .ok (.iaload, 1) by decide +kernel) (isA_eq s9) s360 ?_
        refine X_aload_n (j := 3) (show decode cL_law 1524 = .ok (.aload_n 3, 1) by decide +kernel) rfl rfl ?_
        refine X_sI (rc' := (n * 33 + 65)) (rs' := (n * 8198 + 16390)) (as := [.ref _, .int _, .ref _]) ms_L_239 (show decode cL_law 1525 = .ok (.invokestatic 239, 3) by decide +kernel) (by decide) (by omega) (by omega) rfl rfl (Nat.le_of_ble_eq_true rfl) (kL_blockOf w) (fun E h hk => hk.elim) (fun r362 h361 w => ?_)
        refine X_istore (ls' := [(0, .ref _), (1, .ref _), (2, .ref _), (3, .ref _), (4, .ref _), (5, .int _), (6, .int _)]) (show decode cL_law 1528 = .ok (.istore 6, 2) by decide +kernel) (by decide) rfl ?_
        refine X_aload_n (j := 2) (show decode cL_law 1530 = .ok (.aload_n 2, 1) by decide +kernel) rfl rfl ?_
        refine X_aload_n (j := 0) (show decode cL_law 1531 = .ok (.aload_n 0, 1) by decide +kernel) rfl rfl ?_
        refine X_iload (j := 5) (show decode cL_law 1532 = .ok (.iload 5, 2) by decide +kernel) rfl ?_
        refine X_iconst (v := 1) (show decode cL_law 1534 = .ok (.iconst 1, 1) by decide +kernel) (by decide) ?_
        refine X_iadd (show decode cL_law 1535 = .ok (.iadd, 1) by decide +kernel) ?_
        obtain ⟨s363, w⟩ := w
        obtain ⟨s364, w⟩ := w
        refine X_iald (show decode cL_law 1536 = .ok (.iaload, 1) by decide +kernel) (isA_eq s363) s364 ?_
        obtain ⟨s375, w⟩ := w
        refine X_vI (rc' := (n * 33 + 65)) (rs' := (n * 8198 + 16390)) (as := [.int _]) mv_L_241 (show decode cL_law 1537 = .ok (.invokevirtual 241, 3) by decide +kernel) (by decide) (by omega) (by omega) rfl rfl (Nat.le_of_ble_eq_true rfl) (rcvD s375 (by decide) rfl) (kX10_blockOf w) (fun E h hk => hk.elim) (fun r366 h365 w => ?_)
        refine X_istore (ls' := [(0, .ref _), (1, .ref _), (2, .ref _), (3, .ref _), (4, .ref _), (5, .int _), (6, .int _), (7, .int _)]) (show decode cL_law 1540 = .ok (.istore 7, 2) by decide +kernel) (by decide) rfl ?_
        refine X_aload_n (j := 2) (show decode cL_law 1542 = .ok (.aload_n 2, 1) by decide +kernel) rfl rfl ?_
        obtain ⟨s374, w⟩ := w
        refine X_vI (rc' := (n * 33 + 65)) (rs' := (n * 8198 + 16390)) (as := []) mv_L_168 (show decode cL_law 1543 = .ok (.invokevirtual 168, 3) by decide +kernel) (by decide) (by omega) (by omega) rfl rfl (Nat.le_of_ble_eq_true rfl) (rcvD s374 (by decide) rfl) (kX10_thrown w) (fun E h hk => hk.elim) (fun r368 h367 w => ?_)
        refine X_iload (j := 6) (show decode cL_law 1546 = .ok (.iload 6, 2) by decide +kernel) rfl ?_
        refine X_icmp_eq (tgt := 1553) (show decode cL_law 1548 = .ok (.if_icmp .eq 5, 3) by decide +kernel) (by decide) ⟨fun c369 => ?_, fun c369 => ?_⟩
        · have w := w.1 c369
          refine X_iload (j := 6) (show decode cL_law 1553 = .ok (.iload 6, 2) by decide +kernel) rfl ?_
          refine X_if_ne (tgt := 1570) (show decode cL_law 1555 = .ok (.ifCond .ne 15, 3) by decide +kernel) (by decide) ⟨fun c370 => ?_, fun c370 => ?_⟩
          · have w := w.1 c370
            refine X_goto (tgt := 2925) (show decode cL_law 1570 = .ok (.goto 1355, 3) by decide +kernel) (by decide) ?_
            refine X_iinc (j := 5) (v := _ + 4) (ls' := [(0, .ref _), (1, .ref _), (2, .ref _), (3, .ref _), (4, .ref _), (5, .int _), (6, .int _), (7, .int _)]) (show decode cL_law 2925 = .ok (.iinc 5 4, 3) by decide +kernel) rfl rfl (Nat.le_of_ble_eq_true rfl) rfl ?_
            refine X_goto (tgt := 28) (show decode cL_law 2928 = .ok (.goto (-2900), 3) by decide +kernel) (by decide) ?_
            refine X_room (rc' := (n * 33 + 33)) (rs' := (n * 8198 + 8198)) (by omega) (by omega) ?_
            refine X_pick (ls' := [(0, .ref _), (1, .ref _), (2, .ref _), (3, .ref _), (4, .ref _), (5, .int _)]) [0, 1, 2, 3, 4, 5] rfl ?_
            exact ih _ _ _ _ _ _ _ w
          · have w := w.2 c370
            refine X_aload_n (j := 3) (show decode cL_law 1558 = .ok (.aload_n 3, 1) by decide +kernel) rfl rfl ?_
            refine X_iconst (v := 0) (show decode cL_law 1559 = .ok (.iconst 0, 1) by decide +kernel) (by decide) ?_
            obtain ⟨s371, w⟩ := w
            obtain ⟨s372, w⟩ := w
            refine X_lald (show decode cL_law 1560 = .ok (.laload, 1) by decide +kernel) (isA_eq s371) s372 ?_
            refine X_iload (j := 7) (show decode cL_law 1561 = .ok (.iload 7, 2) by decide +kernel) rfl ?_
            refine X_i2l (show decode cL_law 1563 = .ok (.i2l, 1) by decide +kernel) ?_
            refine X_lcmp (show decode cL_law 1564 = .ok (.lcmp, 1) by decide +kernel) ?_
            refine X_if_eq (tgt := 1570) (show decode cL_law 1565 = .ok (.ifCond .eq 5, 3) by decide +kernel) (by decide) ⟨fun c373 => ?_, fun c373 => ?_⟩
            · have w := w.1 c373
              refine X_goto (tgt := 2925) (show decode cL_law 1570 = .ok (.goto 1355, 3) by decide +kernel) (by decide) ?_
              refine X_iinc (j := 5) (v := _ + 4) (ls' := [(0, .ref _), (1, .ref _), (2, .ref _), (3, .ref _), (4, .ref _), (5, .int _), (6, .int _), (7, .int _)]) (show decode cL_law 2925 = .ok (.iinc 5 4, 3) by decide +kernel) rfl rfl (Nat.le_of_ble_eq_true rfl) rfl ?_
              refine X_goto (tgt := 28) (show decode cL_law 2928 = .ok (.goto (-2900), 3) by decide +kernel) (by decide) ?_
              refine X_room (rc' := (n * 33 + 33)) (rs' := (n * 8198 + 8198)) (by omega) (by omega) ?_
              refine X_pick (ls' := [(0, .ref _), (1, .ref _), (2, .ref _), (3, .ref _), (4, .ref _), (5, .int _)]) [0, 1, 2, 3, 4, 5] rfl ?_
              exact ih _ _ _ _ _ _ _ w
            · have w := w.2 c373
              refine X_iconst (v := 0) (show decode cL_law 1568 = .ok (.iconst 0, 1) by decide +kernel) (by decide) ?_
              exact X_iret ⟨(show decode cL_law 1569 = .ok (.ireturn, 1) by decide +kernel), .boolean, rfl, (by decide)⟩ ⟨_, rfl, w⟩
        · have w := w.2 c369
          refine X_iconst (v := 0) (show decode cL_law 1551 = .ok (.iconst 0, 1) by decide +kernel) (by decide) ?_
          exact X_iret ⟨(show decode cL_law 1552 = .ok (.ireturn, 1) by decide +kernel), .boolean, rfl, (by decide)⟩ ⟨_, rfl, w⟩
      by_cases z23 : (mI h x0 x5.toNatClampNeg &&& 63) = 23
      · have w := w.2.2.2.2.2.2.2.2.2.2.2.2.2.2.2.2.2.2.2.2.2.2.2.1 z23
        refine X_tableIn (tgt := 1573) (show decode cL_law 44 = .ok (.tableswitch 2881 0 54 #[236, 292, 372, 440, 496, 552, 615, 683, 739, 795, 851, 864, 920, 976, 1032, 1095, 1151, 1219, 1287, 1367, 1435, 1448, 1473, 1529, 1585, 1648, 1711, 1767, 1823, 1879, 1935, 1991, 2066, 2079, 2092, 2167, 2180, 2193, 2237, 2281, 2294, 2307, 2321, 2386, 2452, 2465, 2478, 2534, 2590, 2648, 2692, 2736, 2780, 2824, 2837], 236) by decide +kernel) (by rw [z23]; decide) (by rw [z23]; decide) (by rw [z23]; rfl) (by decide) ?_
        refine X_aload_n (j := 1) (show decode cL_law 1573 = .ok (.aload_n 1, 1) by decide +kernel) rfl rfl ?_
        refine X_aload_n (j := 0) (show decode cL_law 1574 = .ok (.aload_n 0, 1) by decide +kernel) rfl rfl ?_
        refine X_iload (j := 5) (show decode cL_law 1575 = .ok (.iload 5, 2) by decide +kernel) rfl ?_
        refine X_iconst (v := 1) (show decode cL_law 1577 = .ok (.iconst 1, 1) by decide +kernel) (by decide) ?_
        refine X_iadd (show decode cL_law 1578 = .ok (.iadd, 1) by decide +kernel) ?_
        obtain ⟨s376, w⟩ := w
        refine X_iald (show decode cL_law 1579 = .ok (.iaload, 1) by decide +kernel) (isA_eq s9) s376 ?_
        refine X_aload_n (j := 3) (show decode cL_law 1580 = .ok (.aload_n 3, 1) by decide +kernel) rfl rfl ?_
        refine X_sI (rc' := (n * 33 + 65)) (rs' := (n * 8198 + 16390)) (as := [.ref _, .int _, .ref _]) ms_L_242 (show decode cL_law 1581 = .ok (.invokestatic 242, 3) by decide +kernel) (by decide) (by omega) (by omega) rfl rfl (Nat.le_of_ble_eq_true rfl) (kL_destination w) (fun E h hk => hk.elim) (fun r378 h377 w => ?_)
        refine X_istore (ls' := [(0, .ref _), (1, .ref _), (2, .ref _), (3, .ref _), (4, .ref _), (5, .int _), (6, .int _)]) (show decode cL_law 1584 = .ok (.istore 6, 2) by decide +kernel) (by decide) rfl ?_
        refine X_aload_n (j := 2) (show decode cL_law 1586 = .ok (.aload_n 2, 1) by decide +kernel) rfl rfl ?_
        refine X_aload_n (j := 0) (show decode cL_law 1587 = .ok (.aload_n 0, 1) by decide +kernel) rfl rfl ?_
        refine X_iload (j := 5) (show decode cL_law 1588 = .ok (.iload 5, 2) by decide +kernel) rfl ?_
        refine X_iconst (v := 1) (show decode cL_law 1590 = .ok (.iconst 1, 1) by decide +kernel) (by decide) ?_
        refine X_iadd (show decode cL_law 1591 = .ok (.iadd, 1) by decide +kernel) ?_
        obtain ⟨s379, w⟩ := w
        obtain ⟨s380, w⟩ := w
        refine X_iald (show decode cL_law 1592 = .ok (.iaload, 1) by decide +kernel) (isA_eq s379) s380 ?_
        obtain ⟨s391, w⟩ := w
        refine X_vI (rc' := (n * 33 + 65)) (rs' := (n * 8198 + 16390)) (as := [.int _]) mv_L_244 (show decode cL_law 1593 = .ok (.invokevirtual 244, 3) by decide +kernel) (by decide) (by omega) (by omega) rfl rfl (Nat.le_of_ble_eq_true rfl) (rcvD s391 (by decide) rfl) (kX10_destination w) (fun E h hk => hk.elim) (fun r382 h381 w => ?_)
        refine X_istore (ls' := [(0, .ref _), (1, .ref _), (2, .ref _), (3, .ref _), (4, .ref _), (5, .int _), (6, .int _), (7, .int _)]) (show decode cL_law 1596 = .ok (.istore 7, 2) by decide +kernel) (by decide) rfl ?_
        refine X_aload_n (j := 2) (show decode cL_law 1598 = .ok (.aload_n 2, 1) by decide +kernel) rfl rfl ?_
        obtain ⟨s390, w⟩ := w
        refine X_vI (rc' := (n * 33 + 65)) (rs' := (n * 8198 + 16390)) (as := []) mv_L_168 (show decode cL_law 1599 = .ok (.invokevirtual 168, 3) by decide +kernel) (by decide) (by omega) (by omega) rfl rfl (Nat.le_of_ble_eq_true rfl) (rcvD s390 (by decide) rfl) (kX10_thrown w) (fun E h hk => hk.elim) (fun r384 h383 w => ?_)
        refine X_iload (j := 6) (show decode cL_law 1602 = .ok (.iload 6, 2) by decide +kernel) rfl ?_
        refine X_icmp_eq (tgt := 1609) (show decode cL_law 1604 = .ok (.if_icmp .eq 5, 3) by decide +kernel) (by decide) ⟨fun c385 => ?_, fun c385 => ?_⟩
        · have w := w.1 c385
          refine X_iload (j := 6) (show decode cL_law 1609 = .ok (.iload 6, 2) by decide +kernel) rfl ?_
          refine X_if_ne (tgt := 1626) (show decode cL_law 1611 = .ok (.ifCond .ne 15, 3) by decide +kernel) (by decide) ⟨fun c386 => ?_, fun c386 => ?_⟩
          · have w := w.1 c386
            refine X_goto (tgt := 2925) (show decode cL_law 1626 = .ok (.goto 1299, 3) by decide +kernel) (by decide) ?_
            refine X_iinc (j := 5) (v := _ + 4) (ls' := [(0, .ref _), (1, .ref _), (2, .ref _), (3, .ref _), (4, .ref _), (5, .int _), (6, .int _), (7, .int _)]) (show decode cL_law 2925 = .ok (.iinc 5 4, 3) by decide +kernel) rfl rfl (Nat.le_of_ble_eq_true rfl) rfl ?_
            refine X_goto (tgt := 28) (show decode cL_law 2928 = .ok (.goto (-2900), 3) by decide +kernel) (by decide) ?_
            refine X_room (rc' := (n * 33 + 33)) (rs' := (n * 8198 + 8198)) (by omega) (by omega) ?_
            refine X_pick (ls' := [(0, .ref _), (1, .ref _), (2, .ref _), (3, .ref _), (4, .ref _), (5, .int _)]) [0, 1, 2, 3, 4, 5] rfl ?_
            exact ih _ _ _ _ _ _ _ w
          · have w := w.2 c386
            refine X_aload_n (j := 3) (show decode cL_law 1614 = .ok (.aload_n 3, 1) by decide +kernel) rfl rfl ?_
            refine X_iconst (v := 0) (show decode cL_law 1615 = .ok (.iconst 0, 1) by decide +kernel) (by decide) ?_
            obtain ⟨s387, w⟩ := w
            obtain ⟨s388, w⟩ := w
            refine X_lald (show decode cL_law 1616 = .ok (.laload, 1) by decide +kernel) (isA_eq s387) s388 ?_
            refine X_iload (j := 7) (show decode cL_law 1617 = .ok (.iload 7, 2) by decide +kernel) rfl ?_
            refine X_i2l (show decode cL_law 1619 = .ok (.i2l, 1) by decide +kernel) ?_
            refine X_lcmp (show decode cL_law 1620 = .ok (.lcmp, 1) by decide +kernel) ?_
            refine X_if_eq (tgt := 1626) (show decode cL_law 1621 = .ok (.ifCond .eq 5, 3) by decide +kernel) (by decide) ⟨fun c389 => ?_, fun c389 => ?_⟩
            · have w := w.1 c389
              refine X_goto (tgt := 2925) (show decode cL_law 1626 = .ok (.goto 1299, 3) by decide +kernel) (by decide) ?_
              refine X_iinc (j := 5) (v := _ + 4) (ls' := [(0, .ref _), (1, .ref _), (2, .ref _), (3, .ref _), (4, .ref _), (5, .int _), (6, .int _), (7, .int _)]) (show decode cL_law 2925 = .ok (.iinc 5 4, 3) by decide +kernel) rfl rfl (Nat.le_of_ble_eq_true rfl) rfl ?_
              refine X_goto (tgt := 28) (show decode cL_law 2928 = .ok (.goto (-2900), 3) by decide +kernel) (by decide) ?_
              refine X_room (rc' := (n * 33 + 33)) (rs' := (n * 8198 + 8198)) (by omega) (by omega) ?_
              refine X_pick (ls' := [(0, .ref _), (1, .ref _), (2, .ref _), (3, .ref _), (4, .ref _), (5, .int _)]) [0, 1, 2, 3, 4, 5] rfl ?_
              exact ih _ _ _ _ _ _ _ w
            · have w := w.2 c389
              refine X_iconst (v := 0) (show decode cL_law 1624 = .ok (.iconst 0, 1) by decide +kernel) (by decide) ?_
              exact X_iret ⟨(show decode cL_law 1625 = .ok (.ireturn, 1) by decide +kernel), .boolean, rfl, (by decide)⟩ ⟨_, rfl, w⟩
        · have w := w.2 c385
          refine X_iconst (v := 0) (show decode cL_law 1607 = .ok (.iconst 0, 1) by decide +kernel) (by decide) ?_
          exact X_iret ⟨(show decode cL_law 1608 = .ok (.ireturn, 1) by decide +kernel), .boolean, rfl, (by decide)⟩ ⟨_, rfl, w⟩
      by_cases z24 : (mI h x0 x5.toNatClampNeg &&& 63) = 24
      · have w := w.2.2.2.2.2.2.2.2.2.2.2.2.2.2.2.2.2.2.2.2.2.2.2.2.1 z24
        refine X_tableIn (tgt := 1629) (show decode cL_law 44 = .ok (.tableswitch 2881 0 54 #[236, 292, 372, 440, 496, 552, 615, 683, 739, 795, 851, 864, 920, 976, 1032, 1095, 1151, 1219, 1287, 1367, 1435, 1448, 1473, 1529, 1585, 1648, 1711, 1767, 1823, 1879, 1935, 1991, 2066, 2079, 2092, 2167, 2180, 2193, 2237, 2281, 2294, 2307, 2321, 2386, 2452, 2465, 2478, 2534, 2590, 2648, 2692, 2736, 2780, 2824, 2837], 236) by decide +kernel) (by rw [z24]; decide) (by rw [z24]; decide) (by rw [z24]; rfl) (by decide) ?_
        refine X_aload_n (j := 1) (show decode cL_law 1629 = .ok (.aload_n 1, 1) by decide +kernel) rfl rfl ?_
        refine X_aload_n (j := 0) (show decode cL_law 1630 = .ok (.aload_n 0, 1) by decide +kernel) rfl rfl ?_
        refine X_iload (j := 5) (show decode cL_law 1631 = .ok (.iload 5, 2) by decide +kernel) rfl ?_
        refine X_iconst (v := 1) (show decode cL_law 1633 = .ok (.iconst 1, 1) by decide +kernel) (by decide) ?_
        refine X_iadd (show decode cL_law 1634 = .ok (.iadd, 1) by decide +kernel) ?_
        obtain ⟨s392, w⟩ := w
        refine X_iald (show decode cL_law 1635 = .ok (.iaload, 1) by decide +kernel) (isA_eq s9) s392 ?_
        refine X_aload_n (j := 3) (show decode cL_law 1636 = .ok (.aload_n 3, 1) by decide +kernel) rfl rfl ?_
        refine X_sI (rc' := (n * 33 + 65)) (rs' := (n * 8198 + 16390)) (as := [.ref _, .int _, .ref _]) ms_L_245 (show decode cL_law 1637 = .ok (.invokestatic 245, 3) by decide +kernel) (by decide) (by omega) (by omega) rfl rfl (Nat.le_of_ble_eq_true rfl) (kL_hasRoute w) (fun E h hk => hk.elim) (fun r394 h393 w => ?_)
        refine X_istore (ls' := [(0, .ref _), (1, .ref _), (2, .ref _), (3, .ref _), (4, .ref _), (5, .int _), (6, .int _)]) (show decode cL_law 1640 = .ok (.istore 6, 2) by decide +kernel) (by decide) rfl ?_
        refine X_aload_n (j := 2) (show decode cL_law 1642 = .ok (.aload_n 2, 1) by decide +kernel) rfl rfl ?_
        refine X_aload_n (j := 0) (show decode cL_law 1643 = .ok (.aload_n 0, 1) by decide +kernel) rfl rfl ?_
        refine X_iload (j := 5) (show decode cL_law 1644 = .ok (.iload 5, 2) by decide +kernel) rfl ?_
        refine X_iconst (v := 1) (show decode cL_law 1646 = .ok (.iconst 1, 1) by decide +kernel) (by decide) ?_
        refine X_iadd (show decode cL_law 1647 = .ok (.iadd, 1) by decide +kernel) ?_
        obtain ⟨s395, w⟩ := w
        obtain ⟨s396, w⟩ := w
        refine X_iald (show decode cL_law 1648 = .ok (.iaload, 1) by decide +kernel) (isA_eq s395) s396 ?_
        obtain ⟨s408, w⟩ := w
        refine X_vI (rc' := (n * 33 + 65)) (rs' := (n * 8198 + 16390)) (as := [.int _]) mv_L_247 (show decode cL_law 1649 = .ok (.invokevirtual 247, 3) by decide +kernel) (by decide) (by omega) (by omega) rfl rfl (Nat.le_of_ble_eq_true rfl) (rcvD s408 (by decide) rfl) (kX10_hasRoute w) (fun E h hk => hk.elim) (fun r398 h397 w => ?_)
        refine X_istore (ls' := [(0, .ref _), (1, .ref _), (2, .ref _), (3, .ref _), (4, .ref _), (5, .int _), (6, .int _), (7, .int _)]) (show decode cL_law 1652 = .ok (.istore 7, 2) by decide +kernel) (by decide) rfl ?_
        refine X_aload_n (j := 2) (show decode cL_law 1654 = .ok (.aload_n 2, 1) by decide +kernel) rfl rfl ?_
        obtain ⟨s407, w⟩ := w
        refine X_vI (rc' := (n * 33 + 65)) (rs' := (n * 8198 + 16390)) (as := []) mv_L_168 (show decode cL_law 1655 = .ok (.invokevirtual 168, 3) by decide +kernel) (by decide) (by omega) (by omega) rfl rfl (Nat.le_of_ble_eq_true rfl) (rcvD s407 (by decide) rfl) (kX10_thrown w) (fun E h hk => hk.elim) (fun r400 h399 w => ?_)
        refine X_iload (j := 6) (show decode cL_law 1658 = .ok (.iload 6, 2) by decide +kernel) rfl ?_
        refine X_icmp_eq (tgt := 1665) (show decode cL_law 1660 = .ok (.if_icmp .eq 5, 3) by decide +kernel) (by decide) ⟨fun c401 => ?_, fun c401 => ?_⟩
        · have w := w.1 c401
          refine X_iload (j := 6) (show decode cL_law 1665 = .ok (.iload 6, 2) by decide +kernel) rfl ?_
          refine X_if_ne (tgt := 1689) (show decode cL_law 1667 = .ok (.ifCond .ne 22, 3) by decide +kernel) (by decide) ⟨fun c402 => ?_, fun c402 => ?_⟩
          · have w := w.1 c402
            refine X_goto (tgt := 2925) (show decode cL_law 1689 = .ok (.goto 1236, 3) by decide +kernel) (by decide) ?_
            refine X_iinc (j := 5) (v := _ + 4) (ls' := [(0, .ref _), (1, .ref _), (2, .ref _), (3, .ref _), (4, .ref _), (5, .int _), (6, .int _), (7, .int _)]) (show decode cL_law 2925 = .ok (.iinc 5 4, 3) by decide +kernel) rfl rfl (Nat.le_of_ble_eq_true rfl) rfl ?_
            refine X_goto (tgt := 28) (show decode cL_law 2928 = .ok (.goto (-2900), 3) by decide +kernel) (by decide) ?_
            refine X_room (rc' := (n * 33 + 33)) (rs' := (n * 8198 + 8198)) (by omega) (by omega) ?_
            refine X_pick (ls' := [(0, .ref _), (1, .ref _), (2, .ref _), (3, .ref _), (4, .ref _), (5, .int _)]) [0, 1, 2, 3, 4, 5] rfl ?_
            exact ih _ _ _ _ _ _ _ w
          · have w := w.2 c402
            refine X_aload_n (j := 3) (show decode cL_law 1670 = .ok (.aload_n 3, 1) by decide +kernel) rfl rfl ?_
            refine X_iconst (v := 0) (show decode cL_law 1671 = .ok (.iconst 0, 1) by decide +kernel) (by decide) ?_
            obtain ⟨s403, w⟩ := w
            obtain ⟨s404, w⟩ := w
            refine X_lald (show decode cL_law 1672 = .ok (.laload, 1) by decide +kernel) (isA_eq s403) s404 ?_
            refine X_iload (j := 7) (show decode cL_law 1673 = .ok (.iload 7, 2) by decide +kernel) rfl ?_
            refine X_if_eq (tgt := 1682) (show decode cL_law 1675 = .ok (.ifCond .eq 7, 3) by decide +kernel) (by decide) ⟨fun c405 => ?_, fun c405 => ?_⟩
            · have w := w.1 c405
              refine X_lconst (v := 0) (show decode cL_law 1682 = .ok (.lconst 0, 1) by decide +kernel) (by decide) ?_
              refine X_room (rc' := 0) (rs' := 0) (by omega) (by omega) ?_
              refine X_pick (ls' := [(0, .ref _), (1, .ref _), (2, .ref _), (3, .ref _), (4, .ref _), (5, .int _)]) [0, 1, 2, 3, 4, 5] rfl ?_
              exact kL_law_J1683 ih _ _ _ _ _ _ _ _ _ w
            · have w := w.2 c405
              refine X_lconst (v := 1) (show decode cL_law 1678 = .ok (.lconst 1, 1) by decide +kernel) (by decide) ?_
              refine X_goto (tgt := 1683) (show decode cL_law 1679 = .ok (.goto 4, 3) by decide +kernel) (by decide) ?_
              refine X_room (rc' := 0) (rs' := 0) (by omega) (by omega) ?_
              refine X_pick (ls' := [(0, .ref _), (1, .ref _), (2, .ref _), (3, .ref _), (4, .ref _), (5, .int _)]) [0, 1, 2, 3, 4, 5] rfl ?_
              exact kL_law_J1683 ih _ _ _ _ _ _ _ _ _ w
        · have w := w.2 c401
          refine X_iconst (v := 0) (show decode cL_law 1663 = .ok (.iconst 0, 1) by decide +kernel) (by decide) ?_
          exact X_iret ⟨(show decode cL_law 1664 = .ok (.ireturn, 1) by decide +kernel), .boolean, rfl, (by decide)⟩ ⟨_, rfl, w⟩
      by_cases z25 : (mI h x0 x5.toNatClampNeg &&& 63) = 25
      · have w := w.2.2.2.2.2.2.2.2.2.2.2.2.2.2.2.2.2.2.2.2.2.2.2.2.2.1 z25
        refine X_tableIn (tgt := 1692) (show decode cL_law 44 = .ok (.tableswitch 2881 0 54 #[236, 292, 372, 440, 496, 552, 615, 683, 739, 795, 851, 864, 920, 976, 1032, 1095, 1151, 1219, 1287, 1367, 1435, 1448, 1473, 1529, 1585, 1648, 1711, 1767, 1823, 1879, 1935, 1991, 2066, 2079, 2092, 2167, 2180, 2193, 2237, 2281, 2294, 2307, 2321, 2386, 2452, 2465, 2478, 2534, 2590, 2648, 2692, 2736, 2780, 2824, 2837], 236) by decide +kernel) (by rw [z25]; decide) (by rw [z25]; decide) (by rw [z25]; rfl) (by decide) ?_
        refine X_aload_n (j := 1) (show decode cL_law 1692 = .ok (.aload_n 1, 1) by decide +kernel) rfl rfl ?_
        refine X_aload_n (j := 0) (show decode cL_law 1693 = .ok (.aload_n 0, 1) by decide +kernel) rfl rfl ?_
        refine X_iload (j := 5) (show decode cL_law 1694 = .ok (.iload 5, 2) by decide +kernel) rfl ?_
        refine X_iconst (v := 1) (show decode cL_law 1696 = .ok (.iconst 1, 1) by decide +kernel) (by decide) ?_
        refine X_iadd (show decode cL_law 1697 = .ok (.iadd, 1) by decide +kernel) ?_
        obtain ⟨s409, w⟩ := w
        refine X_iald (show decode cL_law 1698 = .ok (.iaload, 1) by decide +kernel) (isA_eq s9) s409 ?_
        refine X_aload_n (j := 3) (show decode cL_law 1699 = .ok (.aload_n 3, 1) by decide +kernel) rfl rfl ?_
        refine X_sI (rc' := (n * 33 + 65)) (rs' := (n * 8198 + 16390)) (as := [.ref _, .int _, .ref _]) ms_L_248 (show decode cL_law 1700 = .ok (.invokestatic 248, 3) by decide +kernel) (by decide) (by omega) (by omega) rfl rfl (Nat.le_of_ble_eq_true rfl) (kL_isClear w) (fun E h hk => hk.elim) (fun r411 h410 w => ?_)
        refine X_istore (ls' := [(0, .ref _), (1, .ref _), (2, .ref _), (3, .ref _), (4, .ref _), (5, .int _), (6, .int _)]) (show decode cL_law 1703 = .ok (.istore 6, 2) by decide +kernel) (by decide) rfl ?_
        refine X_aload_n (j := 2) (show decode cL_law 1705 = .ok (.aload_n 2, 1) by decide +kernel) rfl rfl ?_
        refine X_aload_n (j := 0) (show decode cL_law 1706 = .ok (.aload_n 0, 1) by decide +kernel) rfl rfl ?_
        refine X_iload (j := 5) (show decode cL_law 1707 = .ok (.iload 5, 2) by decide +kernel) rfl ?_
        refine X_iconst (v := 1) (show decode cL_law 1709 = .ok (.iconst 1, 1) by decide +kernel) (by decide) ?_
        refine X_iadd (show decode cL_law 1710 = .ok (.iadd, 1) by decide +kernel) ?_
        obtain ⟨s412, w⟩ := w
        obtain ⟨s413, w⟩ := w
        refine X_iald (show decode cL_law 1711 = .ok (.iaload, 1) by decide +kernel) (isA_eq s412) s413 ?_
        obtain ⟨s425, w⟩ := w
        refine X_vI (rc' := (n * 33 + 65)) (rs' := (n * 8198 + 16390)) (as := [.int _]) mv_L_250 (show decode cL_law 1712 = .ok (.invokevirtual 250, 3) by decide +kernel) (by decide) (by omega) (by omega) rfl rfl (Nat.le_of_ble_eq_true rfl) (rcvD s425 (by decide) rfl) (kX10_isClear w) (fun E h hk => hk.elim) (fun r415 h414 w => ?_)
        refine X_istore (ls' := [(0, .ref _), (1, .ref _), (2, .ref _), (3, .ref _), (4, .ref _), (5, .int _), (6, .int _), (7, .int _)]) (show decode cL_law 1715 = .ok (.istore 7, 2) by decide +kernel) (by decide) rfl ?_
        refine X_aload_n (j := 2) (show decode cL_law 1717 = .ok (.aload_n 2, 1) by decide +kernel) rfl rfl ?_
        obtain ⟨s424, w⟩ := w
        refine X_vI (rc' := (n * 33 + 65)) (rs' := (n * 8198 + 16390)) (as := []) mv_L_168 (show decode cL_law 1718 = .ok (.invokevirtual 168, 3) by decide +kernel) (by decide) (by omega) (by omega) rfl rfl (Nat.le_of_ble_eq_true rfl) (rcvD s424 (by decide) rfl) (kX10_thrown w) (fun E h hk => hk.elim) (fun r417 h416 w => ?_)
        refine X_iload (j := 6) (show decode cL_law 1721 = .ok (.iload 6, 2) by decide +kernel) rfl ?_
        refine X_icmp_eq (tgt := 1728) (show decode cL_law 1723 = .ok (.if_icmp .eq 5, 3) by decide +kernel) (by decide) ⟨fun c418 => ?_, fun c418 => ?_⟩
        · have w := w.1 c418
          refine X_iload (j := 6) (show decode cL_law 1728 = .ok (.iload 6, 2) by decide +kernel) rfl ?_
          refine X_if_ne (tgt := 1752) (show decode cL_law 1730 = .ok (.ifCond .ne 22, 3) by decide +kernel) (by decide) ⟨fun c419 => ?_, fun c419 => ?_⟩
          · have w := w.1 c419
            refine X_goto (tgt := 2925) (show decode cL_law 1752 = .ok (.goto 1173, 3) by decide +kernel) (by decide) ?_
            refine X_iinc (j := 5) (v := _ + 4) (ls' := [(0, .ref _), (1, .ref _), (2, .ref _), (3, .ref _), (4, .ref _), (5, .int _), (6, .int _), (7, .int _)]) (show decode cL_law 2925 = .ok (.iinc 5 4, 3) by decide +kernel) rfl rfl (Nat.le_of_ble_eq_true rfl) rfl ?_
            refine X_goto (tgt := 28) (show decode cL_law 2928 = .ok (.goto (-2900), 3) by decide +kernel) (by decide) ?_
            refine X_room (rc' := (n * 33 + 33)) (rs' := (n * 8198 + 8198)) (by omega) (by omega) ?_
            refine X_pick (ls' := [(0, .ref _), (1, .ref _), (2, .ref _), (3, .ref _), (4, .ref _), (5, .int _)]) [0, 1, 2, 3, 4, 5] rfl ?_
            exact ih _ _ _ _ _ _ _ w
          · have w := w.2 c419
            refine X_aload_n (j := 3) (show decode cL_law 1733 = .ok (.aload_n 3, 1) by decide +kernel) rfl rfl ?_
            refine X_iconst (v := 0) (show decode cL_law 1734 = .ok (.iconst 0, 1) by decide +kernel) (by decide) ?_
            obtain ⟨s420, w⟩ := w
            obtain ⟨s421, w⟩ := w
            refine X_lald (show decode cL_law 1735 = .ok (.laload, 1) by decide +kernel) (isA_eq s420) s421 ?_
            refine X_iload (j := 7) (show decode cL_law 1736 = .ok (.iload 7, 2) by decide +kernel) rfl ?_
            refine X_if_eq (tgt := 1745) (show decode cL_law 1738 = .ok (.ifCond .eq 7, 3) by decide +kernel) (by decide) ⟨fun c422 => ?_, fun c422 => ?_⟩
            · have w := w.1 c422
              refine X_lconst (v := 0) (show decode cL_law 1745 = .ok (.lconst 0, 1) by decide +kernel) (by decide) ?_
              refine X_room (rc' := 0) (rs' := 0) (by omega) (by omega) ?_
              refine X_pick (ls' := [(0, .ref _), (1, .ref _), (2, .ref _), (3, .ref _), (4, .ref _), (5, .int _)]) [0, 1, 2, 3, 4, 5] rfl ?_
              exact kL_law_J1746 ih _ _ _ _ _ _ _ _ _ w
            · have w := w.2 c422
              refine X_lconst (v := 1) (show decode cL_law 1741 = .ok (.lconst 1, 1) by decide +kernel) (by decide) ?_
              refine X_goto (tgt := 1746) (show decode cL_law 1742 = .ok (.goto 4, 3) by decide +kernel) (by decide) ?_
              refine X_room (rc' := 0) (rs' := 0) (by omega) (by omega) ?_
              refine X_pick (ls' := [(0, .ref _), (1, .ref _), (2, .ref _), (3, .ref _), (4, .ref _), (5, .int _)]) [0, 1, 2, 3, 4, 5] rfl ?_
              exact kL_law_J1746 ih _ _ _ _ _ _ _ _ _ w
        · have w := w.2 c418
          refine X_iconst (v := 0) (show decode cL_law 1726 = .ok (.iconst 0, 1) by decide +kernel) (by decide) ?_
          exact X_iret ⟨(show decode cL_law 1727 = .ok (.ireturn, 1) by decide +kernel), .boolean, rfl, (by decide)⟩ ⟨_, rfl, w⟩
      by_cases z26 : (mI h x0 x5.toNatClampNeg &&& 63) = 26
      · have w := w.2.2.2.2.2.2.2.2.2.2.2.2.2.2.2.2.2.2.2.2.2.2.2.2.2.2.1 z26
        refine X_tableIn (tgt := 1755) (show decode cL_law 44 = .ok (.tableswitch 2881 0 54 #[236, 292, 372, 440, 496, 552, 615, 683, 739, 795, 851, 864, 920, 976, 1032, 1095, 1151, 1219, 1287, 1367, 1435, 1448, 1473, 1529, 1585, 1648, 1711, 1767, 1823, 1879, 1935, 1991, 2066, 2079, 2092, 2167, 2180, 2193, 2237, 2281, 2294, 2307, 2321, 2386, 2452, 2465, 2478, 2534, 2590, 2648, 2692, 2736, 2780, 2824, 2837], 236) by decide +kernel) (by rw [z26]; decide) (by rw [z26]; decide) (by rw [z26]; rfl) (by decide) ?_
        refine X_aload_n (j := 1) (show decode cL_law 1755 = .ok (.aload_n 1, 1) by decide +kernel) rfl rfl ?_
        refine X_aload_n (j := 0) (show decode cL_law 1756 = .ok (.aload_n 0, 1) by decide +kernel) rfl rfl ?_
        refine X_iload (j := 5) (show decode cL_law 1757 = .ok (.iload 5, 2) by decide +kernel) rfl ?_
        refine X_iconst (v := 1) (show decode cL_law 1759 = .ok (.iconst 1, 1) by decide +kernel) (by decide) ?_
        refine X_iadd (show decode cL_law 1760 = .ok (.iadd, 1) by decide +kernel) ?_
        obtain ⟨s426, w⟩ := w
        refine X_iald (show decode cL_law 1761 = .ok (.iaload, 1) by decide +kernel) (isA_eq s9) s426 ?_
        refine X_aload_n (j := 3) (show decode cL_law 1762 = .ok (.aload_n 3, 1) by decide +kernel) rfl rfl ?_
        refine X_sI (rc' := (n * 33 + 64)) (rs' := (n * 8198 + 16384)) (as := [.ref _, .int _, .ref _]) ms_L_251 (show decode cL_law 1763 = .ok (.invokestatic 251, 3) by decide +kernel) (by decide) (by omega) (by omega) rfl rfl (Nat.le_of_ble_eq_true rfl) (kL_minutesUntilNext w) (fun E h hk => hk.elim) (fun r428 h427 w => ?_)
        refine X_istore (ls' := [(0, .ref _), (1, .ref _), (2, .ref _), (3, .ref _), (4, .ref _), (5, .int _), (6, .int _)]) (show decode cL_law 1766 = .ok (.istore 6, 2) by decide +kernel) (by decide) rfl ?_
        refine X_aload_n (j := 2) (show decode cL_law 1768 = .ok (.aload_n 2, 1) by decide +kernel) rfl rfl ?_
        refine X_aload_n (j := 0) (show decode cL_law 1769 = .ok (.aload_n 0, 1) by decide +kernel) rfl rfl ?_
        refine X_iload (j := 5) (show decode cL_law 1770 = .ok (.iload 5, 2) by decide +kernel) rfl ?_
        refine X_iconst (v := 1) (show decode cL_law 1772 = .ok (.iconst 1, 1) by decide +kernel) (by decide) ?_
        refine X_iadd (show decode cL_law 1773 = .ok (.iadd, 1) by decide +kernel) ?_
        obtain ⟨s429, w⟩ := w
        obtain ⟨s430, w⟩ := w
        refine X_iald (show decode cL_law 1774 = .ok (.iaload, 1) by decide +kernel) (isA_eq s429) s430 ?_
        obtain ⟨s441, w⟩ := w
        refine X_vI (rc' := (n * 33 + 64)) (rs' := (n * 8198 + 16384)) (as := [.int _]) mv_L_253 (show decode cL_law 1775 = .ok (.invokevirtual 253, 3) by decide +kernel) (by decide) (by omega) (by omega) rfl rfl (Nat.le_of_ble_eq_true rfl) (rcvD s441 (by decide) rfl) (kX10_minutesUntilNext w) (fun E h hk => hk.elim) (fun r432 h431 w => ?_)
        refine X_istore (ls' := [(0, .ref _), (1, .ref _), (2, .ref _), (3, .ref _), (4, .ref _), (5, .int _), (6, .int _), (7, .int _)]) (show decode cL_law 1778 = .ok (.istore 7, 2) by decide +kernel) (by decide) rfl ?_
        refine X_aload_n (j := 2) (show decode cL_law 1780 = .ok (.aload_n 2, 1) by decide +kernel) rfl rfl ?_
        obtain ⟨s440, w⟩ := w
        refine X_vI (rc' := (n * 33 + 64)) (rs' := (n * 8198 + 16384)) (as := []) mv_L_168 (show decode cL_law 1781 = .ok (.invokevirtual 168, 3) by decide +kernel) (by decide) (by omega) (by omega) rfl rfl (Nat.le_of_ble_eq_true rfl) (rcvD s440 (by decide) rfl) (kX10_thrown w) (fun E h hk => hk.elim) (fun r434 h433 w => ?_)
        refine X_iload (j := 6) (show decode cL_law 1784 = .ok (.iload 6, 2) by decide +kernel) rfl ?_
        refine X_icmp_eq (tgt := 1791) (show decode cL_law 1786 = .ok (.if_icmp .eq 5, 3) by decide +kernel) (by decide) ⟨fun c435 => ?_, fun c435 => ?_⟩
        · have w := w.1 c435
          refine X_iload (j := 6) (show decode cL_law 1791 = .ok (.iload 6, 2) by decide +kernel) rfl ?_
          refine X_if_ne (tgt := 1808) (show decode cL_law 1793 = .ok (.ifCond .ne 15, 3) by decide +kernel) (by decide) ⟨fun c436 => ?_, fun c436 => ?_⟩
          · have w := w.1 c436
            refine X_goto (tgt := 2925) (show decode cL_law 1808 = .ok (.goto 1117, 3) by decide +kernel) (by decide) ?_
            refine X_iinc (j := 5) (v := _ + 4) (ls' := [(0, .ref _), (1, .ref _), (2, .ref _), (3, .ref _), (4, .ref _), (5, .int _), (6, .int _), (7, .int _)]) (show decode cL_law 2925 = .ok (.iinc 5 4, 3) by decide +kernel) rfl rfl (Nat.le_of_ble_eq_true rfl) rfl ?_
            refine X_goto (tgt := 28) (show decode cL_law 2928 = .ok (.goto (-2900), 3) by decide +kernel) (by decide) ?_
            refine X_room (rc' := (n * 33 + 33)) (rs' := (n * 8198 + 8198)) (by omega) (by omega) ?_
            refine X_pick (ls' := [(0, .ref _), (1, .ref _), (2, .ref _), (3, .ref _), (4, .ref _), (5, .int _)]) [0, 1, 2, 3, 4, 5] rfl ?_
            exact ih _ _ _ _ _ _ _ w
          · have w := w.2 c436
            refine X_aload_n (j := 3) (show decode cL_law 1796 = .ok (.aload_n 3, 1) by decide +kernel) rfl rfl ?_
            refine X_iconst (v := 0) (show decode cL_law 1797 = .ok (.iconst 0, 1) by decide +kernel) (by decide) ?_
            obtain ⟨s437, w⟩ := w
            obtain ⟨s438, w⟩ := w
            refine X_lald (show decode cL_law 1798 = .ok (.laload, 1) by decide +kernel) (isA_eq s437) s438 ?_
            refine X_iload (j := 7) (show decode cL_law 1799 = .ok (.iload 7, 2) by decide +kernel) rfl ?_
            refine X_i2l (show decode cL_law 1801 = .ok (.i2l, 1) by decide +kernel) ?_
            refine X_lcmp (show decode cL_law 1802 = .ok (.lcmp, 1) by decide +kernel) ?_
            refine X_if_eq (tgt := 1808) (show decode cL_law 1803 = .ok (.ifCond .eq 5, 3) by decide +kernel) (by decide) ⟨fun c439 => ?_, fun c439 => ?_⟩
            · have w := w.1 c439
              refine X_goto (tgt := 2925) (show decode cL_law 1808 = .ok (.goto 1117, 3) by decide +kernel) (by decide) ?_
              refine X_iinc (j := 5) (v := _ + 4) (ls' := [(0, .ref _), (1, .ref _), (2, .ref _), (3, .ref _), (4, .ref _), (5, .int _), (6, .int _), (7, .int _)]) (show decode cL_law 2925 = .ok (.iinc 5 4, 3) by decide +kernel) rfl rfl (Nat.le_of_ble_eq_true rfl) rfl ?_
              refine X_goto (tgt := 28) (show decode cL_law 2928 = .ok (.goto (-2900), 3) by decide +kernel) (by decide) ?_
              refine X_room (rc' := (n * 33 + 33)) (rs' := (n * 8198 + 8198)) (by omega) (by omega) ?_
              refine X_pick (ls' := [(0, .ref _), (1, .ref _), (2, .ref _), (3, .ref _), (4, .ref _), (5, .int _)]) [0, 1, 2, 3, 4, 5] rfl ?_
              exact ih _ _ _ _ _ _ _ w
            · have w := w.2 c439
              refine X_iconst (v := 0) (show decode cL_law 1806 = .ok (.iconst 0, 1) by decide +kernel) (by decide) ?_
              exact X_iret ⟨(show decode cL_law 1807 = .ok (.ireturn, 1) by decide +kernel), .boolean, rfl, (by decide)⟩ ⟨_, rfl, w⟩
        · have w := w.2 c435
          refine X_iconst (v := 0) (show decode cL_law 1789 = .ok (.iconst 0, 1) by decide +kernel) (by decide) ?_
          exact X_iret ⟨(show decode cL_law 1790 = .ok (.ireturn, 1) by decide +kernel), .boolean, rfl, (by decide)⟩ ⟨_, rfl, w⟩
      by_cases z27 : (mI h x0 x5.toNatClampNeg &&& 63) = 27
      · have w := w.2.2.2.2.2.2.2.2.2.2.2.2.2.2.2.2.2.2.2.2.2.2.2.2.2.2.2.1 z27
        refine X_tableIn (tgt := 1811) (show decode cL_law 44 = .ok (.tableswitch 2881 0 54 #[236, 292, 372, 440, 496, 552, 615, 683, 739, 795, 851, 864, 920, 976, 1032, 1095, 1151, 1219, 1287, 1367, 1435, 1448, 1473, 1529, 1585, 1648, 1711, 1767, 1823, 1879, 1935, 1991, 2066, 2079, 2092, 2167, 2180, 2193, 2237, 2281, 2294, 2307, 2321, 2386, 2452, 2465, 2478, 2534, 2590, 2648, 2692, 2736, 2780, 2824, 2837], 236) by decide +kernel) (by rw [z27]; decide) (by rw [z27]; decide) (by rw [z27]; rfl) (by decide) ?_
        refine X_aload_n (j := 1) (show decode cL_law 1811 = .ok (.aload_n 1, 1) by decide +kernel) rfl rfl ?_
        refine X_aload_n (j := 0) (show decode cL_law 1812 = .ok (.aload_n 0, 1) by decide +kernel) rfl rfl ?_
        refine X_iload (j := 5) (show decode cL_law 1813 = .ok (.iload 5, 2) by decide +kernel) rfl ?_
        refine X_iconst (v := 1) (show decode cL_law 1815 = .ok (.iconst 1, 1) by decide +kernel) (by decide) ?_
        refine X_iadd (show decode cL_law 1816 = .ok (.iadd, 1) by decide +kernel) ?_
        obtain ⟨s442, w⟩ := w
        refine X_iald (show decode cL_law 1817 = .ok (.iaload, 1) by decide +kernel) (isA_eq s9) s442 ?_
        refine X_aload_n (j := 3) (show decode cL_law 1818 = .ok (.aload_n 3, 1) by decide +kernel) rfl rfl ?_
        refine X_sI (rc' := (n * 33 + 64)) (rs' := (n * 8198 + 16384)) (as := [.ref _, .int _, .ref _]) ms_L_254 (show decode cL_law 1819 = .ok (.invokestatic 254, 3) by decide +kernel) (by decide) (by omega) (by omega) rfl rfl (Nat.le_of_ble_eq_true rfl) (kL_minutesUntilArrival w) (fun E h hk => hk.elim) (fun r444 h443 w => ?_)
        refine X_istore (ls' := [(0, .ref _), (1, .ref _), (2, .ref _), (3, .ref _), (4, .ref _), (5, .int _), (6, .int _)]) (show decode cL_law 1822 = .ok (.istore 6, 2) by decide +kernel) (by decide) rfl ?_
        refine X_aload_n (j := 2) (show decode cL_law 1824 = .ok (.aload_n 2, 1) by decide +kernel) rfl rfl ?_
        refine X_aload_n (j := 0) (show decode cL_law 1825 = .ok (.aload_n 0, 1) by decide +kernel) rfl rfl ?_
        refine X_iload (j := 5) (show decode cL_law 1826 = .ok (.iload 5, 2) by decide +kernel) rfl ?_
        refine X_iconst (v := 1) (show decode cL_law 1828 = .ok (.iconst 1, 1) by decide +kernel) (by decide) ?_
        refine X_iadd (show decode cL_law 1829 = .ok (.iadd, 1) by decide +kernel) ?_
        obtain ⟨s445, w⟩ := w
        obtain ⟨s446, w⟩ := w
        refine X_iald (show decode cL_law 1830 = .ok (.iaload, 1) by decide +kernel) (isA_eq s445) s446 ?_
        obtain ⟨s457, w⟩ := w
        refine X_vI (rc' := (n * 33 + 64)) (rs' := (n * 8198 + 16384)) (as := [.int _]) mv_L_256 (show decode cL_law 1831 = .ok (.invokevirtual 256, 3) by decide +kernel) (by decide) (by omega) (by omega) rfl rfl (Nat.le_of_ble_eq_true rfl) (rcvD s457 (by decide) rfl) (kX10_minutesUntilArrival w) (fun E h hk => hk.elim) (fun r448 h447 w => ?_)
        refine X_istore (ls' := [(0, .ref _), (1, .ref _), (2, .ref _), (3, .ref _), (4, .ref _), (5, .int _), (6, .int _), (7, .int _)]) (show decode cL_law 1834 = .ok (.istore 7, 2) by decide +kernel) (by decide) rfl ?_
        refine X_aload_n (j := 2) (show decode cL_law 1836 = .ok (.aload_n 2, 1) by decide +kernel) rfl rfl ?_
        obtain ⟨s456, w⟩ := w
        refine X_vI (rc' := (n * 33 + 64)) (rs' := (n * 8198 + 16384)) (as := []) mv_L_168 (show decode cL_law 1837 = .ok (.invokevirtual 168, 3) by decide +kernel) (by decide) (by omega) (by omega) rfl rfl (Nat.le_of_ble_eq_true rfl) (rcvD s456 (by decide) rfl) (kX10_thrown w) (fun E h hk => hk.elim) (fun r450 h449 w => ?_)
        refine X_iload (j := 6) (show decode cL_law 1840 = .ok (.iload 6, 2) by decide +kernel) rfl ?_
        refine X_icmp_eq (tgt := 1847) (show decode cL_law 1842 = .ok (.if_icmp .eq 5, 3) by decide +kernel) (by decide) ⟨fun c451 => ?_, fun c451 => ?_⟩
        · have w := w.1 c451
          refine X_iload (j := 6) (show decode cL_law 1847 = .ok (.iload 6, 2) by decide +kernel) rfl ?_
          refine X_if_ne (tgt := 1864) (show decode cL_law 1849 = .ok (.ifCond .ne 15, 3) by decide +kernel) (by decide) ⟨fun c452 => ?_, fun c452 => ?_⟩
          · have w := w.1 c452
            refine X_goto (tgt := 2925) (show decode cL_law 1864 = .ok (.goto 1061, 3) by decide +kernel) (by decide) ?_
            refine X_iinc (j := 5) (v := _ + 4) (ls' := [(0, .ref _), (1, .ref _), (2, .ref _), (3, .ref _), (4, .ref _), (5, .int _), (6, .int _), (7, .int _)]) (show decode cL_law 2925 = .ok (.iinc 5 4, 3) by decide +kernel) rfl rfl (Nat.le_of_ble_eq_true rfl) rfl ?_
            refine X_goto (tgt := 28) (show decode cL_law 2928 = .ok (.goto (-2900), 3) by decide +kernel) (by decide) ?_
            refine X_room (rc' := (n * 33 + 33)) (rs' := (n * 8198 + 8198)) (by omega) (by omega) ?_
            refine X_pick (ls' := [(0, .ref _), (1, .ref _), (2, .ref _), (3, .ref _), (4, .ref _), (5, .int _)]) [0, 1, 2, 3, 4, 5] rfl ?_
            exact ih _ _ _ _ _ _ _ w
          · have w := w.2 c452
            refine X_aload_n (j := 3) (show decode cL_law 1852 = .ok (.aload_n 3, 1) by decide +kernel) rfl rfl ?_
            refine X_iconst (v := 0) (show decode cL_law 1853 = .ok (.iconst 0, 1) by decide +kernel) (by decide) ?_
            obtain ⟨s453, w⟩ := w
            obtain ⟨s454, w⟩ := w
            refine X_lald (show decode cL_law 1854 = .ok (.laload, 1) by decide +kernel) (isA_eq s453) s454 ?_
            refine X_iload (j := 7) (show decode cL_law 1855 = .ok (.iload 7, 2) by decide +kernel) rfl ?_
            refine X_i2l (show decode cL_law 1857 = .ok (.i2l, 1) by decide +kernel) ?_
            refine X_lcmp (show decode cL_law 1858 = .ok (.lcmp, 1) by decide +kernel) ?_
            refine X_if_eq (tgt := 1864) (show decode cL_law 1859 = .ok (.ifCond .eq 5, 3) by decide +kernel) (by decide) ⟨fun c455 => ?_, fun c455 => ?_⟩
            · have w := w.1 c455
              refine X_goto (tgt := 2925) (show decode cL_law 1864 = .ok (.goto 1061, 3) by decide +kernel) (by decide) ?_
              refine X_iinc (j := 5) (v := _ + 4) (ls' := [(0, .ref _), (1, .ref _), (2, .ref _), (3, .ref _), (4, .ref _), (5, .int _), (6, .int _), (7, .int _)]) (show decode cL_law 2925 = .ok (.iinc 5 4, 3) by decide +kernel) rfl rfl (Nat.le_of_ble_eq_true rfl) rfl ?_
              refine X_goto (tgt := 28) (show decode cL_law 2928 = .ok (.goto (-2900), 3) by decide +kernel) (by decide) ?_
              refine X_room (rc' := (n * 33 + 33)) (rs' := (n * 8198 + 8198)) (by omega) (by omega) ?_
              refine X_pick (ls' := [(0, .ref _), (1, .ref _), (2, .ref _), (3, .ref _), (4, .ref _), (5, .int _)]) [0, 1, 2, 3, 4, 5] rfl ?_
              exact ih _ _ _ _ _ _ _ w
            · have w := w.2 c455
              refine X_iconst (v := 0) (show decode cL_law 1862 = .ok (.iconst 0, 1) by decide +kernel) (by decide) ?_
              exact X_iret ⟨(show decode cL_law 1863 = .ok (.ireturn, 1) by decide +kernel), .boolean, rfl, (by decide)⟩ ⟨_, rfl, w⟩
        · have w := w.2 c451
          refine X_iconst (v := 0) (show decode cL_law 1845 = .ok (.iconst 0, 1) by decide +kernel) (by decide) ?_
          exact X_iret ⟨(show decode cL_law 1846 = .ok (.ireturn, 1) by decide +kernel), .boolean, rfl, (by decide)⟩ ⟨_, rfl, w⟩
      by_cases z28 : (mI h x0 x5.toNatClampNeg &&& 63) = 28
      · have w := w.2.2.2.2.2.2.2.2.2.2.2.2.2.2.2.2.2.2.2.2.2.2.2.2.2.2.2.2.1 z28
        refine X_tableIn (tgt := 1867) (show decode cL_law 44 = .ok (.tableswitch 2881 0 54 #[236, 292, 372, 440, 496, 552, 615, 683, 739, 795, 851, 864, 920, 976, 1032, 1095, 1151, 1219, 1287, 1367, 1435, 1448, 1473, 1529, 1585, 1648, 1711, 1767, 1823, 1879, 1935, 1991, 2066, 2079, 2092, 2167, 2180, 2193, 2237, 2281, 2294, 2307, 2321, 2386, 2452, 2465, 2478, 2534, 2590, 2648, 2692, 2736, 2780, 2824, 2837], 236) by decide +kernel) (by rw [z28]; decide) (by rw [z28]; decide) (by rw [z28]; rfl) (by decide) ?_
        refine X_aload_n (j := 1) (show decode cL_law 1867 = .ok (.aload_n 1, 1) by decide +kernel) rfl rfl ?_
        refine X_aload_n (j := 0) (show decode cL_law 1868 = .ok (.aload_n 0, 1) by decide +kernel) rfl rfl ?_
        refine X_iload (j := 5) (show decode cL_law 1869 = .ok (.iload 5, 2) by decide +kernel) rfl ?_
        refine X_iconst (v := 1) (show decode cL_law 1871 = .ok (.iconst 1, 1) by decide +kernel) (by decide) ?_
        refine X_iadd (show decode cL_law 1872 = .ok (.iadd, 1) by decide +kernel) ?_
        obtain ⟨s458, w⟩ := w
        refine X_iald (show decode cL_law 1873 = .ok (.iaload, 1) by decide +kernel) (isA_eq s9) s458 ?_
        refine X_aload_n (j := 3) (show decode cL_law 1874 = .ok (.aload_n 3, 1) by decide +kernel) rfl rfl ?_
        refine X_sI (rc' := (n * 33 + 64)) (rs' := (n * 8198 + 16384)) (as := [.ref _, .int _, .ref _]) ms_L_257 (show decode cL_law 1875 = .ok (.invokestatic 257, 3) by decide +kernel) (by decide) (by omega) (by omega) rfl rfl (Nat.le_of_ble_eq_true rfl) (kL_minutesUntilArrivalByPassing w) (fun E h hk => hk.elim) (fun r460 h459 w => ?_)
        refine X_istore (ls' := [(0, .ref _), (1, .ref _), (2, .ref _), (3, .ref _), (4, .ref _), (5, .int _), (6, .int _)]) (show decode cL_law 1878 = .ok (.istore 6, 2) by decide +kernel) (by decide) rfl ?_
        refine X_aload_n (j := 2) (show decode cL_law 1880 = .ok (.aload_n 2, 1) by decide +kernel) rfl rfl ?_
        refine X_aload_n (j := 0) (show decode cL_law 1881 = .ok (.aload_n 0, 1) by decide +kernel) rfl rfl ?_
        refine X_iload (j := 5) (show decode cL_law 1882 = .ok (.iload 5, 2) by decide +kernel) rfl ?_
        refine X_iconst (v := 1) (show decode cL_law 1884 = .ok (.iconst 1, 1) by decide +kernel) (by decide) ?_
        refine X_iadd (show decode cL_law 1885 = .ok (.iadd, 1) by decide +kernel) ?_
        obtain ⟨s461, w⟩ := w
        obtain ⟨s462, w⟩ := w
        refine X_iald (show decode cL_law 1886 = .ok (.iaload, 1) by decide +kernel) (isA_eq s461) s462 ?_
        obtain ⟨s473, w⟩ := w
        refine X_vI (rc' := (n * 33 + 64)) (rs' := (n * 8198 + 16384)) (as := [.int _]) mv_L_259 (show decode cL_law 1887 = .ok (.invokevirtual 259, 3) by decide +kernel) (by decide) (by omega) (by omega) rfl rfl (Nat.le_of_ble_eq_true rfl) (rcvD s473 (by decide) rfl) (kX10_minutesUntilArrivalByPassing w) (fun E h hk => hk.elim) (fun r464 h463 w => ?_)
        refine X_istore (ls' := [(0, .ref _), (1, .ref _), (2, .ref _), (3, .ref _), (4, .ref _), (5, .int _), (6, .int _), (7, .int _)]) (show decode cL_law 1890 = .ok (.istore 7, 2) by decide +kernel) (by decide) rfl ?_
        refine X_aload_n (j := 2) (show decode cL_law 1892 = .ok (.aload_n 2, 1) by decide +kernel) rfl rfl ?_
        obtain ⟨s472, w⟩ := w
        refine X_vI (rc' := (n * 33 + 64)) (rs' := (n * 8198 + 16384)) (as := []) mv_L_168 (show decode cL_law 1893 = .ok (.invokevirtual 168, 3) by decide +kernel) (by decide) (by omega) (by omega) rfl rfl (Nat.le_of_ble_eq_true rfl) (rcvD s472 (by decide) rfl) (kX10_thrown w) (fun E h hk => hk.elim) (fun r466 h465 w => ?_)
        refine X_iload (j := 6) (show decode cL_law 1896 = .ok (.iload 6, 2) by decide +kernel) rfl ?_
        refine X_icmp_eq (tgt := 1903) (show decode cL_law 1898 = .ok (.if_icmp .eq 5, 3) by decide +kernel) (by decide) ⟨fun c467 => ?_, fun c467 => ?_⟩
        · have w := w.1 c467
          refine X_iload (j := 6) (show decode cL_law 1903 = .ok (.iload 6, 2) by decide +kernel) rfl ?_
          refine X_if_ne (tgt := 1920) (show decode cL_law 1905 = .ok (.ifCond .ne 15, 3) by decide +kernel) (by decide) ⟨fun c468 => ?_, fun c468 => ?_⟩
          · have w := w.1 c468
            refine X_goto (tgt := 2925) (show decode cL_law 1920 = .ok (.goto 1005, 3) by decide +kernel) (by decide) ?_
            refine X_iinc (j := 5) (v := _ + 4) (ls' := [(0, .ref _), (1, .ref _), (2, .ref _), (3, .ref _), (4, .ref _), (5, .int _), (6, .int _), (7, .int _)]) (show decode cL_law 2925 = .ok (.iinc 5 4, 3) by decide +kernel) rfl rfl (Nat.le_of_ble_eq_true rfl) rfl ?_
            refine X_goto (tgt := 28) (show decode cL_law 2928 = .ok (.goto (-2900), 3) by decide +kernel) (by decide) ?_
            refine X_room (rc' := (n * 33 + 33)) (rs' := (n * 8198 + 8198)) (by omega) (by omega) ?_
            refine X_pick (ls' := [(0, .ref _), (1, .ref _), (2, .ref _), (3, .ref _), (4, .ref _), (5, .int _)]) [0, 1, 2, 3, 4, 5] rfl ?_
            exact ih _ _ _ _ _ _ _ w
          · have w := w.2 c468
            refine X_aload_n (j := 3) (show decode cL_law 1908 = .ok (.aload_n 3, 1) by decide +kernel) rfl rfl ?_
            refine X_iconst (v := 0) (show decode cL_law 1909 = .ok (.iconst 0, 1) by decide +kernel) (by decide) ?_
            obtain ⟨s469, w⟩ := w
            obtain ⟨s470, w⟩ := w
            refine X_lald (show decode cL_law 1910 = .ok (.laload, 1) by decide +kernel) (isA_eq s469) s470 ?_
            refine X_iload (j := 7) (show decode cL_law 1911 = .ok (.iload 7, 2) by decide +kernel) rfl ?_
            refine X_i2l (show decode cL_law 1913 = .ok (.i2l, 1) by decide +kernel) ?_
            refine X_lcmp (show decode cL_law 1914 = .ok (.lcmp, 1) by decide +kernel) ?_
            refine X_if_eq (tgt := 1920) (show decode cL_law 1915 = .ok (.ifCond .eq 5, 3) by decide +kernel) (by decide) ⟨fun c471 => ?_, fun c471 => ?_⟩
            · have w := w.1 c471
              refine X_goto (tgt := 2925) (show decode cL_law 1920 = .ok (.goto 1005, 3) by decide +kernel) (by decide) ?_
              refine X_iinc (j := 5) (v := _ + 4) (ls' := [(0, .ref _), (1, .ref _), (2, .ref _), (3, .ref _), (4, .ref _), (5, .int _), (6, .int _), (7, .int _)]) (show decode cL_law 2925 = .ok (.iinc 5 4, 3) by decide +kernel) rfl rfl (Nat.le_of_ble_eq_true rfl) rfl ?_
              refine X_goto (tgt := 28) (show decode cL_law 2928 = .ok (.goto (-2900), 3) by decide +kernel) (by decide) ?_
              refine X_room (rc' := (n * 33 + 33)) (rs' := (n * 8198 + 8198)) (by omega) (by omega) ?_
              refine X_pick (ls' := [(0, .ref _), (1, .ref _), (2, .ref _), (3, .ref _), (4, .ref _), (5, .int _)]) [0, 1, 2, 3, 4, 5] rfl ?_
              exact ih _ _ _ _ _ _ _ w
            · have w := w.2 c471
              refine X_iconst (v := 0) (show decode cL_law 1918 = .ok (.iconst 0, 1) by decide +kernel) (by decide) ?_
              exact X_iret ⟨(show decode cL_law 1919 = .ok (.ireturn, 1) by decide +kernel), .boolean, rfl, (by decide)⟩ ⟨_, rfl, w⟩
        · have w := w.2 c467
          refine X_iconst (v := 0) (show decode cL_law 1901 = .ok (.iconst 0, 1) by decide +kernel) (by decide) ?_
          exact X_iret ⟨(show decode cL_law 1902 = .ok (.ireturn, 1) by decide +kernel), .boolean, rfl, (by decide)⟩ ⟨_, rfl, w⟩
      by_cases z29 : (mI h x0 x5.toNatClampNeg &&& 63) = 29
      · have w := w.2.2.2.2.2.2.2.2.2.2.2.2.2.2.2.2.2.2.2.2.2.2.2.2.2.2.2.2.2.1 z29
        refine X_tableIn (tgt := 1923) (show decode cL_law 44 = .ok (.tableswitch 2881 0 54 #[236, 292, 372, 440, 496, 552, 615, 683, 739, 795, 851, 864, 920, 976, 1032, 1095, 1151, 1219, 1287, 1367, 1435, 1448, 1473, 1529, 1585, 1648, 1711, 1767, 1823, 1879, 1935, 1991, 2066, 2079, 2092, 2167, 2180, 2193, 2237, 2281, 2294, 2307, 2321, 2386, 2452, 2465, 2478, 2534, 2590, 2648, 2692, 2736, 2780, 2824, 2837], 236) by decide +kernel) (by rw [z29]; decide) (by rw [z29]; decide) (by rw [z29]; rfl) (by decide) ?_
        refine X_aload_n (j := 1) (show decode cL_law 1923 = .ok (.aload_n 1, 1) by decide +kernel) rfl rfl ?_
        refine X_aload_n (j := 0) (show decode cL_law 1924 = .ok (.aload_n 0, 1) by decide +kernel) rfl rfl ?_
        refine X_iload (j := 5) (show decode cL_law 1925 = .ok (.iload 5, 2) by decide +kernel) rfl ?_
        refine X_iconst (v := 1) (show decode cL_law 1927 = .ok (.iconst 1, 1) by decide +kernel) (by decide) ?_
        refine X_iadd (show decode cL_law 1928 = .ok (.iadd, 1) by decide +kernel) ?_
        obtain ⟨s474, w⟩ := w
        refine X_iald (show decode cL_law 1929 = .ok (.iaload, 1) by decide +kernel) (isA_eq s9) s474 ?_
        refine X_aload_n (j := 3) (show decode cL_law 1930 = .ok (.aload_n 3, 1) by decide +kernel) rfl rfl ?_
        refine X_sI (rc' := (n * 33 + 65)) (rs' := (n * 8198 + 16390)) (as := [.ref _, .int _, .ref _]) ms_L_260 (show decode cL_law 1931 = .ok (.invokestatic 260, 3) by decide +kernel) (by decide) (by omega) (by omega) rfl rfl (Nat.le_of_ble_eq_true rfl) (kL_delay w) (fun E h hk => hk.elim) (fun r476 h475 w => ?_)
        refine X_istore (ls' := [(0, .ref _), (1, .ref _), (2, .ref _), (3, .ref _), (4, .ref _), (5, .int _), (6, .int _)]) (show decode cL_law 1934 = .ok (.istore 6, 2) by decide +kernel) (by decide) rfl ?_
        refine X_aload_n (j := 2) (show decode cL_law 1936 = .ok (.aload_n 2, 1) by decide +kernel) rfl rfl ?_
        refine X_aload_n (j := 0) (show decode cL_law 1937 = .ok (.aload_n 0, 1) by decide +kernel) rfl rfl ?_
        refine X_iload (j := 5) (show decode cL_law 1938 = .ok (.iload 5, 2) by decide +kernel) rfl ?_
        refine X_iconst (v := 1) (show decode cL_law 1940 = .ok (.iconst 1, 1) by decide +kernel) (by decide) ?_
        refine X_iadd (show decode cL_law 1941 = .ok (.iadd, 1) by decide +kernel) ?_
        obtain ⟨s477, w⟩ := w
        obtain ⟨s478, w⟩ := w
        refine X_iald (show decode cL_law 1942 = .ok (.iaload, 1) by decide +kernel) (isA_eq s477) s478 ?_
        obtain ⟨s489, w⟩ := w
        refine X_vI (rc' := (n * 33 + 65)) (rs' := (n * 8198 + 16390)) (as := [.int _]) mv_L_262 (show decode cL_law 1943 = .ok (.invokevirtual 262, 3) by decide +kernel) (by decide) (by omega) (by omega) rfl rfl (Nat.le_of_ble_eq_true rfl) (rcvD s489 (by decide) rfl) (kX10_delay w) (fun E h hk => hk.elim) (fun r480 h479 w => ?_)
        refine X_istore (ls' := [(0, .ref _), (1, .ref _), (2, .ref _), (3, .ref _), (4, .ref _), (5, .int _), (6, .int _), (7, .int _)]) (show decode cL_law 1946 = .ok (.istore 7, 2) by decide +kernel) (by decide) rfl ?_
        refine X_aload_n (j := 2) (show decode cL_law 1948 = .ok (.aload_n 2, 1) by decide +kernel) rfl rfl ?_
        obtain ⟨s488, w⟩ := w
        refine X_vI (rc' := (n * 33 + 65)) (rs' := (n * 8198 + 16390)) (as := []) mv_L_168 (show decode cL_law 1949 = .ok (.invokevirtual 168, 3) by decide +kernel) (by decide) (by omega) (by omega) rfl rfl (Nat.le_of_ble_eq_true rfl) (rcvD s488 (by decide) rfl) (kX10_thrown w) (fun E h hk => hk.elim) (fun r482 h481 w => ?_)
        refine X_iload (j := 6) (show decode cL_law 1952 = .ok (.iload 6, 2) by decide +kernel) rfl ?_
        refine X_icmp_eq (tgt := 1959) (show decode cL_law 1954 = .ok (.if_icmp .eq 5, 3) by decide +kernel) (by decide) ⟨fun c483 => ?_, fun c483 => ?_⟩
        · have w := w.1 c483
          refine X_iload (j := 6) (show decode cL_law 1959 = .ok (.iload 6, 2) by decide +kernel) rfl ?_
          refine X_if_ne (tgt := 1976) (show decode cL_law 1961 = .ok (.ifCond .ne 15, 3) by decide +kernel) (by decide) ⟨fun c484 => ?_, fun c484 => ?_⟩
          · have w := w.1 c484
            refine X_goto (tgt := 2925) (show decode cL_law 1976 = .ok (.goto 949, 3) by decide +kernel) (by decide) ?_
            refine X_iinc (j := 5) (v := _ + 4) (ls' := [(0, .ref _), (1, .ref _), (2, .ref _), (3, .ref _), (4, .ref _), (5, .int _), (6, .int _), (7, .int _)]) (show decode cL_law 2925 = .ok (.iinc 5 4, 3) by decide +kernel) rfl rfl (Nat.le_of_ble_eq_true rfl) rfl ?_
            refine X_goto (tgt := 28) (show decode cL_law 2928 = .ok (.goto (-2900), 3) by decide +kernel) (by decide) ?_
            refine X_room (rc' := (n * 33 + 33)) (rs' := (n * 8198 + 8198)) (by omega) (by omega) ?_
            refine X_pick (ls' := [(0, .ref _), (1, .ref _), (2, .ref _), (3, .ref _), (4, .ref _), (5, .int _)]) [0, 1, 2, 3, 4, 5] rfl ?_
            exact ih _ _ _ _ _ _ _ w
          · have w := w.2 c484
            refine X_aload_n (j := 3) (show decode cL_law 1964 = .ok (.aload_n 3, 1) by decide +kernel) rfl rfl ?_
            refine X_iconst (v := 0) (show decode cL_law 1965 = .ok (.iconst 0, 1) by decide +kernel) (by decide) ?_
            obtain ⟨s485, w⟩ := w
            obtain ⟨s486, w⟩ := w
            refine X_lald (show decode cL_law 1966 = .ok (.laload, 1) by decide +kernel) (isA_eq s485) s486 ?_
            refine X_iload (j := 7) (show decode cL_law 1967 = .ok (.iload 7, 2) by decide +kernel) rfl ?_
            refine X_i2l (show decode cL_law 1969 = .ok (.i2l, 1) by decide +kernel) ?_
            refine X_lcmp (show decode cL_law 1970 = .ok (.lcmp, 1) by decide +kernel) ?_
            refine X_if_eq (tgt := 1976) (show decode cL_law 1971 = .ok (.ifCond .eq 5, 3) by decide +kernel) (by decide) ⟨fun c487 => ?_, fun c487 => ?_⟩
            · have w := w.1 c487
              refine X_goto (tgt := 2925) (show decode cL_law 1976 = .ok (.goto 949, 3) by decide +kernel) (by decide) ?_
              refine X_iinc (j := 5) (v := _ + 4) (ls' := [(0, .ref _), (1, .ref _), (2, .ref _), (3, .ref _), (4, .ref _), (5, .int _), (6, .int _), (7, .int _)]) (show decode cL_law 2925 = .ok (.iinc 5 4, 3) by decide +kernel) rfl rfl (Nat.le_of_ble_eq_true rfl) rfl ?_
              refine X_goto (tgt := 28) (show decode cL_law 2928 = .ok (.goto (-2900), 3) by decide +kernel) (by decide) ?_
              refine X_room (rc' := (n * 33 + 33)) (rs' := (n * 8198 + 8198)) (by omega) (by omega) ?_
              refine X_pick (ls' := [(0, .ref _), (1, .ref _), (2, .ref _), (3, .ref _), (4, .ref _), (5, .int _)]) [0, 1, 2, 3, 4, 5] rfl ?_
              exact ih _ _ _ _ _ _ _ w
            · have w := w.2 c487
              refine X_iconst (v := 0) (show decode cL_law 1974 = .ok (.iconst 0, 1) by decide +kernel) (by decide) ?_
              exact X_iret ⟨(show decode cL_law 1975 = .ok (.ireturn, 1) by decide +kernel), .boolean, rfl, (by decide)⟩ ⟨_, rfl, w⟩
        · have w := w.2 c483
          refine X_iconst (v := 0) (show decode cL_law 1957 = .ok (.iconst 0, 1) by decide +kernel) (by decide) ?_
          exact X_iret ⟨(show decode cL_law 1958 = .ok (.ireturn, 1) by decide +kernel), .boolean, rfl, (by decide)⟩ ⟨_, rfl, w⟩
      by_cases z30 : (mI h x0 x5.toNatClampNeg &&& 63) = 30
      · have w := w.2.2.2.2.2.2.2.2.2.2.2.2.2.2.2.2.2.2.2.2.2.2.2.2.2.2.2.2.2.2.1 z30
        refine X_tableIn (tgt := 1979) (show decode cL_law 44 = .ok (.tableswitch 2881 0 54 #[236, 292, 372, 440, 496, 552, 615, 683, 739, 795, 851, 864, 920, 976, 1032, 1095, 1151, 1219, 1287, 1367, 1435, 1448, 1473, 1529, 1585, 1648, 1711, 1767, 1823, 1879, 1935, 1991, 2066, 2079, 2092, 2167, 2180, 2193, 2237, 2281, 2294, 2307, 2321, 2386, 2452, 2465, 2478, 2534, 2590, 2648, 2692, 2736, 2780, 2824, 2837], 236) by decide +kernel) (by rw [z30]; decide) (by rw [z30]; decide) (by rw [z30]; rfl) (by decide) ?_
        refine X_aload_n (j := 1) (show decode cL_law 1979 = .ok (.aload_n 1, 1) by decide +kernel) rfl rfl ?_
        refine X_aload_n (j := 0) (show decode cL_law 1980 = .ok (.aload_n 0, 1) by decide +kernel) rfl rfl ?_
        refine X_iload (j := 5) (show decode cL_law 1981 = .ok (.iload 5, 2) by decide +kernel) rfl ?_
        refine X_iconst (v := 1) (show decode cL_law 1983 = .ok (.iconst 1, 1) by decide +kernel) (by decide) ?_
        refine X_iadd (show decode cL_law 1984 = .ok (.iadd, 1) by decide +kernel) ?_
        obtain ⟨s490, w⟩ := w
        refine X_iald (show decode cL_law 1985 = .ok (.iaload, 1) by decide +kernel) (isA_eq s9) s490 ?_
        refine X_aload_n (j := 3) (show decode cL_law 1986 = .ok (.aload_n 3, 1) by decide +kernel) rfl rfl ?_
        refine X_sI (rc' := (n * 33 + 65)) (rs' := (n * 8198 + 16390)) (as := [.ref _, .int _, .ref _]) ms_L_263 (show decode cL_law 1987 = .ok (.invokestatic 263, 3) by decide +kernel) (by decide) (by omega) (by omega) rfl rfl (Nat.le_of_ble_eq_true rfl) (kL_queued w) (fun E h hk => hk.elim) (fun r492 h491 w => ?_)
        refine X_istore (ls' := [(0, .ref _), (1, .ref _), (2, .ref _), (3, .ref _), (4, .ref _), (5, .int _), (6, .int _)]) (show decode cL_law 1990 = .ok (.istore 6, 2) by decide +kernel) (by decide) rfl ?_
        refine X_aload_n (j := 2) (show decode cL_law 1992 = .ok (.aload_n 2, 1) by decide +kernel) rfl rfl ?_
        refine X_aload_n (j := 0) (show decode cL_law 1993 = .ok (.aload_n 0, 1) by decide +kernel) rfl rfl ?_
        refine X_iload (j := 5) (show decode cL_law 1994 = .ok (.iload 5, 2) by decide +kernel) rfl ?_
        refine X_iconst (v := 1) (show decode cL_law 1996 = .ok (.iconst 1, 1) by decide +kernel) (by decide) ?_
        refine X_iadd (show decode cL_law 1997 = .ok (.iadd, 1) by decide +kernel) ?_
        obtain ⟨s493, w⟩ := w
        obtain ⟨s494, w⟩ := w
        refine X_iald (show decode cL_law 1998 = .ok (.iaload, 1) by decide +kernel) (isA_eq s493) s494 ?_
        obtain ⟨s505, w⟩ := w
        refine X_vI (rc' := (n * 33 + 65)) (rs' := (n * 8198 + 16390)) (as := [.int _]) mv_L_265 (show decode cL_law 1999 = .ok (.invokevirtual 265, 3) by decide +kernel) (by decide) (by omega) (by omega) rfl rfl (Nat.le_of_ble_eq_true rfl) (rcvD s505 (by decide) rfl) (kX10_queued w) (fun E h hk => hk.elim) (fun r496 h495 w => ?_)
        refine X_istore (ls' := [(0, .ref _), (1, .ref _), (2, .ref _), (3, .ref _), (4, .ref _), (5, .int _), (6, .int _), (7, .int _)]) (show decode cL_law 2002 = .ok (.istore 7, 2) by decide +kernel) (by decide) rfl ?_
        refine X_aload_n (j := 2) (show decode cL_law 2004 = .ok (.aload_n 2, 1) by decide +kernel) rfl rfl ?_
        obtain ⟨s504, w⟩ := w
        refine X_vI (rc' := (n * 33 + 65)) (rs' := (n * 8198 + 16390)) (as := []) mv_L_168 (show decode cL_law 2005 = .ok (.invokevirtual 168, 3) by decide +kernel) (by decide) (by omega) (by omega) rfl rfl (Nat.le_of_ble_eq_true rfl) (rcvD s504 (by decide) rfl) (kX10_thrown w) (fun E h hk => hk.elim) (fun r498 h497 w => ?_)
        refine X_iload (j := 6) (show decode cL_law 2008 = .ok (.iload 6, 2) by decide +kernel) rfl ?_
        refine X_icmp_eq (tgt := 2015) (show decode cL_law 2010 = .ok (.if_icmp .eq 5, 3) by decide +kernel) (by decide) ⟨fun c499 => ?_, fun c499 => ?_⟩
        · have w := w.1 c499
          refine X_iload (j := 6) (show decode cL_law 2015 = .ok (.iload 6, 2) by decide +kernel) rfl ?_
          refine X_if_ne (tgt := 2032) (show decode cL_law 2017 = .ok (.ifCond .ne 15, 3) by decide +kernel) (by decide) ⟨fun c500 => ?_, fun c500 => ?_⟩
          · have w := w.1 c500
            refine X_goto (tgt := 2925) (show decode cL_law 2032 = .ok (.goto 893, 3) by decide +kernel) (by decide) ?_
            refine X_iinc (j := 5) (v := _ + 4) (ls' := [(0, .ref _), (1, .ref _), (2, .ref _), (3, .ref _), (4, .ref _), (5, .int _), (6, .int _), (7, .int _)]) (show decode cL_law 2925 = .ok (.iinc 5 4, 3) by decide +kernel) rfl rfl (Nat.le_of_ble_eq_true rfl) rfl ?_
            refine X_goto (tgt := 28) (show decode cL_law 2928 = .ok (.goto (-2900), 3) by decide +kernel) (by decide) ?_
            refine X_room (rc' := (n * 33 + 33)) (rs' := (n * 8198 + 8198)) (by omega) (by omega) ?_
            refine X_pick (ls' := [(0, .ref _), (1, .ref _), (2, .ref _), (3, .ref _), (4, .ref _), (5, .int _)]) [0, 1, 2, 3, 4, 5] rfl ?_
            exact ih _ _ _ _ _ _ _ w
          · have w := w.2 c500
            refine X_aload_n (j := 3) (show decode cL_law 2020 = .ok (.aload_n 3, 1) by decide +kernel) rfl rfl ?_
            refine X_iconst (v := 0) (show decode cL_law 2021 = .ok (.iconst 0, 1) by decide +kernel) (by decide) ?_
            obtain ⟨s501, w⟩ := w
            obtain ⟨s502, w⟩ := w
            refine X_lald (show decode cL_law 2022 = .ok (.laload, 1) by decide +kernel) (isA_eq s501) s502 ?_
            refine X_iload (j := 7) (show decode cL_law 2023 = .ok (.iload 7, 2) by decide +kernel) rfl ?_
            refine X_i2l (show decode cL_law 2025 = .ok (.i2l, 1) by decide +kernel) ?_
            refine X_lcmp (show decode cL_law 2026 = .ok (.lcmp, 1) by decide +kernel) ?_
            refine X_if_eq (tgt := 2032) (show decode cL_law 2027 = .ok (.ifCond .eq 5, 3) by decide +kernel) (by decide) ⟨fun c503 => ?_, fun c503 => ?_⟩
            · have w := w.1 c503
              refine X_goto (tgt := 2925) (show decode cL_law 2032 = .ok (.goto 893, 3) by decide +kernel) (by decide) ?_
              refine X_iinc (j := 5) (v := _ + 4) (ls' := [(0, .ref _), (1, .ref _), (2, .ref _), (3, .ref _), (4, .ref _), (5, .int _), (6, .int _), (7, .int _)]) (show decode cL_law 2925 = .ok (.iinc 5 4, 3) by decide +kernel) rfl rfl (Nat.le_of_ble_eq_true rfl) rfl ?_
              refine X_goto (tgt := 28) (show decode cL_law 2928 = .ok (.goto (-2900), 3) by decide +kernel) (by decide) ?_
              refine X_room (rc' := (n * 33 + 33)) (rs' := (n * 8198 + 8198)) (by omega) (by omega) ?_
              refine X_pick (ls' := [(0, .ref _), (1, .ref _), (2, .ref _), (3, .ref _), (4, .ref _), (5, .int _)]) [0, 1, 2, 3, 4, 5] rfl ?_
              exact ih _ _ _ _ _ _ _ w
            · have w := w.2 c503
              refine X_iconst (v := 0) (show decode cL_law 2030 = .ok (.iconst 0, 1) by decide +kernel) (by decide) ?_
              exact X_iret ⟨(show decode cL_law 2031 = .ok (.ireturn, 1) by decide +kernel), .boolean, rfl, (by decide)⟩ ⟨_, rfl, w⟩
        · have w := w.2 c499
          refine X_iconst (v := 0) (show decode cL_law 2013 = .ok (.iconst 0, 1) by decide +kernel) (by decide) ?_
          exact X_iret ⟨(show decode cL_law 2014 = .ok (.ireturn, 1) by decide +kernel), .boolean, rfl, (by decide)⟩ ⟨_, rfl, w⟩
      by_cases z31 : (mI h x0 x5.toNatClampNeg &&& 63) = 31
      · have w := w.2.2.2.2.2.2.2.2.2.2.2.2.2.2.2.2.2.2.2.2.2.2.2.2.2.2.2.2.2.2.2.1 z31
        refine X_tableIn (tgt := 2035) (show decode cL_law 44 = .ok (.tableswitch 2881 0 54 #[236, 292, 372, 440, 496, 552, 615, 683, 739, 795, 851, 864, 920, 976, 1032, 1095, 1151, 1219, 1287, 1367, 1435, 1448, 1473, 1529, 1585, 1648, 1711, 1767, 1823, 1879, 1935, 1991, 2066, 2079, 2092, 2167, 2180, 2193, 2237, 2281, 2294, 2307, 2321, 2386, 2452, 2465, 2478, 2534, 2590, 2648, 2692, 2736, 2780, 2824, 2837], 236) by decide +kernel) (by rw [z31]; decide) (by rw [z31]; decide) (by rw [z31]; rfl) (by decide) ?_
        refine X_aload_n (j := 1) (show decode cL_law 2035 = .ok (.aload_n 1, 1) by decide +kernel) rfl rfl ?_
        refine X_aload_n (j := 0) (show decode cL_law 2036 = .ok (.aload_n 0, 1) by decide +kernel) rfl rfl ?_
        refine X_iload (j := 5) (show decode cL_law 2037 = .ok (.iload 5, 2) by decide +kernel) rfl ?_
        refine X_iconst (v := 1) (show decode cL_law 2039 = .ok (.iconst 1, 1) by decide +kernel) (by decide) ?_
        refine X_iadd (show decode cL_law 2040 = .ok (.iadd, 1) by decide +kernel) ?_
        obtain ⟨s506, w⟩ := w
        refine X_iald (show decode cL_law 2041 = .ok (.iaload, 1) by decide +kernel) (isA_eq s9) s506 ?_
        refine X_aload_n (j := 0) (show decode cL_law 2042 = .ok (.aload_n 0, 1) by decide +kernel) rfl rfl ?_
        refine X_iload (j := 5) (show decode cL_law 2043 = .ok (.iload 5, 2) by decide +kernel) rfl ?_
        refine X_iconst (v := 2) (show decode cL_law 2045 = .ok (.iconst 2, 1) by decide +kernel) (by decide) ?_
        refine X_iadd (show decode cL_law 2046 = .ok (.iadd, 1) by decide +kernel) ?_
        obtain ⟨s507, w⟩ := w
        refine X_iald (show decode cL_law 2047 = .ok (.iaload, 1) by decide +kernel) (isA_eq s9) s507 ?_
        refine X_aload_n (j := 3) (show decode cL_law 2048 = .ok (.aload_n 3, 1) by decide +kernel) rfl rfl ?_
        refine X_sI (rc' := (n * 33 + 64)) (rs' := (n * 8198 + 16384)) (as := [.ref _, .int _, .int _, .ref _]) ms_L_266 (show decode cL_law 2049 = .ok (.invokestatic 266, 3) by decide +kernel) (by decide) (by omega) (by omega) rfl rfl (Nat.le_of_ble_eq_true rfl) (kL_waitsFor w) (fun E h hk => hk.elim) (fun r509 h508 w => ?_)
        refine X_istore (ls' := [(0, .ref _), (1, .ref _), (2, .ref _), (3, .ref _), (4, .ref _), (5, .int _), (6, .int _)]) (show decode cL_law 2052 = .ok (.istore 6, 2) by decide +kernel) (by decide) rfl ?_
        refine X_aload_n (j := 2) (show decode cL_law 2054 = .ok (.aload_n 2, 1) by decide +kernel) rfl rfl ?_
        refine X_aload_n (j := 0) (show decode cL_law 2055 = .ok (.aload_n 0, 1) by decide +kernel) rfl rfl ?_
        refine X_iload (j := 5) (show decode cL_law 2056 = .ok (.iload 5, 2) by decide +kernel) rfl ?_
        refine X_iconst (v := 1) (show decode cL_law 2058 = .ok (.iconst 1, 1) by decide +kernel) (by decide) ?_
        refine X_iadd (show decode cL_law 2059 = .ok (.iadd, 1) by decide +kernel) ?_
        obtain ⟨s510, w⟩ := w
        obtain ⟨s511, w⟩ := w
        refine X_iald (show decode cL_law 2060 = .ok (.iaload, 1) by decide +kernel) (isA_eq s510) s511 ?_
        refine X_aload_n (j := 0) (show decode cL_law 2061 = .ok (.aload_n 0, 1) by decide +kernel) rfl rfl ?_
        refine X_iload (j := 5) (show decode cL_law 2062 = .ok (.iload 5, 2) by decide +kernel) rfl ?_
        refine X_iconst (v := 2) (show decode cL_law 2064 = .ok (.iconst 2, 1) by decide +kernel) (by decide) ?_
        refine X_iadd (show decode cL_law 2065 = .ok (.iadd, 1) by decide +kernel) ?_
        obtain ⟨s512, w⟩ := w
        refine X_iald (show decode cL_law 2066 = .ok (.iaload, 1) by decide +kernel) (isA_eq s510) s512 ?_
        obtain ⟨s524, w⟩ := w
        refine X_vI (rc' := (n * 33 + 64)) (rs' := (n * 8198 + 16384)) (as := [.int _, .int _]) mv_L_268 (show decode cL_law 2067 = .ok (.invokevirtual 268, 3) by decide +kernel) (by decide) (by omega) (by omega) rfl rfl (Nat.le_of_ble_eq_true rfl) (rcvD s524 (by decide) rfl) (kX10_waitsFor w) (fun E h hk => hk.elim) (fun r514 h513 w => ?_)
        refine X_istore (ls' := [(0, .ref _), (1, .ref _), (2, .ref _), (3, .ref _), (4, .ref _), (5, .int _), (6, .int _), (7, .int _)]) (show decode cL_law 2070 = .ok (.istore 7, 2) by decide +kernel) (by decide) rfl ?_
        refine X_aload_n (j := 2) (show decode cL_law 2072 = .ok (.aload_n 2, 1) by decide +kernel) rfl rfl ?_
        obtain ⟨s523, w⟩ := w
        refine X_vI (rc' := (n * 33 + 64)) (rs' := (n * 8198 + 16384)) (as := []) mv_L_168 (show decode cL_law 2073 = .ok (.invokevirtual 168, 3) by decide +kernel) (by decide) (by omega) (by omega) rfl rfl (Nat.le_of_ble_eq_true rfl) (rcvD s523 (by decide) rfl) (kX10_thrown w) (fun E h hk => hk.elim) (fun r516 h515 w => ?_)
        refine X_iload (j := 6) (show decode cL_law 2076 = .ok (.iload 6, 2) by decide +kernel) rfl ?_
        refine X_icmp_eq (tgt := 2083) (show decode cL_law 2078 = .ok (.if_icmp .eq 5, 3) by decide +kernel) (by decide) ⟨fun c517 => ?_, fun c517 => ?_⟩
        · have w := w.1 c517
          refine X_iload (j := 6) (show decode cL_law 2083 = .ok (.iload 6, 2) by decide +kernel) rfl ?_
          refine X_if_ne (tgt := 2107) (show decode cL_law 2085 = .ok (.ifCond .ne 22, 3) by decide +kernel) (by decide) ⟨fun c518 => ?_, fun c518 => ?_⟩
          · have w := w.1 c518
            refine X_goto (tgt := 2925) (show decode cL_law 2107 = .ok (.goto 818, 3) by decide +kernel) (by decide) ?_
            refine X_iinc (j := 5) (v := _ + 4) (ls' := [(0, .ref _), (1, .ref _), (2, .ref _), (3, .ref _), (4, .ref _), (5, .int _), (6, .int _), (7, .int _)]) (show decode cL_law 2925 = .ok (.iinc 5 4, 3) by decide +kernel) rfl rfl (Nat.le_of_ble_eq_true rfl) rfl ?_
            refine X_goto (tgt := 28) (show decode cL_law 2928 = .ok (.goto (-2900), 3) by decide +kernel) (by decide) ?_
            refine X_room (rc' := (n * 33 + 33)) (rs' := (n * 8198 + 8198)) (by omega) (by omega) ?_
            refine X_pick (ls' := [(0, .ref _), (1, .ref _), (2, .ref _), (3, .ref _), (4, .ref _), (5, .int _)]) [0, 1, 2, 3, 4, 5] rfl ?_
            exact ih _ _ _ _ _ _ _ w
          · have w := w.2 c518
            refine X_aload_n (j := 3) (show decode cL_law 2088 = .ok (.aload_n 3, 1) by decide +kernel) rfl rfl ?_
            refine X_iconst (v := 0) (show decode cL_law 2089 = .ok (.iconst 0, 1) by decide +kernel) (by decide) ?_
            obtain ⟨s519, w⟩ := w
            obtain ⟨s520, w⟩ := w
            refine X_lald (show decode cL_law 2090 = .ok (.laload, 1) by decide +kernel) (isA_eq s519) s520 ?_
            refine X_iload (j := 7) (show decode cL_law 2091 = .ok (.iload 7, 2) by decide +kernel) rfl ?_
            refine X_if_eq (tgt := 2100) (show decode cL_law 2093 = .ok (.ifCond .eq 7, 3) by decide +kernel) (by decide) ⟨fun c521 => ?_, fun c521 => ?_⟩
            · have w := w.1 c521
              refine X_lconst (v := 0) (show decode cL_law 2100 = .ok (.lconst 0, 1) by decide +kernel) (by decide) ?_
              refine X_room (rc' := 0) (rs' := 0) (by omega) (by omega) ?_
              refine X_pick (ls' := [(0, .ref _), (1, .ref _), (2, .ref _), (3, .ref _), (4, .ref _), (5, .int _)]) [0, 1, 2, 3, 4, 5] rfl ?_
              exact kL_law_J2101 ih _ _ _ _ _ _ _ _ _ w
            · have w := w.2 c521
              refine X_lconst (v := 1) (show decode cL_law 2096 = .ok (.lconst 1, 1) by decide +kernel) (by decide) ?_
              refine X_goto (tgt := 2101) (show decode cL_law 2097 = .ok (.goto 4, 3) by decide +kernel) (by decide) ?_
              refine X_room (rc' := 0) (rs' := 0) (by omega) (by omega) ?_
              refine X_pick (ls' := [(0, .ref _), (1, .ref _), (2, .ref _), (3, .ref _), (4, .ref _), (5, .int _)]) [0, 1, 2, 3, 4, 5] rfl ?_
              exact kL_law_J2101 ih _ _ _ _ _ _ _ _ _ w
        · have w := w.2 c517
          refine X_iconst (v := 0) (show decode cL_law 2081 = .ok (.iconst 0, 1) by decide +kernel) (by decide) ?_
          exact X_iret ⟨(show decode cL_law 2082 = .ok (.ireturn, 1) by decide +kernel), .boolean, rfl, (by decide)⟩ ⟨_, rfl, w⟩
      by_cases z32 : (mI h x0 x5.toNatClampNeg &&& 63) = 32
      · have w := w.2.2.2.2.2.2.2.2.2.2.2.2.2.2.2.2.2.2.2.2.2.2.2.2.2.2.2.2.2.2.2.2.1 z32
        refine X_tableIn (tgt := 2110) (show decode cL_law 44 = .ok (.tableswitch 2881 0 54 #[236, 292, 372, 440, 496, 552, 615, 683, 739, 795, 851, 864, 920, 976, 1032, 1095, 1151, 1219, 1287, 1367, 1435, 1448, 1473, 1529, 1585, 1648, 1711, 1767, 1823, 1879, 1935, 1991, 2066, 2079, 2092, 2167, 2180, 2193, 2237, 2281, 2294, 2307, 2321, 2386, 2452, 2465, 2478, 2534, 2590, 2648, 2692, 2736, 2780, 2824, 2837], 236) by decide +kernel) (by rw [z32]; decide) (by rw [z32]; decide) (by rw [z32]; rfl) (by decide) ?_
        refine X_aload_n (j := 1) (show decode cL_law 2110 = .ok (.aload_n 1, 1) by decide +kernel) rfl rfl ?_
        obtain ⟨s531, w⟩ := w
        refine X_vI (rc' := (n * 33 + 66)) (rs' := (n * 8198 + 16396)) (as := []) mv_L_269 (show decode cL_law 2111 = .ok (.invokevirtual 269, 3) by decide +kernel) (by decide) (by omega) (by omega) rfl rfl (Nat.le_of_ble_eq_true rfl) (rcvD s531 (by decide) rfl) (kX9_deadlocked w) (fun E h hk => hk.elim) (fun r526 h525 w => ?_)
        refine X_aload_n (j := 2) (show decode cL_law 2114 = .ok (.aload_n 2, 1) by decide +kernel) rfl rfl ?_
        obtain ⟨s530, w⟩ := w
        refine X_vI (rc' := (n * 33 + 66)) (rs' := (n * 8198 + 16396)) (as := []) mv_L_272 (show decode cL_law 2115 = .ok (.invokevirtual 272, 3) by decide +kernel) (by decide) (by omega) (by omega) rfl rfl (Nat.le_of_ble_eq_true rfl) (rcvD s530 (by decide) rfl) (kX10_deadlocked w) (fun E h hk => hk.elim) (fun r528 h527 w => ?_)
        refine X_icmp_eq (tgt := 2925) (show decode cL_law 2118 = .ok (.if_icmp .eq 807, 3) by decide +kernel) (by decide) ⟨fun c529 => ?_, fun c529 => ?_⟩
        · have w := w.1 c529
          refine X_iinc (j := 5) (v := _ + 4) (ls' := [(0, .ref _), (1, .ref _), (2, .ref _), (3, .ref _), (4, .ref _), (5, .int _)]) (show decode cL_law 2925 = .ok (.iinc 5 4, 3) by decide +kernel) rfl rfl (Nat.le_of_ble_eq_true rfl) rfl ?_
          refine X_goto (tgt := 28) (show decode cL_law 2928 = .ok (.goto (-2900), 3) by decide +kernel) (by decide) ?_
          refine X_room (rc' := (n * 33 + 33)) (rs' := (n * 8198 + 8198)) (by omega) (by omega) ?_
          exact ih _ _ _ _ _ _ _ w
        · have w := w.2 c529
          refine X_iconst (v := 0) (show decode cL_law 2121 = .ok (.iconst 0, 1) by decide +kernel) (by decide) ?_
          exact X_iret ⟨(show decode cL_law 2122 = .ok (.ireturn, 1) by decide +kernel), .boolean, rfl, (by decide)⟩ ⟨_, rfl, w⟩
      by_cases z33 : (mI h x0 x5.toNatClampNeg &&& 63) = 33
      · have w := w.2.2.2.2.2.2.2.2.2.2.2.2.2.2.2.2.2.2.2.2.2.2.2.2.2.2.2.2.2.2.2.2.2.1 z33
        refine X_tableIn (tgt := 2123) (show decode cL_law 44 = .ok (.tableswitch 2881 0 54 #[236, 292, 372, 440, 496, 552, 615, 683, 739, 795, 851, 864, 920, 976, 1032, 1095, 1151, 1219, 1287, 1367, 1435, 1448, 1473, 1529, 1585, 1648, 1711, 1767, 1823, 1879, 1935, 1991, 2066, 2079, 2092, 2167, 2180, 2193, 2237, 2281, 2294, 2307, 2321, 2386, 2452, 2465, 2478, 2534, 2590, 2648, 2692, 2736, 2780, 2824, 2837], 236) by decide +kernel) (by rw [z33]; decide) (by rw [z33]; decide) (by rw [z33]; rfl) (by decide) ?_
        refine X_aload_n (j := 1) (show decode cL_law 2123 = .ok (.aload_n 1, 1) by decide +kernel) rfl rfl ?_
        obtain ⟨s538, w⟩ := w
        refine X_vI (rc' := (n * 33 + 66)) (rs' := (n * 8198 + 16396)) (as := []) mv_L_273 (show decode cL_law 2124 = .ok (.invokevirtual 273, 3) by decide +kernel) (by decide) (by omega) (by omega) rfl rfl (Nat.le_of_ble_eq_true rfl) (rcvD s538 (by decide) rfl) (kX9_deadlockedByPairs w) (fun E h hk => hk.elim) (fun r533 h532 w => ?_)
        refine X_aload_n (j := 2) (show decode cL_law 2127 = .ok (.aload_n 2, 1) by decide +kernel) rfl rfl ?_
        obtain ⟨s537, w⟩ := w
        refine X_vI (rc' := (n * 33 + 66)) (rs' := (n * 8198 + 16396)) (as := []) mv_L_276 (show decode cL_law 2128 = .ok (.invokevirtual 276, 3) by decide +kernel) (by decide) (by omega) (by omega) rfl rfl (Nat.le_of_ble_eq_true rfl) (rcvD s537 (by decide) rfl) (kX10_deadlockedByPairs w) (fun E h hk => hk.elim) (fun r535 h534 w => ?_)
        refine X_icmp_eq (tgt := 2925) (show decode cL_law 2131 = .ok (.if_icmp .eq 794, 3) by decide +kernel) (by decide) ⟨fun c536 => ?_, fun c536 => ?_⟩
        · have w := w.1 c536
          refine X_iinc (j := 5) (v := _ + 4) (ls' := [(0, .ref _), (1, .ref _), (2, .ref _), (3, .ref _), (4, .ref _), (5, .int _)]) (show decode cL_law 2925 = .ok (.iinc 5 4, 3) by decide +kernel) rfl rfl (Nat.le_of_ble_eq_true rfl) rfl ?_
          refine X_goto (tgt := 28) (show decode cL_law 2928 = .ok (.goto (-2900), 3) by decide +kernel) (by decide) ?_
          refine X_room (rc' := (n * 33 + 33)) (rs' := (n * 8198 + 8198)) (by omega) (by omega) ?_
          exact ih _ _ _ _ _ _ _ w
        · have w := w.2 c536
          refine X_iconst (v := 0) (show decode cL_law 2134 = .ok (.iconst 0, 1) by decide +kernel) (by decide) ?_
          exact X_iret ⟨(show decode cL_law 2135 = .ok (.ireturn, 1) by decide +kernel), .boolean, rfl, (by decide)⟩ ⟨_, rfl, w⟩
      by_cases z34 : (mI h x0 x5.toNatClampNeg &&& 63) = 34
      · have w := w.2.2.2.2.2.2.2.2.2.2.2.2.2.2.2.2.2.2.2.2.2.2.2.2.2.2.2.2.2.2.2.2.2.2.1 z34
        refine X_tableIn (tgt := 2136) (show decode cL_law 44 = .ok (.tableswitch 2881 0 54 #[236, 292, 372, 440, 496, 552, 615, 683, 739, 795, 851, 864, 920, 976, 1032, 1095, 1151, 1219, 1287, 1367, 1435, 1448, 1473, 1529, 1585, 1648, 1711, 1767, 1823, 1879, 1935, 1991, 2066, 2079, 2092, 2167, 2180, 2193, 2237, 2281, 2294, 2307, 2321, 2386, 2452, 2465, 2478, 2534, 2590, 2648, 2692, 2736, 2780, 2824, 2837], 236) by decide +kernel) (by rw [z34]; decide) (by rw [z34]; decide) (by rw [z34]; rfl) (by decide) ?_
        refine X_aload_n (j := 1) (show decode cL_law 2136 = .ok (.aload_n 1, 1) by decide +kernel) rfl rfl ?_
        refine X_aload_n (j := 0) (show decode cL_law 2137 = .ok (.aload_n 0, 1) by decide +kernel) rfl rfl ?_
        refine X_iload (j := 5) (show decode cL_law 2138 = .ok (.iload 5, 2) by decide +kernel) rfl ?_
        refine X_iconst (v := 1) (show decode cL_law 2140 = .ok (.iconst 1, 1) by decide +kernel) (by decide) ?_
        refine X_iadd (show decode cL_law 2141 = .ok (.iadd, 1) by decide +kernel) ?_
        obtain ⟨s539, w⟩ := w
        refine X_iald (show decode cL_law 2142 = .ok (.iaload, 1) by decide +kernel) (isA_eq s9) s539 ?_
        refine X_aload_n (j := 0) (show decode cL_law 2143 = .ok (.aload_n 0, 1) by decide +kernel) rfl rfl ?_
        refine X_iload (j := 5) (show decode cL_law 2144 = .ok (.iload 5, 2) by decide +kernel) rfl ?_
        refine X_iconst (v := 2) (show decode cL_law 2146 = .ok (.iconst 2, 1) by decide +kernel) (by decide) ?_
        refine X_iadd (show decode cL_law 2147 = .ok (.iadd, 1) by decide +kernel) ?_
        obtain ⟨s540, w⟩ := w
        refine X_iald (show decode cL_law 2148 = .ok (.iaload, 1) by decide +kernel) (isA_eq s9) s540 ?_
        refine X_aload_n (j := 3) (show decode cL_law 2149 = .ok (.aload_n 3, 1) by decide +kernel) rfl rfl ?_
        refine X_sI (rc' := (n * 33 + 63)) (rs' := (n * 8198 + 16378)) (as := [.ref _, .int _, .int _, .ref _]) ms_L_277 (show decode cL_law 2150 = .ok (.invokestatic 277, 3) by decide +kernel) (by decide) (by omega) (by omega) rfl rfl (Nat.le_of_ble_eq_true rfl) (kL_conflict w) (fun E h hk => hk.elim) (fun r542 h541 w => ?_)
        refine X_istore (ls' := [(0, .ref _), (1, .ref _), (2, .ref _), (3, .ref _), (4, .ref _), (5, .int _), (6, .int _)]) (show decode cL_law 2153 = .ok (.istore 6, 2) by decide +kernel) (by decide) rfl ?_
        refine X_aload_n (j := 2) (show decode cL_law 2155 = .ok (.aload_n 2, 1) by decide +kernel) rfl rfl ?_
        refine X_aload_n (j := 0) (show decode cL_law 2156 = .ok (.aload_n 0, 1) by decide +kernel) rfl rfl ?_
        refine X_iload (j := 5) (show decode cL_law 2157 = .ok (.iload 5, 2) by decide +kernel) rfl ?_
        refine X_iconst (v := 1) (show decode cL_law 2159 = .ok (.iconst 1, 1) by decide +kernel) (by decide) ?_
        refine X_iadd (show decode cL_law 2160 = .ok (.iadd, 1) by decide +kernel) ?_
        obtain ⟨s543, w⟩ := w
        obtain ⟨s544, w⟩ := w
        refine X_iald (show decode cL_law 2161 = .ok (.iaload, 1) by decide +kernel) (isA_eq s543) s544 ?_
        refine X_aload_n (j := 0) (show decode cL_law 2162 = .ok (.aload_n 0, 1) by decide +kernel) rfl rfl ?_
        refine X_iload (j := 5) (show decode cL_law 2163 = .ok (.iload 5, 2) by decide +kernel) rfl ?_
        refine X_iconst (v := 2) (show decode cL_law 2165 = .ok (.iconst 2, 1) by decide +kernel) (by decide) ?_
        refine X_iadd (show decode cL_law 2166 = .ok (.iadd, 1) by decide +kernel) ?_
        obtain ⟨s545, w⟩ := w
        refine X_iald (show decode cL_law 2167 = .ok (.iaload, 1) by decide +kernel) (isA_eq s543) s545 ?_
        obtain ⟨s557, w⟩ := w
        refine X_vI (rc' := (n * 33 + 63)) (rs' := (n * 8198 + 16378)) (as := [.int _, .int _]) mv_L_279 (show decode cL_law 2168 = .ok (.invokevirtual 279, 3) by decide +kernel) (by decide) (by omega) (by omega) rfl rfl (Nat.le_of_ble_eq_true rfl) (rcvD s557 (by decide) rfl) (kX10_conflict w) (fun E h hk => hk.elim) (fun r547 h546 w => ?_)
        refine X_istore (ls' := [(0, .ref _), (1, .ref _), (2, .ref _), (3, .ref _), (4, .ref _), (5, .int _), (6, .int _), (7, .int _)]) (show decode cL_law 2171 = .ok (.istore 7, 2) by decide +kernel) (by decide) rfl ?_
        refine X_aload_n (j := 2) (show decode cL_law 2173 = .ok (.aload_n 2, 1) by decide +kernel) rfl rfl ?_
        obtain ⟨s556, w⟩ := w
        refine X_vI (rc' := (n * 33 + 63)) (rs' := (n * 8198 + 16378)) (as := []) mv_L_168 (show decode cL_law 2174 = .ok (.invokevirtual 168, 3) by decide +kernel) (by decide) (by omega) (by omega) rfl rfl (Nat.le_of_ble_eq_true rfl) (rcvD s556 (by decide) rfl) (kX10_thrown w) (fun E h hk => hk.elim) (fun r549 h548 w => ?_)
        refine X_iload (j := 6) (show decode cL_law 2177 = .ok (.iload 6, 2) by decide +kernel) rfl ?_
        refine X_icmp_eq (tgt := 2184) (show decode cL_law 2179 = .ok (.if_icmp .eq 5, 3) by decide +kernel) (by decide) ⟨fun c550 => ?_, fun c550 => ?_⟩
        · have w := w.1 c550
          refine X_iload (j := 6) (show decode cL_law 2184 = .ok (.iload 6, 2) by decide +kernel) rfl ?_
          refine X_if_ne (tgt := 2208) (show decode cL_law 2186 = .ok (.ifCond .ne 22, 3) by decide +kernel) (by decide) ⟨fun c551 => ?_, fun c551 => ?_⟩
          · have w := w.1 c551
            refine X_goto (tgt := 2925) (show decode cL_law 2208 = .ok (.goto 717, 3) by decide +kernel) (by decide) ?_
            refine X_iinc (j := 5) (v := _ + 4) (ls' := [(0, .ref _), (1, .ref _), (2, .ref _), (3, .ref _), (4, .ref _), (5, .int _), (6, .int _), (7, .int _)]) (show decode cL_law 2925 = .ok (.iinc 5 4, 3) by decide +kernel) rfl rfl (Nat.le_of_ble_eq_true rfl) rfl ?_
            refine X_goto (tgt := 28) (show decode cL_law 2928 = .ok (.goto (-2900), 3) by decide +kernel) (by decide) ?_
            refine X_room (rc' := (n * 33 + 33)) (rs' := (n * 8198 + 8198)) (by omega) (by omega) ?_
            refine X_pick (ls' := [(0, .ref _), (1, .ref _), (2, .ref _), (3, .ref _), (4, .ref _), (5, .int _)]) [0, 1, 2, 3, 4, 5] rfl ?_
            exact ih _ _ _ _ _ _ _ w
          · have w := w.2 c551
            refine X_aload_n (j := 3) (show decode cL_law 2189 = .ok (.aload_n 3, 1) by decide +kernel) rfl rfl ?_
            refine X_iconst (v := 0) (show decode cL_law 2190 = .ok (.iconst 0, 1) by decide +kernel) (by decide) ?_
            obtain ⟨s552, w⟩ := w
            obtain ⟨s553, w⟩ := w
            refine X_lald (show decode cL_law 2191 = .ok (.laload, 1) by decide +kernel) (isA_eq s552) s553 ?_
            refine X_iload (j := 7) (show decode cL_law 2192 = .ok (.iload 7, 2) by decide +kernel) rfl ?_
            refine X_if_eq (tgt := 2201) (show decode cL_law 2194 = .ok (.ifCond .eq 7, 3) by decide +kernel) (by decide) ⟨fun c554 => ?_, fun c554 => ?_⟩
            · have w := w.1 c554
              refine X_lconst (v := 0) (show decode cL_law 2201 = .ok (.lconst 0, 1) by decide +kernel) (by decide) ?_
              refine X_room (rc' := 0) (rs' := 0) (by omega) (by omega) ?_
              refine X_pick (ls' := [(0, .ref _), (1, .ref _), (2, .ref _), (3, .ref _), (4, .ref _), (5, .int _)]) [0, 1, 2, 3, 4, 5] rfl ?_
              exact kL_law_J2202 ih _ _ _ _ _ _ _ _ _ w
            · have w := w.2 c554
              refine X_lconst (v := 1) (show decode cL_law 2197 = .ok (.lconst 1, 1) by decide +kernel) (by decide) ?_
              refine X_goto (tgt := 2202) (show decode cL_law 2198 = .ok (.goto 4, 3) by decide +kernel) (by decide) ?_
              refine X_room (rc' := 0) (rs' := 0) (by omega) (by omega) ?_
              refine X_pick (ls' := [(0, .ref _), (1, .ref _), (2, .ref _), (3, .ref _), (4, .ref _), (5, .int _)]) [0, 1, 2, 3, 4, 5] rfl ?_
              exact kL_law_J2202 ih _ _ _ _ _ _ _ _ _ w
        · have w := w.2 c550
          refine X_iconst (v := 0) (show decode cL_law 2182 = .ok (.iconst 0, 1) by decide +kernel) (by decide) ?_
          exact X_iret ⟨(show decode cL_law 2183 = .ok (.ireturn, 1) by decide +kernel), .boolean, rfl, (by decide)⟩ ⟨_, rfl, w⟩
      by_cases z35 : (mI h x0 x5.toNatClampNeg &&& 63) = 35
      · have w := w.2.2.2.2.2.2.2.2.2.2.2.2.2.2.2.2.2.2.2.2.2.2.2.2.2.2.2.2.2.2.2.2.2.2.2.1 z35
        refine X_tableIn (tgt := 2211) (show decode cL_law 44 = .ok (.tableswitch 2881 0 54 #[236, 292, 372, 440, 496, 552, 615, 683, 739, 795, 851, 864, 920, 976, 1032, 1095, 1151, 1219, 1287, 1367, 1435, 1448, 1473, 1529, 1585, 1648, 1711, 1767, 1823, 1879, 1935, 1991, 2066, 2079, 2092, 2167, 2180, 2193, 2237, 2281, 2294, 2307, 2321, 2386, 2452, 2465, 2478, 2534, 2590, 2648, 2692, 2736, 2780, 2824, 2837], 236) by decide +kernel) (by rw [z35]; decide) (by rw [z35]; decide) (by rw [z35]; rfl) (by decide) ?_
        refine X_aload_n (j := 1) (show decode cL_law 2211 = .ok (.aload_n 1, 1) by decide +kernel) rfl rfl ?_
        obtain ⟨s564, w⟩ := w
        refine X_vI (rc' := (n * 33 + 66)) (rs' := (n * 8198 + 16396)) (as := []) mv_L_280 (show decode cL_law 2212 = .ok (.invokevirtual 280, 3) by decide +kernel) (by decide) (by omega) (by omega) rfl rfl (Nat.le_of_ble_eq_true rfl) (rcvD s564 (by decide) rfl) (kX9_mostWithoutConflict w) (fun E h hk => hk.elim) (fun r559 h558 w => ?_)
        refine X_aload_n (j := 2) (show decode cL_law 2215 = .ok (.aload_n 2, 1) by decide +kernel) rfl rfl ?_
        obtain ⟨s563, w⟩ := w
        refine X_vI (rc' := (n * 33 + 66)) (rs' := (n * 8198 + 16396)) (as := []) mv_L_283 (show decode cL_law 2216 = .ok (.invokevirtual 283, 3) by decide +kernel) (by decide) (by omega) (by omega) rfl rfl (Nat.le_of_ble_eq_true rfl) (rcvD s563 (by decide) rfl) (kX10_mostWithoutConflict w) (fun E h hk => hk.elim) (fun r561 h560 w => ?_)
        refine X_icmp_eq (tgt := 2925) (show decode cL_law 2219 = .ok (.if_icmp .eq 706, 3) by decide +kernel) (by decide) ⟨fun c562 => ?_, fun c562 => ?_⟩
        · have w := w.1 c562
          refine X_iinc (j := 5) (v := _ + 4) (ls' := [(0, .ref _), (1, .ref _), (2, .ref _), (3, .ref _), (4, .ref _), (5, .int _)]) (show decode cL_law 2925 = .ok (.iinc 5 4, 3) by decide +kernel) rfl rfl (Nat.le_of_ble_eq_true rfl) rfl ?_
          refine X_goto (tgt := 28) (show decode cL_law 2928 = .ok (.goto (-2900), 3) by decide +kernel) (by decide) ?_
          refine X_room (rc' := (n * 33 + 33)) (rs' := (n * 8198 + 8198)) (by omega) (by omega) ?_
          exact ih _ _ _ _ _ _ _ w
        · have w := w.2 c562
          refine X_iconst (v := 0) (show decode cL_law 2222 = .ok (.iconst 0, 1) by decide +kernel) (by decide) ?_
          exact X_iret ⟨(show decode cL_law 2223 = .ok (.ireturn, 1) by decide +kernel), .boolean, rfl, (by decide)⟩ ⟨_, rfl, w⟩
      by_cases z36 : (mI h x0 x5.toNatClampNeg &&& 63) = 36
      · have w := w.2.2.2.2.2.2.2.2.2.2.2.2.2.2.2.2.2.2.2.2.2.2.2.2.2.2.2.2.2.2.2.2.2.2.2.2.1 z36
        refine X_tableIn (tgt := 2224) (show decode cL_law 44 = .ok (.tableswitch 2881 0 54 #[236, 292, 372, 440, 496, 552, 615, 683, 739, 795, 851, 864, 920, 976, 1032, 1095, 1151, 1219, 1287, 1367, 1435, 1448, 1473, 1529, 1585, 1648, 1711, 1767, 1823, 1879, 1935, 1991, 2066, 2079, 2092, 2167, 2180, 2193, 2237, 2281, 2294, 2307, 2321, 2386, 2452, 2465, 2478, 2534, 2590, 2648, 2692, 2736, 2780, 2824, 2837], 236) by decide +kernel) (by rw [z36]; decide) (by rw [z36]; decide) (by rw [z36]; rfl) (by decide) ?_
        refine X_aload_n (j := 1) (show decode cL_law 2224 = .ok (.aload_n 1, 1) by decide +kernel) rfl rfl ?_
        obtain ⟨s571, w⟩ := w
        refine X_vI (rc' := (n * 33 + 66)) (rs' := (n * 8198 + 16396)) (as := []) mv_L_284 (show decode cL_law 2225 = .ok (.invokevirtual 284, 3) by decide +kernel) (by decide) (by omega) (by omega) rfl rfl (Nat.le_of_ble_eq_true rfl) (rcvD s571 (by decide) rfl) (kX9_mostWithoutConflictBySets w) (fun E h hk => hk.elim) (fun r566 h565 w => ?_)
        refine X_aload_n (j := 2) (show decode cL_law 2228 = .ok (.aload_n 2, 1) by decide +kernel) rfl rfl ?_
        obtain ⟨s570, w⟩ := w
        refine X_vI (rc' := (n * 33 + 66)) (rs' := (n * 8198 + 16396)) (as := []) mv_L_287 (show decode cL_law 2229 = .ok (.invokevirtual 287, 3) by decide +kernel) (by decide) (by omega) (by omega) rfl rfl (Nat.le_of_ble_eq_true rfl) (rcvD s570 (by decide) rfl) (kX10_mostWithoutConflictBySets w) (fun E h hk => hk.elim) (fun r568 h567 w => ?_)
        refine X_icmp_eq (tgt := 2925) (show decode cL_law 2232 = .ok (.if_icmp .eq 693, 3) by decide +kernel) (by decide) ⟨fun c569 => ?_, fun c569 => ?_⟩
        · have w := w.1 c569
          refine X_iinc (j := 5) (v := _ + 4) (ls' := [(0, .ref _), (1, .ref _), (2, .ref _), (3, .ref _), (4, .ref _), (5, .int _)]) (show decode cL_law 2925 = .ok (.iinc 5 4, 3) by decide +kernel) rfl rfl (Nat.le_of_ble_eq_true rfl) rfl ?_
          refine X_goto (tgt := 28) (show decode cL_law 2928 = .ok (.goto (-2900), 3) by decide +kernel) (by decide) ?_
          refine X_room (rc' := (n * 33 + 33)) (rs' := (n * 8198 + 8198)) (by omega) (by omega) ?_
          exact ih _ _ _ _ _ _ _ w
        · have w := w.2 c569
          refine X_iconst (v := 0) (show decode cL_law 2235 = .ok (.iconst 0, 1) by decide +kernel) (by decide) ?_
          exact X_iret ⟨(show decode cL_law 2236 = .ok (.ireturn, 1) by decide +kernel), .boolean, rfl, (by decide)⟩ ⟨_, rfl, w⟩
      by_cases z37 : (mI h x0 x5.toNatClampNeg &&& 63) = 37
      · have w := w.2.2.2.2.2.2.2.2.2.2.2.2.2.2.2.2.2.2.2.2.2.2.2.2.2.2.2.2.2.2.2.2.2.2.2.2.2.1 z37
        refine X_tableIn (tgt := 2237) (show decode cL_law 44 = .ok (.tableswitch 2881 0 54 #[236, 292, 372, 440, 496, 552, 615, 683, 739, 795, 851, 864, 920, 976, 1032, 1095, 1151, 1219, 1287, 1367, 1435, 1448, 1473, 1529, 1585, 1648, 1711, 1767, 1823, 1879, 1935, 1991, 2066, 2079, 2092, 2167, 2180, 2193, 2237, 2281, 2294, 2307, 2321, 2386, 2452, 2465, 2478, 2534, 2590, 2648, 2692, 2736, 2780, 2824, 2837], 236) by decide +kernel) (by rw [z37]; decide) (by rw [z37]; decide) (by rw [z37]; rfl) (by decide) ?_
        refine X_aload_n (j := 1) (show decode cL_law 2237 = .ok (.aload_n 1, 1) by decide +kernel) rfl rfl ?_
        refine X_aload_n (j := 3) (show decode cL_law 2238 = .ok (.aload_n 3, 1) by decide +kernel) rfl rfl ?_
        refine X_sI (rc' := (n * 33 + 65)) (rs' := (n * 8198 + 16390)) (as := [.ref _, .ref _]) ms_L_288 (show decode cL_law 2239 = .ok (.invokestatic 288, 3) by decide +kernel) (by decide) (by omega) (by omega) rfl rfl (Nat.le_of_ble_eq_true rfl) (kL_refusalReason w) (fun E h hk => hk.elim) (fun r573 h572 w => ?_)
        refine X_istore (ls' := [(0, .ref _), (1, .ref _), (2, .ref _), (3, .ref _), (4, .ref _), (5, .int _), (6, .int _)]) (show decode cL_law 2242 = .ok (.istore 6, 2) by decide +kernel) (by decide) rfl ?_
        refine X_aload_n (j := 2) (show decode cL_law 2244 = .ok (.aload_n 2, 1) by decide +kernel) rfl rfl ?_
        obtain ⟨s584, w⟩ := w
        refine X_vI (rc' := (n * 33 + 65)) (rs' := (n * 8198 + 16390)) (as := []) mv_L_291 (show decode cL_law 2245 = .ok (.invokevirtual 291, 3) by decide +kernel) (by decide) (by omega) (by omega) rfl rfl (Nat.le_of_ble_eq_true rfl) (rcvD s584 (by decide) rfl) (kX10_refusalReason w) (fun E h hk => hk.elim) (fun r575 h574 w => ?_)
        refine X_istore (ls' := [(0, .ref _), (1, .ref _), (2, .ref _), (3, .ref _), (4, .ref _), (5, .int _), (6, .int _), (7, .int _)]) (show decode cL_law 2248 = .ok (.istore 7, 2) by decide +kernel) (by decide) rfl ?_
        refine X_aload_n (j := 2) (show decode cL_law 2250 = .ok (.aload_n 2, 1) by decide +kernel) rfl rfl ?_
        obtain ⟨s583, w⟩ := w
        refine X_vI (rc' := (n * 33 + 65)) (rs' := (n * 8198 + 16390)) (as := []) mv_L_168 (show decode cL_law 2251 = .ok (.invokevirtual 168, 3) by decide +kernel) (by decide) (by omega) (by omega) rfl rfl (Nat.le_of_ble_eq_true rfl) (rcvD s583 (by decide) rfl) (kX10_thrown w) (fun E h hk => hk.elim) (fun r577 h576 w => ?_)
        refine X_iload (j := 6) (show decode cL_law 2254 = .ok (.iload 6, 2) by decide +kernel) rfl ?_
        refine X_icmp_eq (tgt := 2261) (show decode cL_law 2256 = .ok (.if_icmp .eq 5, 3) by decide +kernel) (by decide) ⟨fun c578 => ?_, fun c578 => ?_⟩
        · have w := w.1 c578
          refine X_iload (j := 6) (show decode cL_law 2261 = .ok (.iload 6, 2) by decide +kernel) rfl ?_
          refine X_if_ne (tgt := 2278) (show decode cL_law 2263 = .ok (.ifCond .ne 15, 3) by decide +kernel) (by decide) ⟨fun c579 => ?_, fun c579 => ?_⟩
          · have w := w.1 c579
            refine X_goto (tgt := 2925) (show decode cL_law 2278 = .ok (.goto 647, 3) by decide +kernel) (by decide) ?_
            refine X_iinc (j := 5) (v := _ + 4) (ls' := [(0, .ref _), (1, .ref _), (2, .ref _), (3, .ref _), (4, .ref _), (5, .int _), (6, .int _), (7, .int _)]) (show decode cL_law 2925 = .ok (.iinc 5 4, 3) by decide +kernel) rfl rfl (Nat.le_of_ble_eq_true rfl) rfl ?_
            refine X_goto (tgt := 28) (show decode cL_law 2928 = .ok (.goto (-2900), 3) by decide +kernel) (by decide) ?_
            refine X_room (rc' := (n * 33 + 33)) (rs' := (n * 8198 + 8198)) (by omega) (by omega) ?_
            refine X_pick (ls' := [(0, .ref _), (1, .ref _), (2, .ref _), (3, .ref _), (4, .ref _), (5, .int _)]) [0, 1, 2, 3, 4, 5] rfl ?_
            exact ih _ _ _ _ _ _ _ w
          · have w := w.2 c579
            refine X_aload_n (j := 3) (show decode cL_law 2266 = .ok (.aload_n 3, 1) by decide +kernel) rfl rfl ?_
            refine X_iconst (v := 0) (show decode cL_law 2267 = .ok (.iconst 0, 1) by decide +kernel) (by decide) ?_
            obtain ⟨s580, w⟩ := w
            obtain ⟨s581, w⟩ := w
            refine X_lald (show decode cL_law 2268 = .ok (.laload, 1) by decide +kernel) (isA_eq s580) s581 ?_
            refine X_iload (j := 7) (show decode cL_law 2269 = .ok (.iload 7, 2) by decide +kernel) rfl ?_
            refine X_i2l (show decode cL_law 2271 = .ok (.i2l, 1) by decide +kernel) ?_
            refine X_lcmp (show decode cL_law 2272 = .ok (.lcmp, 1) by decide +kernel) ?_
            refine X_if_eq (tgt := 2278) (show decode cL_law 2273 = .ok (.ifCond .eq 5, 3) by decide +kernel) (by decide) ⟨fun c582 => ?_, fun c582 => ?_⟩
            · have w := w.1 c582
              refine X_goto (tgt := 2925) (show decode cL_law 2278 = .ok (.goto 647, 3) by decide +kernel) (by decide) ?_
              refine X_iinc (j := 5) (v := _ + 4) (ls' := [(0, .ref _), (1, .ref _), (2, .ref _), (3, .ref _), (4, .ref _), (5, .int _), (6, .int _), (7, .int _)]) (show decode cL_law 2925 = .ok (.iinc 5 4, 3) by decide +kernel) rfl rfl (Nat.le_of_ble_eq_true rfl) rfl ?_
              refine X_goto (tgt := 28) (show decode cL_law 2928 = .ok (.goto (-2900), 3) by decide +kernel) (by decide) ?_
              refine X_room (rc' := (n * 33 + 33)) (rs' := (n * 8198 + 8198)) (by omega) (by omega) ?_
              refine X_pick (ls' := [(0, .ref _), (1, .ref _), (2, .ref _), (3, .ref _), (4, .ref _), (5, .int _)]) [0, 1, 2, 3, 4, 5] rfl ?_
              exact ih _ _ _ _ _ _ _ w
            · have w := w.2 c582
              refine X_iconst (v := 0) (show decode cL_law 2276 = .ok (.iconst 0, 1) by decide +kernel) (by decide) ?_
              exact X_iret ⟨(show decode cL_law 2277 = .ok (.ireturn, 1) by decide +kernel), .boolean, rfl, (by decide)⟩ ⟨_, rfl, w⟩
        · have w := w.2 c578
          refine X_iconst (v := 0) (show decode cL_law 2259 = .ok (.iconst 0, 1) by decide +kernel) (by decide) ?_
          exact X_iret ⟨(show decode cL_law 2260 = .ok (.ireturn, 1) by decide +kernel), .boolean, rfl, (by decide)⟩ ⟨_, rfl, w⟩
      by_cases z38 : (mI h x0 x5.toNatClampNeg &&& 63) = 38
      · have w := w.2.2.2.2.2.2.2.2.2.2.2.2.2.2.2.2.2.2.2.2.2.2.2.2.2.2.2.2.2.2.2.2.2.2.2.2.2.2.1 z38
        refine X_tableIn (tgt := 2281) (show decode cL_law 44 = .ok (.tableswitch 2881 0 54 #[236, 292, 372, 440, 496, 552, 615, 683, 739, 795, 851, 864, 920, 976, 1032, 1095, 1151, 1219, 1287, 1367, 1435, 1448, 1473, 1529, 1585, 1648, 1711, 1767, 1823, 1879, 1935, 1991, 2066, 2079, 2092, 2167, 2180, 2193, 2237, 2281, 2294, 2307, 2321, 2386, 2452, 2465, 2478, 2534, 2590, 2648, 2692, 2736, 2780, 2824, 2837], 236) by decide +kernel) (by rw [z38]; decide) (by rw [z38]; decide) (by rw [z38]; rfl) (by decide) ?_
        refine X_aload_n (j := 1) (show decode cL_law 2281 = .ok (.aload_n 1, 1) by decide +kernel) rfl rfl ?_
        refine X_aload_n (j := 3) (show decode cL_law 2282 = .ok (.aload_n 3, 1) by decide +kernel) rfl rfl ?_
        refine X_sI (rc' := (n * 33 + 65)) (rs' := (n * 8198 + 16390)) (as := [.ref _, .ref _]) ms_L_292 (show decode cL_law 2283 = .ok (.invokestatic 292, 3) by decide +kernel) (by decide) (by omega) (by omega) rfl rfl (Nat.le_of_ble_eq_true rfl) (kL_refusalBlock w) (fun E h hk => hk.elim) (fun r586 h585 w => ?_)
        refine X_istore (ls' := [(0, .ref _), (1, .ref _), (2, .ref _), (3, .ref _), (4, .ref _), (5, .int _), (6, .int _)]) (show decode cL_law 2286 = .ok (.istore 6, 2) by decide +kernel) (by decide) rfl ?_
        refine X_aload_n (j := 2) (show decode cL_law 2288 = .ok (.aload_n 2, 1) by decide +kernel) rfl rfl ?_
        obtain ⟨s597, w⟩ := w
        refine X_vI (rc' := (n * 33 + 65)) (rs' := (n * 8198 + 16390)) (as := []) mv_L_294 (show decode cL_law 2289 = .ok (.invokevirtual 294, 3) by decide +kernel) (by decide) (by omega) (by omega) rfl rfl (Nat.le_of_ble_eq_true rfl) (rcvD s597 (by decide) rfl) (kX10_refusalBlock w) (fun E h hk => hk.elim) (fun r588 h587 w => ?_)
        refine X_istore (ls' := [(0, .ref _), (1, .ref _), (2, .ref _), (3, .ref _), (4, .ref _), (5, .int _), (6, .int _), (7, .int _)]) (show decode cL_law 2292 = .ok (.istore 7, 2) by decide +kernel) (by decide) rfl ?_
        refine X_aload_n (j := 2) (show decode cL_law 2294 = .ok (.aload_n 2, 1) by decide +kernel) rfl rfl ?_
        obtain ⟨s596, w⟩ := w
        refine X_vI (rc' := (n * 33 + 65)) (rs' := (n * 8198 + 16390)) (as := []) mv_L_168 (show decode cL_law 2295 = .ok (.invokevirtual 168, 3) by decide +kernel) (by decide) (by omega) (by omega) rfl rfl (Nat.le_of_ble_eq_true rfl) (rcvD s596 (by decide) rfl) (kX10_thrown w) (fun E h hk => hk.elim) (fun r590 h589 w => ?_)
        refine X_iload (j := 6) (show decode cL_law 2298 = .ok (.iload 6, 2) by decide +kernel) rfl ?_
        refine X_icmp_eq (tgt := 2305) (show decode cL_law 2300 = .ok (.if_icmp .eq 5, 3) by decide +kernel) (by decide) ⟨fun c591 => ?_, fun c591 => ?_⟩
        · have w := w.1 c591
          refine X_iload (j := 6) (show decode cL_law 2305 = .ok (.iload 6, 2) by decide +kernel) rfl ?_
          refine X_if_ne (tgt := 2322) (show decode cL_law 2307 = .ok (.ifCond .ne 15, 3) by decide +kernel) (by decide) ⟨fun c592 => ?_, fun c592 => ?_⟩
          · have w := w.1 c592
            refine X_goto (tgt := 2925) (show decode cL_law 2322 = .ok (.goto 603, 3) by decide +kernel) (by decide) ?_
            refine X_iinc (j := 5) (v := _ + 4) (ls' := [(0, .ref _), (1, .ref _), (2, .ref _), (3, .ref _), (4, .ref _), (5, .int _), (6, .int _), (7, .int _)]) (show decode cL_law 2925 = .ok (.iinc 5 4, 3) by decide +kernel) rfl rfl (Nat.le_of_ble_eq_true rfl) rfl ?_
            refine X_goto (tgt := 28) (show decode cL_law 2928 = .ok (.goto (-2900), 3) by decide +kernel) (by decide) ?_
            refine X_room (rc' := (n * 33 + 33)) (rs' := (n * 8198 + 8198)) (by omega) (by omega) ?_
            refine X_pick (ls' := [(0, .ref _), (1, .ref _), (2, .ref _), (3, .ref _), (4, .ref _), (5, .int _)]) [0, 1, 2, 3, 4, 5] rfl ?_
            exact ih _ _ _ _ _ _ _ w
          · have w := w.2 c592
            refine X_aload_n (j := 3) (show decode cL_law 2310 = .ok (.aload_n 3, 1) by decide +kernel) rfl rfl ?_
            refine X_iconst (v := 0) (show decode cL_law 2311 = .ok (.iconst 0, 1) by decide +kernel) (by decide) ?_
            obtain ⟨s593, w⟩ := w
            obtain ⟨s594, w⟩ := w
            refine X_lald (show decode cL_law 2312 = .ok (.laload, 1) by decide +kernel) (isA_eq s593) s594 ?_
            refine X_iload (j := 7) (show decode cL_law 2313 = .ok (.iload 7, 2) by decide +kernel) rfl ?_
            refine X_i2l (show decode cL_law 2315 = .ok (.i2l, 1) by decide +kernel) ?_
            refine X_lcmp (show decode cL_law 2316 = .ok (.lcmp, 1) by decide +kernel) ?_
            refine X_if_eq (tgt := 2322) (show decode cL_law 2317 = .ok (.ifCond .eq 5, 3) by decide +kernel) (by decide) ⟨fun c595 => ?_, fun c595 => ?_⟩
            · have w := w.1 c595
              refine X_goto (tgt := 2925) (show decode cL_law 2322 = .ok (.goto 603, 3) by decide +kernel) (by decide) ?_
              refine X_iinc (j := 5) (v := _ + 4) (ls' := [(0, .ref _), (1, .ref _), (2, .ref _), (3, .ref _), (4, .ref _), (5, .int _), (6, .int _), (7, .int _)]) (show decode cL_law 2925 = .ok (.iinc 5 4, 3) by decide +kernel) rfl rfl (Nat.le_of_ble_eq_true rfl) rfl ?_
              refine X_goto (tgt := 28) (show decode cL_law 2928 = .ok (.goto (-2900), 3) by decide +kernel) (by decide) ?_
              refine X_room (rc' := (n * 33 + 33)) (rs' := (n * 8198 + 8198)) (by omega) (by omega) ?_
              refine X_pick (ls' := [(0, .ref _), (1, .ref _), (2, .ref _), (3, .ref _), (4, .ref _), (5, .int _)]) [0, 1, 2, 3, 4, 5] rfl ?_
              exact ih _ _ _ _ _ _ _ w
            · have w := w.2 c595
              refine X_iconst (v := 0) (show decode cL_law 2320 = .ok (.iconst 0, 1) by decide +kernel) (by decide) ?_
              exact X_iret ⟨(show decode cL_law 2321 = .ok (.ireturn, 1) by decide +kernel), .boolean, rfl, (by decide)⟩ ⟨_, rfl, w⟩
        · have w := w.2 c591
          refine X_iconst (v := 0) (show decode cL_law 2303 = .ok (.iconst 0, 1) by decide +kernel) (by decide) ?_
          exact X_iret ⟨(show decode cL_law 2304 = .ok (.ireturn, 1) by decide +kernel), .boolean, rfl, (by decide)⟩ ⟨_, rfl, w⟩
      by_cases z39 : (mI h x0 x5.toNatClampNeg &&& 63) = 39
      · have w := w.2.2.2.2.2.2.2.2.2.2.2.2.2.2.2.2.2.2.2.2.2.2.2.2.2.2.2.2.2.2.2.2.2.2.2.2.2.2.2.1 z39
        refine X_tableIn (tgt := 2325) (show decode cL_law 44 = .ok (.tableswitch 2881 0 54 #[236, 292, 372, 440, 496, 552, 615, 683, 739, 795, 851, 864, 920, 976, 1032, 1095, 1151, 1219, 1287, 1367, 1435, 1448, 1473, 1529, 1585, 1648, 1711, 1767, 1823, 1879, 1935, 1991, 2066, 2079, 2092, 2167, 2180, 2193, 2237, 2281, 2294, 2307, 2321, 2386, 2452, 2465, 2478, 2534, 2590, 2648, 2692, 2736, 2780, 2824, 2837], 236) by decide +kernel) (by rw [z39]; decide) (by rw [z39]; decide) (by rw [z39]; rfl) (by decide) ?_
        refine X_aload_n (j := 1) (show decode cL_law 2325 = .ok (.aload_n 1, 1) by decide +kernel) rfl rfl ?_
        obtain ⟨s604, w⟩ := w
        refine X_vI (rc' := (n * 33 + 66)) (rs' := (n * 8198 + 16396)) (as := []) mv_L_295 (show decode cL_law 2326 = .ok (.invokevirtual 295, 3) by decide +kernel) (by decide) (by omega) (by omega) rfl rfl (Nat.le_of_ble_eq_true rfl) (rcvD s604 (by decide) rfl) (kX9_time w) (fun E h hk => hk.elim) (fun r599 h598 w => ?_)
        refine X_aload_n (j := 2) (show decode cL_law 2329 = .ok (.aload_n 2, 1) by decide +kernel) rfl rfl ?_
        obtain ⟨s603, w⟩ := w
        refine X_vI (rc' := (n * 33 + 66)) (rs' := (n * 8198 + 16396)) (as := []) mv_L_298 (show decode cL_law 2330 = .ok (.invokevirtual 298, 3) by decide +kernel) (by decide) (by omega) (by omega) rfl rfl (Nat.le_of_ble_eq_true rfl) (rcvD s603 (by decide) rfl) (kX10_time w) (fun E h hk => hk.elim) (fun r601 h600 w => ?_)
        refine X_icmp_eq (tgt := 2925) (show decode cL_law 2333 = .ok (.if_icmp .eq 592, 3) by decide +kernel) (by decide) ⟨fun c602 => ?_, fun c602 => ?_⟩
        · have w := w.1 c602
          refine X_iinc (j := 5) (v := _ + 4) (ls' := [(0, .ref _), (1, .ref _), (2, .ref _), (3, .ref _), (4, .ref _), (5, .int _)]) (show decode cL_law 2925 = .ok (.iinc 5 4, 3) by decide +kernel) rfl rfl (Nat.le_of_ble_eq_true rfl) rfl ?_
          refine X_goto (tgt := 28) (show decode cL_law 2928 = .ok (.goto (-2900), 3) by decide +kernel) (by decide) ?_
          refine X_room (rc' := (n * 33 + 33)) (rs' := (n * 8198 + 8198)) (by omega) (by omega) ?_
          exact ih _ _ _ _ _ _ _ w
        · have w := w.2 c602
          refine X_iconst (v := 0) (show decode cL_law 2336 = .ok (.iconst 0, 1) by decide +kernel) (by decide) ?_
          exact X_iret ⟨(show decode cL_law 2337 = .ok (.ireturn, 1) by decide +kernel), .boolean, rfl, (by decide)⟩ ⟨_, rfl, w⟩
      by_cases z40 : (mI h x0 x5.toNatClampNeg &&& 63) = 40
      · have w := w.2.2.2.2.2.2.2.2.2.2.2.2.2.2.2.2.2.2.2.2.2.2.2.2.2.2.2.2.2.2.2.2.2.2.2.2.2.2.2.2.1 z40
        refine X_tableIn (tgt := 2338) (show decode cL_law 44 = .ok (.tableswitch 2881 0 54 #[236, 292, 372, 440, 496, 552, 615, 683, 739, 795, 851, 864, 920, 976, 1032, 1095, 1151, 1219, 1287, 1367, 1435, 1448, 1473, 1529, 1585, 1648, 1711, 1767, 1823, 1879, 1935, 1991, 2066, 2079, 2092, 2167, 2180, 2193, 2237, 2281, 2294, 2307, 2321, 2386, 2452, 2465, 2478, 2534, 2590, 2648, 2692, 2736, 2780, 2824, 2837], 236) by decide +kernel) (by rw [z40]; decide) (by rw [z40]; decide) (by rw [z40]; rfl) (by decide) ?_
        refine X_aload_n (j := 1) (show decode cL_law 2338 = .ok (.aload_n 1, 1) by decide +kernel) rfl rfl ?_
        obtain ⟨s611, w⟩ := w
        refine X_vI (rc' := (n * 33 + 66)) (rs' := (n * 8198 + 16396)) (as := []) mv_L_299 (show decode cL_law 2339 = .ok (.invokevirtual 299, 3) by decide +kernel) (by decide) (by omega) (by omega) rfl rfl (Nat.le_of_ble_eq_true rfl) (rcvD s611 (by decide) rfl) (kX9_arrived w) (fun E h hk => hk.elim) (fun r606 h605 w => ?_)
        refine X_aload_n (j := 2) (show decode cL_law 2342 = .ok (.aload_n 2, 1) by decide +kernel) rfl rfl ?_
        obtain ⟨s610, w⟩ := w
        refine X_vI (rc' := (n * 33 + 66)) (rs' := (n * 8198 + 16396)) (as := []) mv_L_302 (show decode cL_law 2343 = .ok (.invokevirtual 302, 3) by decide +kernel) (by decide) (by omega) (by omega) rfl rfl (Nat.le_of_ble_eq_true rfl) (rcvD s610 (by decide) rfl) (kX10_arrived w) (fun E h hk => hk.elim) (fun r608 h607 w => ?_)
        refine X_icmp_eq (tgt := 2925) (show decode cL_law 2346 = .ok (.if_icmp .eq 579, 3) by decide +kernel) (by decide) ⟨fun c609 => ?_, fun c609 => ?_⟩
        · have w := w.1 c609
          refine X_iinc (j := 5) (v := _ + 4) (ls' := [(0, .ref _), (1, .ref _), (2, .ref _), (3, .ref _), (4, .ref _), (5, .int _)]) (show decode cL_law 2925 = .ok (.iinc 5 4, 3) by decide +kernel) rfl rfl (Nat.le_of_ble_eq_true rfl) rfl ?_
          refine X_goto (tgt := 28) (show decode cL_law 2928 = .ok (.goto (-2900), 3) by decide +kernel) (by decide) ?_
          refine X_room (rc' := (n * 33 + 33)) (rs' := (n * 8198 + 8198)) (by omega) (by omega) ?_
          exact ih _ _ _ _ _ _ _ w
        · have w := w.2 c609
          refine X_iconst (v := 0) (show decode cL_law 2349 = .ok (.iconst 0, 1) by decide +kernel) (by decide) ?_
          exact X_iret ⟨(show decode cL_law 2350 = .ok (.ireturn, 1) by decide +kernel), .boolean, rfl, (by decide)⟩ ⟨_, rfl, w⟩
      by_cases z41 : (mI h x0 x5.toNatClampNeg &&& 63) = 41
      · have w := w.2.2.2.2.2.2.2.2.2.2.2.2.2.2.2.2.2.2.2.2.2.2.2.2.2.2.2.2.2.2.2.2.2.2.2.2.2.2.2.2.2.1 z41
        refine X_tableIn (tgt := 2351) (show decode cL_law 44 = .ok (.tableswitch 2881 0 54 #[236, 292, 372, 440, 496, 552, 615, 683, 739, 795, 851, 864, 920, 976, 1032, 1095, 1151, 1219, 1287, 1367, 1435, 1448, 1473, 1529, 1585, 1648, 1711, 1767, 1823, 1879, 1935, 1991, 2066, 2079, 2092, 2167, 2180, 2193, 2237, 2281, 2294, 2307, 2321, 2386, 2452, 2465, 2478, 2534, 2590, 2648, 2692, 2736, 2780, 2824, 2837], 236) by decide +kernel) (by rw [z41]; decide) (by rw [z41]; decide) (by rw [z41]; rfl) (by decide) ?_
        refine X_aload_n (j := 1) (show decode cL_law 2351 = .ok (.aload_n 1, 1) by decide +kernel) rfl rfl ?_
        obtain ⟨s618, w⟩ := w
        refine X_vL (rc' := (n * 33 + 66)) (rs' := (n * 8198 + 16396)) (as := []) mv_L_303 (show decode cL_law 2352 = .ok (.invokevirtual 303, 3) by decide +kernel) (by decide) (by omega) (by omega) rfl rfl (Nat.le_of_ble_eq_true rfl) (rcvD s618 (by decide) rfl) (kX9_totalDelay w) (fun E h hk => hk.elim) (fun r613 h612 w => ?_)
        refine X_aload_n (j := 2) (show decode cL_law 2355 = .ok (.aload_n 2, 1) by decide +kernel) rfl rfl ?_
        obtain ⟨s617, w⟩ := w
        refine X_vL (rc' := (n * 33 + 66)) (rs' := (n * 8198 + 16396)) (as := []) mv_L_307 (show decode cL_law 2356 = .ok (.invokevirtual 307, 3) by decide +kernel) (by decide) (by omega) (by omega) rfl rfl (Nat.le_of_ble_eq_true rfl) (rcvD s617 (by decide) rfl) (kX10_totalDelay w) (fun E h hk => hk.elim) (fun r615 h614 w => ?_)
        refine X_lcmp (show decode cL_law 2359 = .ok (.lcmp, 1) by decide +kernel) ?_
        refine X_if_eq (tgt := 2925) (show decode cL_law 2360 = .ok (.ifCond .eq 565, 3) by decide +kernel) (by decide) ⟨fun c616 => ?_, fun c616 => ?_⟩
        · have w := w.1 c616
          refine X_iinc (j := 5) (v := _ + 4) (ls' := [(0, .ref _), (1, .ref _), (2, .ref _), (3, .ref _), (4, .ref _), (5, .int _)]) (show decode cL_law 2925 = .ok (.iinc 5 4, 3) by decide +kernel) rfl rfl (Nat.le_of_ble_eq_true rfl) rfl ?_
          refine X_goto (tgt := 28) (show decode cL_law 2928 = .ok (.goto (-2900), 3) by decide +kernel) (by decide) ?_
          refine X_room (rc' := (n * 33 + 33)) (rs' := (n * 8198 + 8198)) (by omega) (by omega) ?_
          exact ih _ _ _ _ _ _ _ w
        · have w := w.2 c616
          refine X_iconst (v := 0) (show decode cL_law 2363 = .ok (.iconst 0, 1) by decide +kernel) (by decide) ?_
          exact X_iret ⟨(show decode cL_law 2364 = .ok (.ireturn, 1) by decide +kernel), .boolean, rfl, (by decide)⟩ ⟨_, rfl, w⟩
      by_cases z42 : (mI h x0 x5.toNatClampNeg &&& 63) = 42
      · have w := w.2.2.2.2.2.2.2.2.2.2.2.2.2.2.2.2.2.2.2.2.2.2.2.2.2.2.2.2.2.2.2.2.2.2.2.2.2.2.2.2.2.2.1 z42
        refine X_tableIn (tgt := 2365) (show decode cL_law 44 = .ok (.tableswitch 2881 0 54 #[236, 292, 372, 440, 496, 552, 615, 683, 739, 795, 851, 864, 920, 976, 1032, 1095, 1151, 1219, 1287, 1367, 1435, 1448, 1473, 1529, 1585, 1648, 1711, 1767, 1823, 1879, 1935, 1991, 2066, 2079, 2092, 2167, 2180, 2193, 2237, 2281, 2294, 2307, 2321, 2386, 2452, 2465, 2478, 2534, 2590, 2648, 2692, 2736, 2780, 2824, 2837], 236) by decide +kernel) (by rw [z42]; decide) (by rw [z42]; decide) (by rw [z42]; rfl) (by decide) ?_
        refine X_aload_n (j := 1) (show decode cL_law 2365 = .ok (.aload_n 1, 1) by decide +kernel) rfl rfl ?_
        refine X_aload (j := 4) (show decode cL_law 2366 = .ok (.aload 4, 2) by decide +kernel) rfl ?_
        refine X_sI (rc' := (n * 33 + 65)) (rs' := (n * 8198 + 16390)) (as := [.ref _, .ref _]) ms_L_308 (show decode cL_law 2368 = .ok (.invokestatic 308, 3) by decide +kernel) (by decide) (by omega) (by omega) rfl rfl (Nat.le_of_ble_eq_true rfl) (kL_meanDelay w) (fun E h hk => hk.elim) (fun r620 h619 w => ?_)
        refine X_istore (ls' := [(0, .ref _), (1, .ref _), (2, .ref _), (3, .ref _), (4, .ref _), (5, .int _), (6, .int _)]) (show decode cL_law 2371 = .ok (.istore 6, 2) by decide +kernel) (by decide) rfl ?_
        refine X_aload_n (j := 2) (show decode cL_law 2373 = .ok (.aload_n 2, 1) by decide +kernel) rfl rfl ?_
        obtain ⟨s634, w⟩ := w
        refine X_vD (rc' := (n * 33 + 65)) (rs' := (n * 8198 + 16390)) (as := []) mv_L_311 (show decode cL_law 2374 = .ok (.invokevirtual 311, 3) by decide +kernel) (by decide) (by omega) (by omega) rfl rfl (Nat.le_of_ble_eq_true rfl) (rcvD s634 (by decide) rfl) (kX10_meanDelay w) (fun E h hk => hk.elim) (fun r622 h621 w => ?_)
        refine X_dstore (ls' := [(0, .ref _), (1, .ref _), (2, .ref _), (3, .ref _), (4, .ref _), (5, .int _), (6, .int _), (7, .double _)]) (show decode cL_law 2377 = .ok (.dstore 7, 2) by decide +kernel) (by decide) rfl ?_
        refine X_aload_n (j := 2) (show decode cL_law 2379 = .ok (.aload_n 2, 1) by decide +kernel) rfl rfl ?_
        obtain ⟨s633, w⟩ := w
        refine X_vI (rc' := (n * 33 + 65)) (rs' := (n * 8198 + 16390)) (as := []) mv_L_168 (show decode cL_law 2380 = .ok (.invokevirtual 168, 3) by decide +kernel) (by decide) (by omega) (by omega) rfl rfl (Nat.le_of_ble_eq_true rfl) (rcvD s633 (by decide) rfl) (kX10_thrown w) (fun E h hk => hk.elim) (fun r624 h623 w => ?_)
        refine X_iload (j := 6) (show decode cL_law 2383 = .ok (.iload 6, 2) by decide +kernel) rfl ?_
        refine X_icmp_eq (tgt := 2390) (show decode cL_law 2385 = .ok (.if_icmp .eq 5, 3) by decide +kernel) (by decide) ⟨fun c625 => ?_, fun c625 => ?_⟩
        · have w := w.1 c625
          refine X_iload (j := 6) (show decode cL_law 2390 = .ok (.iload 6, 2) by decide +kernel) rfl ?_
          refine X_if_ne (tgt := 2427) (show decode cL_law 2392 = .ok (.ifCond .ne 35, 3) by decide +kernel) (by decide) ⟨fun c626 => ?_, fun c626 => ?_⟩
          · have w := w.1 c626
            refine X_goto (tgt := 2925) (show decode cL_law 2427 = .ok (.goto 498, 3) by decide +kernel) (by decide) ?_
            refine X_iinc (j := 5) (v := _ + 4) (ls' := [(0, .ref _), (1, .ref _), (2, .ref _), (3, .ref _), (4, .ref _), (5, .int _), (6, .int _), (7, .double _)]) (show decode cL_law 2925 = .ok (.iinc 5 4, 3) by decide +kernel) rfl rfl (Nat.le_of_ble_eq_true rfl) rfl ?_
            refine X_goto (tgt := 28) (show decode cL_law 2928 = .ok (.goto (-2900), 3) by decide +kernel) (by decide) ?_
            refine X_room (rc' := (n * 33 + 33)) (rs' := (n * 8198 + 8198)) (by omega) (by omega) ?_
            refine X_pick (ls' := [(0, .ref _), (1, .ref _), (2, .ref _), (3, .ref _), (4, .ref _), (5, .int _)]) [0, 1, 2, 3, 4, 5] rfl ?_
            exact ih _ _ _ _ _ _ _ w
          · have w := w.2 c626
            refine X_aload (j := 4) (show decode cL_law 2395 = .ok (.aload 4, 2) by decide +kernel) rfl ?_
            refine X_iconst (v := 0) (show decode cL_law 2397 = .ok (.iconst 0, 1) by decide +kernel) (by decide) ?_
            obtain ⟨s627, w⟩ := w
            obtain ⟨s628, w⟩ := w
            obtain ⟨s629, w⟩ := w
            refine X_dald (show decode cL_law 2398 = .ok (.daload, 1) by decide +kernel) (isA_eq s627) s628 s629 ?_
            refine X_dload (j := 7) (show decode cL_law 2399 = .ok (.dload 7, 2) by decide +kernel) rfl ?_
            refine X_dcmp (show decode cL_law 2401 = .ok (.dcmp .l, 1) by decide +kernel) ?_
            refine X_if_eq (tgt := 2427) (show decode cL_law 2402 = .ok (.ifCond .eq 25, 3) by decide +kernel) (by decide) ⟨fun c630 => ?_, fun c630 => ?_⟩
            · have w := w.1 c630
              refine X_goto (tgt := 2925) (show decode cL_law 2427 = .ok (.goto 498, 3) by decide +kernel) (by decide) ?_
              refine X_iinc (j := 5) (v := _ + 4) (ls' := [(0, .ref _), (1, .ref _), (2, .ref _), (3, .ref _), (4, .ref _), (5, .int _), (6, .int _), (7, .double _)]) (show decode cL_law 2925 = .ok (.iinc 5 4, 3) by decide +kernel) rfl rfl (Nat.le_of_ble_eq_true rfl) rfl ?_
              refine X_goto (tgt := 28) (show decode cL_law 2928 = .ok (.goto (-2900), 3) by decide +kernel) (by decide) ?_
              refine X_room (rc' := (n * 33 + 33)) (rs' := (n * 8198 + 8198)) (by omega) (by omega) ?_
              refine X_pick (ls' := [(0, .ref _), (1, .ref _), (2, .ref _), (3, .ref _), (4, .ref _), (5, .int _)]) [0, 1, 2, 3, 4, 5] rfl ?_
              exact ih _ _ _ _ _ _ _ w
            · have w := w.2 c630
              refine X_aload (j := 4) (show decode cL_law 2405 = .ok (.aload 4, 2) by decide +kernel) rfl ?_
              refine X_iconst (v := 0) (show decode cL_law 2407 = .ok (.iconst 0, 1) by decide +kernel) (by decide) ?_
              refine X_dald (show decode cL_law 2408 = .ok (.daload, 1) by decide +kernel) (isA_eq s627) s628 s629 ?_
              refine X_aload (j := 4) (show decode cL_law 2409 = .ok (.aload 4, 2) by decide +kernel) rfl ?_
              refine X_iconst (v := 0) (show decode cL_law 2411 = .ok (.iconst 0, 1) by decide +kernel) (by decide) ?_
              refine X_dald (show decode cL_law 2412 = .ok (.daload, 1) by decide +kernel) (isA_eq s627) s628 s629 ?_
              refine X_dcmp (show decode cL_law 2413 = .ok (.dcmp .l, 1) by decide +kernel) ?_
              refine X_if_eq (tgt := 2425) (show decode cL_law 2414 = .ok (.ifCond .eq 11, 3) by decide +kernel) (by decide) ⟨fun c631 => ?_, fun c631 => ?_⟩
              · have w := w.1 c631
                refine X_iconst (v := 0) (show decode cL_law 2425 = .ok (.iconst 0, 1) by decide +kernel) (by decide) ?_
                exact X_iret ⟨(show decode cL_law 2426 = .ok (.ireturn, 1) by decide +kernel), .boolean, rfl, (by decide)⟩ ⟨_, rfl, w⟩
              · have w := w.2 c631
                refine X_dload (j := 7) (show decode cL_law 2417 = .ok (.dload 7, 2) by decide +kernel) rfl ?_
                refine X_dload (j := 7) (show decode cL_law 2419 = .ok (.dload 7, 2) by decide +kernel) rfl ?_
                refine X_dcmp (show decode cL_law 2421 = .ok (.dcmp .l, 1) by decide +kernel) ?_
                refine X_if_ne (tgt := 2427) (show decode cL_law 2422 = .ok (.ifCond .ne 5, 3) by decide +kernel) (by decide) ⟨fun c632 => ?_, fun c632 => ?_⟩
                · have w := w.1 c632
                  refine X_goto (tgt := 2925) (show decode cL_law 2427 = .ok (.goto 498, 3) by decide +kernel) (by decide) ?_
                  refine X_iinc (j := 5) (v := _ + 4) (ls' := [(0, .ref _), (1, .ref _), (2, .ref _), (3, .ref _), (4, .ref _), (5, .int _), (6, .int _), (7, .double _)]) (show decode cL_law 2925 = .ok (.iinc 5 4, 3) by decide +kernel) rfl rfl (Nat.le_of_ble_eq_true rfl) rfl ?_
                  refine X_goto (tgt := 28) (show decode cL_law 2928 = .ok (.goto (-2900), 3) by decide +kernel) (by decide) ?_
                  refine X_room (rc' := (n * 33 + 33)) (rs' := (n * 8198 + 8198)) (by omega) (by omega) ?_
                  refine X_pick (ls' := [(0, .ref _), (1, .ref _), (2, .ref _), (3, .ref _), (4, .ref _), (5, .int _)]) [0, 1, 2, 3, 4, 5] rfl ?_
                  exact ih _ _ _ _ _ _ _ w
                · have w := w.2 c632
                  refine X_iconst (v := 0) (show decode cL_law 2425 = .ok (.iconst 0, 1) by decide +kernel) (by decide) ?_
                  exact X_iret ⟨(show decode cL_law 2426 = .ok (.ireturn, 1) by decide +kernel), .boolean, rfl, (by decide)⟩ ⟨_, rfl, w⟩
        · have w := w.2 c625
          refine X_iconst (v := 0) (show decode cL_law 2388 = .ok (.iconst 0, 1) by decide +kernel) (by decide) ?_
          exact X_iret ⟨(show decode cL_law 2389 = .ok (.ireturn, 1) by decide +kernel), .boolean, rfl, (by decide)⟩ ⟨_, rfl, w⟩
      by_cases z43 : (mI h x0 x5.toNatClampNeg &&& 63) = 43
      · have w := w.2.2.2.2.2.2.2.2.2.2.2.2.2.2.2.2.2.2.2.2.2.2.2.2.2.2.2.2.2.2.2.2.2.2.2.2.2.2.2.2.2.2.2.1 z43
        refine X_tableIn (tgt := 2430) (show decode cL_law 44 = .ok (.tableswitch 2881 0 54 #[236, 292, 372, 440, 496, 552, 615, 683, 739, 795, 851, 864, 920, 976, 1032, 1095, 1151, 1219, 1287, 1367, 1435, 1448, 1473, 1529, 1585, 1648, 1711, 1767, 1823, 1879, 1935, 1991, 2066, 2079, 2092, 2167, 2180, 2193, 2237, 2281, 2294, 2307, 2321, 2386, 2452, 2465, 2478, 2534, 2590, 2648, 2692, 2736, 2780, 2824, 2837], 236) by decide +kernel) (by rw [z43]; decide) (by rw [z43]; decide) (by rw [z43]; rfl) (by decide) ?_
        refine X_aload_n (j := 1) (show decode cL_law 2430 = .ok (.aload_n 1, 1) by decide +kernel) rfl rfl ?_
        refine X_aload (j := 4) (show decode cL_law 2431 = .ok (.aload 4, 2) by decide +kernel) rfl ?_
        refine X_sI (rc' := (n * 33 + 65)) (rs' := (n * 8198 + 16390)) (as := [.ref _, .ref _]) ms_L_312 (show decode cL_law 2433 = .ok (.invokestatic 312, 3) by decide +kernel) (by decide) (by omega) (by omega) rfl rfl (Nat.le_of_ble_eq_true rfl) (kL_usedShare w) (fun E h hk => hk.elim) (fun r636 h635 w => ?_)
        refine X_istore (ls' := [(0, .ref _), (1, .ref _), (2, .ref _), (3, .ref _), (4, .ref _), (5, .int _), (6, .int _)]) (show decode cL_law 2436 = .ok (.istore 6, 2) by decide +kernel) (by decide) rfl ?_
        refine X_aload_n (j := 2) (show decode cL_law 2438 = .ok (.aload_n 2, 1) by decide +kernel) rfl rfl ?_
        obtain ⟨s651, w⟩ := w
        refine X_vF (rc' := (n * 33 + 65)) (rs' := (n * 8198 + 16390)) (as := []) mv_L_314 (show decode cL_law 2439 = .ok (.invokevirtual 314, 3) by decide +kernel) (by decide) (by omega) (by omega) rfl rfl (Nat.le_of_ble_eq_true rfl) (rcvD s651 (by decide) rfl) (kX10_usedShare w) (fun E h hk => hk.elim) (fun r638 h637 w => ?_)
        refine X_fstore (ls' := [(0, .ref _), (1, .ref _), (2, .ref _), (3, .ref _), (4, .ref _), (5, .int _), (6, .int _), (7, .float _)]) (show decode cL_law 2442 = .ok (.fstore 7, 2) by decide +kernel) (by decide) rfl ?_
        refine X_aload_n (j := 2) (show decode cL_law 2444 = .ok (.aload_n 2, 1) by decide +kernel) rfl rfl ?_
        obtain ⟨s650, w⟩ := w
        refine X_vI (rc' := (n * 33 + 65)) (rs' := (n * 8198 + 16390)) (as := []) mv_L_168 (show decode cL_law 2445 = .ok (.invokevirtual 168, 3) by decide +kernel) (by decide) (by omega) (by omega) rfl rfl (Nat.le_of_ble_eq_true rfl) (rcvD s650 (by decide) rfl) (kX10_thrown w) (fun E h hk => hk.elim) (fun r640 h639 w => ?_)
        refine X_iload (j := 6) (show decode cL_law 2448 = .ok (.iload 6, 2) by decide +kernel) rfl ?_
        refine X_icmp_eq (tgt := 2455) (show decode cL_law 2450 = .ok (.if_icmp .eq 5, 3) by decide +kernel) (by decide) ⟨fun c641 => ?_, fun c641 => ?_⟩
        · have w := w.1 c641
          refine X_iload (j := 6) (show decode cL_law 2455 = .ok (.iload 6, 2) by decide +kernel) rfl ?_
          refine X_if_ne (tgt := 2493) (show decode cL_law 2457 = .ok (.ifCond .ne 36, 3) by decide +kernel) (by decide) ⟨fun c642 => ?_, fun c642 => ?_⟩
          · have w := w.1 c642
            refine X_goto (tgt := 2925) (show decode cL_law 2493 = .ok (.goto 432, 3) by decide +kernel) (by decide) ?_
            refine X_iinc (j := 5) (v := _ + 4) (ls' := [(0, .ref _), (1, .ref _), (2, .ref _), (3, .ref _), (4, .ref _), (5, .int _), (6, .int _), (7, .float _)]) (show decode cL_law 2925 = .ok (.iinc 5 4, 3) by decide +kernel) rfl rfl (Nat.le_of_ble_eq_true rfl) rfl ?_
            refine X_goto (tgt := 28) (show decode cL_law 2928 = .ok (.goto (-2900), 3) by decide +kernel) (by decide) ?_
            refine X_room (rc' := (n * 33 + 33)) (rs' := (n * 8198 + 8198)) (by omega) (by omega) ?_
            refine X_pick (ls' := [(0, .ref _), (1, .ref _), (2, .ref _), (3, .ref _), (4, .ref _), (5, .int _)]) [0, 1, 2, 3, 4, 5] rfl ?_
            exact ih _ _ _ _ _ _ _ w
          · have w := w.2 c642
            refine X_aload (j := 4) (show decode cL_law 2460 = .ok (.aload 4, 2) by decide +kernel) rfl ?_
            refine X_iconst (v := 0) (show decode cL_law 2462 = .ok (.iconst 0, 1) by decide +kernel) (by decide) ?_
            obtain ⟨s643, w⟩ := w
            obtain ⟨s644, w⟩ := w
            obtain ⟨s645, w⟩ := w
            refine X_dald (show decode cL_law 2463 = .ok (.daload, 1) by decide +kernel) (isA_eq s643) s644 s645 ?_
            refine X_fload (j := 7) (show decode cL_law 2464 = .ok (.fload 7, 2) by decide +kernel) rfl ?_
            obtain ⟨s646, w⟩ := w
            refine X_f2d (show decode cL_law 2466 = .ok (.f2d, 1) by decide +kernel) s646 ?_
            refine X_dcmp (show decode cL_law 2467 = .ok (.dcmp .l, 1) by decide +kernel) ?_
            refine X_if_eq (tgt := 2493) (show decode cL_law 2468 = .ok (.ifCond .eq 25, 3) by decide +kernel) (by decide) ⟨fun c647 => ?_, fun c647 => ?_⟩
            · have w := w.1 c647
              refine X_goto (tgt := 2925) (show decode cL_law 2493 = .ok (.goto 432, 3) by decide +kernel) (by decide) ?_
              refine X_iinc (j := 5) (v := _ + 4) (ls' := [(0, .ref _), (1, .ref _), (2, .ref _), (3, .ref _), (4, .ref _), (5, .int _), (6, .int _), (7, .float _)]) (show decode cL_law 2925 = .ok (.iinc 5 4, 3) by decide +kernel) rfl rfl (Nat.le_of_ble_eq_true rfl) rfl ?_
              refine X_goto (tgt := 28) (show decode cL_law 2928 = .ok (.goto (-2900), 3) by decide +kernel) (by decide) ?_
              refine X_room (rc' := (n * 33 + 33)) (rs' := (n * 8198 + 8198)) (by omega) (by omega) ?_
              refine X_pick (ls' := [(0, .ref _), (1, .ref _), (2, .ref _), (3, .ref _), (4, .ref _), (5, .int _)]) [0, 1, 2, 3, 4, 5] rfl ?_
              exact ih _ _ _ _ _ _ _ w
            · have w := w.2 c647
              refine X_aload (j := 4) (show decode cL_law 2471 = .ok (.aload 4, 2) by decide +kernel) rfl ?_
              refine X_iconst (v := 0) (show decode cL_law 2473 = .ok (.iconst 0, 1) by decide +kernel) (by decide) ?_
              refine X_dald (show decode cL_law 2474 = .ok (.daload, 1) by decide +kernel) (isA_eq s643) s644 s645 ?_
              refine X_aload (j := 4) (show decode cL_law 2475 = .ok (.aload 4, 2) by decide +kernel) rfl ?_
              refine X_iconst (v := 0) (show decode cL_law 2477 = .ok (.iconst 0, 1) by decide +kernel) (by decide) ?_
              refine X_dald (show decode cL_law 2478 = .ok (.daload, 1) by decide +kernel) (isA_eq s643) s644 s645 ?_
              refine X_dcmp (show decode cL_law 2479 = .ok (.dcmp .l, 1) by decide +kernel) ?_
              refine X_if_eq (tgt := 2491) (show decode cL_law 2480 = .ok (.ifCond .eq 11, 3) by decide +kernel) (by decide) ⟨fun c648 => ?_, fun c648 => ?_⟩
              · have w := w.1 c648
                refine X_iconst (v := 0) (show decode cL_law 2491 = .ok (.iconst 0, 1) by decide +kernel) (by decide) ?_
                exact X_iret ⟨(show decode cL_law 2492 = .ok (.ireturn, 1) by decide +kernel), .boolean, rfl, (by decide)⟩ ⟨_, rfl, w⟩
              · have w := w.2 c648
                refine X_fload (j := 7) (show decode cL_law 2483 = .ok (.fload 7, 2) by decide +kernel) rfl ?_
                refine X_fload (j := 7) (show decode cL_law 2485 = .ok (.fload 7, 2) by decide +kernel) rfl ?_
                refine X_fcmp (show decode cL_law 2487 = .ok (.fcmp .l, 1) by decide +kernel) ?_
                refine X_if_ne (tgt := 2493) (show decode cL_law 2488 = .ok (.ifCond .ne 5, 3) by decide +kernel) (by decide) ⟨fun c649 => ?_, fun c649 => ?_⟩
                · have w := w.1 c649
                  refine X_goto (tgt := 2925) (show decode cL_law 2493 = .ok (.goto 432, 3) by decide +kernel) (by decide) ?_
                  refine X_iinc (j := 5) (v := _ + 4) (ls' := [(0, .ref _), (1, .ref _), (2, .ref _), (3, .ref _), (4, .ref _), (5, .int _), (6, .int _), (7, .float _)]) (show decode cL_law 2925 = .ok (.iinc 5 4, 3) by decide +kernel) rfl rfl (Nat.le_of_ble_eq_true rfl) rfl ?_
                  refine X_goto (tgt := 28) (show decode cL_law 2928 = .ok (.goto (-2900), 3) by decide +kernel) (by decide) ?_
                  refine X_room (rc' := (n * 33 + 33)) (rs' := (n * 8198 + 8198)) (by omega) (by omega) ?_
                  refine X_pick (ls' := [(0, .ref _), (1, .ref _), (2, .ref _), (3, .ref _), (4, .ref _), (5, .int _)]) [0, 1, 2, 3, 4, 5] rfl ?_
                  exact ih _ _ _ _ _ _ _ w
                · have w := w.2 c649
                  refine X_iconst (v := 0) (show decode cL_law 2491 = .ok (.iconst 0, 1) by decide +kernel) (by decide) ?_
                  exact X_iret ⟨(show decode cL_law 2492 = .ok (.ireturn, 1) by decide +kernel), .boolean, rfl, (by decide)⟩ ⟨_, rfl, w⟩
        · have w := w.2 c641
          refine X_iconst (v := 0) (show decode cL_law 2453 = .ok (.iconst 0, 1) by decide +kernel) (by decide) ?_
          exact X_iret ⟨(show decode cL_law 2454 = .ok (.ireturn, 1) by decide +kernel), .boolean, rfl, (by decide)⟩ ⟨_, rfl, w⟩
      by_cases z44 : (mI h x0 x5.toNatClampNeg &&& 63) = 44
      · have w := w.2.2.2.2.2.2.2.2.2.2.2.2.2.2.2.2.2.2.2.2.2.2.2.2.2.2.2.2.2.2.2.2.2.2.2.2.2.2.2.2.2.2.2.2.1 z44
        refine X_tableIn (tgt := 2496) (show decode cL_law 44 = .ok (.tableswitch 2881 0 54 #[236, 292, 372, 440, 496, 552, 615, 683, 739, 795, 851, 864, 920, 976, 1032, 1095, 1151, 1219, 1287, 1367, 1435, 1448, 1473, 1529, 1585, 1648, 1711, 1767, 1823, 1879, 1935, 1991, 2066, 2079, 2092, 2167, 2180, 2193, 2237, 2281, 2294, 2307, 2321, 2386, 2452, 2465, 2478, 2534, 2590, 2648, 2692, 2736, 2780, 2824, 2837], 236) by decide +kernel) (by rw [z44]; decide) (by rw [z44]; decide) (by rw [z44]; rfl) (by decide) ?_
        refine X_aload_n (j := 1) (show decode cL_law 2496 = .ok (.aload_n 1, 1) by decide +kernel) rfl rfl ?_
        obtain ⟨s658, w⟩ := w
        refine X_vI (rc' := (n * 33 + 66)) (rs' := (n * 8198 + 16396)) (as := []) mv_L_315 (show decode cL_law 2497 = .ok (.invokevirtual 315, 3) by decide +kernel) (by decide) (by omega) (by omega) rfl rfl (Nat.le_of_ble_eq_true rfl) (rcvD s658 (by decide) rfl) (kX9_isConsistent w) (fun E h hk => hk.elim) (fun r653 h652 w => ?_)
        refine X_aload_n (j := 2) (show decode cL_law 2500 = .ok (.aload_n 2, 1) by decide +kernel) rfl rfl ?_
        obtain ⟨s657, w⟩ := w
        refine X_vI (rc' := (n * 33 + 66)) (rs' := (n * 8198 + 16396)) (as := []) mv_L_319 (show decode cL_law 2501 = .ok (.invokevirtual 319, 3) by decide +kernel) (by decide) (by omega) (by omega) rfl rfl (Nat.le_of_ble_eq_true rfl) (rcvD s657 (by decide) rfl) (kX10_isConsistent w) (fun E h hk => hk.elim) (fun r655 h654 w => ?_)
        refine X_icmp_eq (tgt := 2925) (show decode cL_law 2504 = .ok (.if_icmp .eq 421, 3) by decide +kernel) (by decide) ⟨fun c656 => ?_, fun c656 => ?_⟩
        · have w := w.1 c656
          refine X_iinc (j := 5) (v := _ + 4) (ls' := [(0, .ref _), (1, .ref _), (2, .ref _), (3, .ref _), (4, .ref _), (5, .int _)]) (show decode cL_law 2925 = .ok (.iinc 5 4, 3) by decide +kernel) rfl rfl (Nat.le_of_ble_eq_true rfl) rfl ?_
          refine X_goto (tgt := 28) (show decode cL_law 2928 = .ok (.goto (-2900), 3) by decide +kernel) (by decide) ?_
          refine X_room (rc' := (n * 33 + 33)) (rs' := (n * 8198 + 8198)) (by omega) (by omega) ?_
          exact ih _ _ _ _ _ _ _ w
        · have w := w.2 c656
          refine X_iconst (v := 0) (show decode cL_law 2507 = .ok (.iconst 0, 1) by decide +kernel) (by decide) ?_
          exact X_iret ⟨(show decode cL_law 2508 = .ok (.ireturn, 1) by decide +kernel), .boolean, rfl, (by decide)⟩ ⟨_, rfl, w⟩
      by_cases z45 : (mI h x0 x5.toNatClampNeg &&& 63) = 45
      · have w := w.2.2.2.2.2.2.2.2.2.2.2.2.2.2.2.2.2.2.2.2.2.2.2.2.2.2.2.2.2.2.2.2.2.2.2.2.2.2.2.2.2.2.2.2.2.1 z45
        refine X_tableIn (tgt := 2509) (show decode cL_law 44 = .ok (.tableswitch 2881 0 54 #[236, 292, 372, 440, 496, 552, 615, 683, 739, 795, 851, 864, 920, 976, 1032, 1095, 1151, 1219, 1287, 1367, 1435, 1448, 1473, 1529, 1585, 1648, 1711, 1767, 1823, 1879, 1935, 1991, 2066, 2079, 2092, 2167, 2180, 2193, 2237, 2281, 2294, 2307, 2321, 2386, 2452, 2465, 2478, 2534, 2590, 2648, 2692, 2736, 2780, 2824, 2837], 236) by decide +kernel) (by rw [z45]; decide) (by rw [z45]; decide) (by rw [z45]; rfl) (by decide) ?_
        refine X_aload_n (j := 1) (show decode cL_law 2509 = .ok (.aload_n 1, 1) by decide +kernel) rfl rfl ?_
        obtain ⟨s665, w⟩ := w
        refine X_vI (rc' := (n * 33 + 37)) (rs' := (n * 8198 + 8972)) (as := []) mv_L_320 (show decode cL_law 2510 = .ok (.invokevirtual 320, 3) by decide +kernel) (by decide) (by omega) (by omega) rfl rfl (Nat.le_of_ble_eq_true rfl) (rcvD s665 (by decide) rfl) (kX9_writeBlocks w) (fun E h hk => XT_out hk (fun x hx => absurd hx List.not_mem_nil)) (fun r660 h659 w => ?_)
        refine X_aload_n (j := 2) (show decode cL_law 2513 = .ok (.aload_n 2, 1) by decide +kernel) rfl rfl ?_
        obtain ⟨s664, w⟩ := w
        refine X_vI (rc' := (n * 33 + 37)) (rs' := (n * 8198 + 8972)) (as := []) mv_L_323 (show decode cL_law 2514 = .ok (.invokevirtual 323, 3) by decide +kernel) (by decide) (by omega) (by omega) rfl rfl (Nat.le_of_ble_eq_true rfl) (rcvD s664 (by decide) rfl) (kX10_writeBlocks w) (fun E h hk => hk.elim) (fun r662 h661 w => ?_)
        refine X_icmp_eq (tgt := 2925) (show decode cL_law 2517 = .ok (.if_icmp .eq 408, 3) by decide +kernel) (by decide) ⟨fun c663 => ?_, fun c663 => ?_⟩
        · have w := w.1 c663
          refine X_iinc (j := 5) (v := _ + 4) (ls' := [(0, .ref _), (1, .ref _), (2, .ref _), (3, .ref _), (4, .ref _), (5, .int _)]) (show decode cL_law 2925 = .ok (.iinc 5 4, 3) by decide +kernel) rfl rfl (Nat.le_of_ble_eq_true rfl) rfl ?_
          refine X_goto (tgt := 28) (show decode cL_law 2928 = .ok (.goto (-2900), 3) by decide +kernel) (by decide) ?_
          refine X_room (rc' := (n * 33 + 33)) (rs' := (n * 8198 + 8198)) (by omega) (by omega) ?_
          exact ih _ _ _ _ _ _ _ w
        · have w := w.2 c663
          refine X_iconst (v := 0) (show decode cL_law 2520 = .ok (.iconst 0, 1) by decide +kernel) (by decide) ?_
          exact X_iret ⟨(show decode cL_law 2521 = .ok (.ireturn, 1) by decide +kernel), .boolean, rfl, (by decide)⟩ ⟨_, rfl, w⟩
      by_cases z46 : (mI h x0 x5.toNatClampNeg &&& 63) = 46
      · have w := w.2.2.2.2.2.2.2.2.2.2.2.2.2.2.2.2.2.2.2.2.2.2.2.2.2.2.2.2.2.2.2.2.2.2.2.2.2.2.2.2.2.2.2.2.2.2.1 z46
        refine X_tableIn (tgt := 2522) (show decode cL_law 44 = .ok (.tableswitch 2881 0 54 #[236, 292, 372, 440, 496, 552, 615, 683, 739, 795, 851, 864, 920, 976, 1032, 1095, 1151, 1219, 1287, 1367, 1435, 1448, 1473, 1529, 1585, 1648, 1711, 1767, 1823, 1879, 1935, 1991, 2066, 2079, 2092, 2167, 2180, 2193, 2237, 2281, 2294, 2307, 2321, 2386, 2452, 2465, 2478, 2534, 2590, 2648, 2692, 2736, 2780, 2824, 2837], 236) by decide +kernel) (by rw [z46]; decide) (by rw [z46]; decide) (by rw [z46]; rfl) (by decide) ?_
        refine X_aload_n (j := 1) (show decode cL_law 2522 = .ok (.aload_n 1, 1) by decide +kernel) rfl rfl ?_
        refine X_aload_n (j := 0) (show decode cL_law 2523 = .ok (.aload_n 0, 1) by decide +kernel) rfl rfl ?_
        refine X_iload (j := 5) (show decode cL_law 2524 = .ok (.iload 5, 2) by decide +kernel) rfl ?_
        refine X_iconst (v := 1) (show decode cL_law 2526 = .ok (.iconst 1, 1) by decide +kernel) (by decide) ?_
        refine X_iadd (show decode cL_law 2527 = .ok (.iadd, 1) by decide +kernel) ?_
        obtain ⟨s666, w⟩ := w
        refine X_iald (show decode cL_law 2528 = .ok (.iaload, 1) by decide +kernel) (isA_eq s9) s666 ?_
        refine X_aload_n (j := 3) (show decode cL_law 2529 = .ok (.aload_n 3, 1) by decide +kernel) rfl rfl ?_
        refine X_sI (rc' := (n * 33 + 33)) (rs' := (n * 8198 + 8198)) (as := [.ref _, .int _, .ref _]) ms_L_324 (show decode cL_law 2530 = .ok (.invokestatic 324, 3) by decide +kernel) (by decide) (by omega) (by omega) rfl rfl (Nat.le_of_ble_eq_true rfl) (kL_writeTrain w) (fun E h hk => hk.elim) (fun r668 h667 w => ?_)
        refine X_istore (ls' := [(0, .ref _), (1, .ref _), (2, .ref _), (3, .ref _), (4, .ref _), (5, .int _), (6, .int _)]) (show decode cL_law 2533 = .ok (.istore 6, 2) by decide +kernel) (by decide) rfl ?_
        refine X_aload_n (j := 2) (show decode cL_law 2535 = .ok (.aload_n 2, 1) by decide +kernel) rfl rfl ?_
        refine X_aload_n (j := 0) (show decode cL_law 2536 = .ok (.aload_n 0, 1) by decide +kernel) rfl rfl ?_
        refine X_iload (j := 5) (show decode cL_law 2537 = .ok (.iload 5, 2) by decide +kernel) rfl ?_
        refine X_iconst (v := 1) (show decode cL_law 2539 = .ok (.iconst 1, 1) by decide +kernel) (by decide) ?_
        refine X_iadd (show decode cL_law 2540 = .ok (.iadd, 1) by decide +kernel) ?_
        obtain ⟨s669, w⟩ := w
        obtain ⟨s670, w⟩ := w
        refine X_iald (show decode cL_law 2541 = .ok (.iaload, 1) by decide +kernel) (isA_eq s669) s670 ?_
        obtain ⟨s681, w⟩ := w
        refine X_vI (rc' := (n * 33 + 33)) (rs' := (n * 8198 + 8198)) (as := [.int _]) mv_L_326 (show decode cL_law 2542 = .ok (.invokevirtual 326, 3) by decide +kernel) (by decide) (by omega) (by omega) rfl rfl (Nat.le_of_ble_eq_true rfl) (rcvD s681 (by decide) rfl) (kX10_writeTrain w) (fun E h hk => hk.elim) (fun r672 h671 w => ?_)
        refine X_istore (ls' := [(0, .ref _), (1, .ref _), (2, .ref _), (3, .ref _), (4, .ref _), (5, .int _), (6, .int _), (7, .int _)]) (show decode cL_law 2545 = .ok (.istore 7, 2) by decide +kernel) (by decide) rfl ?_
        refine X_aload_n (j := 2) (show decode cL_law 2547 = .ok (.aload_n 2, 1) by decide +kernel) rfl rfl ?_
        obtain ⟨s680, w⟩ := w
        refine X_vI (rc' := (n * 33 + 33)) (rs' := (n * 8198 + 8198)) (as := []) mv_L_168 (show decode cL_law 2548 = .ok (.invokevirtual 168, 3) by decide +kernel) (by decide) (by omega) (by omega) rfl rfl (Nat.le_of_ble_eq_true rfl) (rcvD s680 (by decide) rfl) (kX10_thrown w) (fun E h hk => hk.elim) (fun r674 h673 w => ?_)
        refine X_iload (j := 6) (show decode cL_law 2551 = .ok (.iload 6, 2) by decide +kernel) rfl ?_
        refine X_icmp_eq (tgt := 2558) (show decode cL_law 2553 = .ok (.if_icmp .eq 5, 3) by decide +kernel) (by decide) ⟨fun c675 => ?_, fun c675 => ?_⟩
        · have w := w.1 c675
          refine X_iload (j := 6) (show decode cL_law 2558 = .ok (.iload 6, 2) by decide +kernel) rfl ?_
          refine X_if_ne (tgt := 2575) (show decode cL_law 2560 = .ok (.ifCond .ne 15, 3) by decide +kernel) (by decide) ⟨fun c676 => ?_, fun c676 => ?_⟩
          · have w := w.1 c676
            refine X_goto (tgt := 2925) (show decode cL_law 2575 = .ok (.goto 350, 3) by decide +kernel) (by decide) ?_
            refine X_iinc (j := 5) (v := _ + 4) (ls' := [(0, .ref _), (1, .ref _), (2, .ref _), (3, .ref _), (4, .ref _), (5, .int _), (6, .int _), (7, .int _)]) (show decode cL_law 2925 = .ok (.iinc 5 4, 3) by decide +kernel) rfl rfl (Nat.le_of_ble_eq_true rfl) rfl ?_
            refine X_goto (tgt := 28) (show decode cL_law 2928 = .ok (.goto (-2900), 3) by decide +kernel) (by decide) ?_
            refine X_pick (ls' := [(0, .ref _), (1, .ref _), (2, .ref _), (3, .ref _), (4, .ref _), (5, .int _)]) [0, 1, 2, 3, 4, 5] rfl ?_
            exact ih _ _ _ _ _ _ _ w
          · have w := w.2 c676
            refine X_aload_n (j := 3) (show decode cL_law 2563 = .ok (.aload_n 3, 1) by decide +kernel) rfl rfl ?_
            refine X_iconst (v := 0) (show decode cL_law 2564 = .ok (.iconst 0, 1) by decide +kernel) (by decide) ?_
            obtain ⟨s677, w⟩ := w
            obtain ⟨s678, w⟩ := w
            refine X_lald (show decode cL_law 2565 = .ok (.laload, 1) by decide +kernel) (isA_eq s677) s678 ?_
            refine X_iload (j := 7) (show decode cL_law 2566 = .ok (.iload 7, 2) by decide +kernel) rfl ?_
            refine X_i2l (show decode cL_law 2568 = .ok (.i2l, 1) by decide +kernel) ?_
            refine X_lcmp (show decode cL_law 2569 = .ok (.lcmp, 1) by decide +kernel) ?_
            refine X_if_eq (tgt := 2575) (show decode cL_law 2570 = .ok (.ifCond .eq 5, 3) by decide +kernel) (by decide) ⟨fun c679 => ?_, fun c679 => ?_⟩
            · have w := w.1 c679
              refine X_goto (tgt := 2925) (show decode cL_law 2575 = .ok (.goto 350, 3) by decide +kernel) (by decide) ?_
              refine X_iinc (j := 5) (v := _ + 4) (ls' := [(0, .ref _), (1, .ref _), (2, .ref _), (3, .ref _), (4, .ref _), (5, .int _), (6, .int _), (7, .int _)]) (show decode cL_law 2925 = .ok (.iinc 5 4, 3) by decide +kernel) rfl rfl (Nat.le_of_ble_eq_true rfl) rfl ?_
              refine X_goto (tgt := 28) (show decode cL_law 2928 = .ok (.goto (-2900), 3) by decide +kernel) (by decide) ?_
              refine X_pick (ls' := [(0, .ref _), (1, .ref _), (2, .ref _), (3, .ref _), (4, .ref _), (5, .int _)]) [0, 1, 2, 3, 4, 5] rfl ?_
              exact ih _ _ _ _ _ _ _ w
            · have w := w.2 c679
              refine X_iconst (v := 0) (show decode cL_law 2573 = .ok (.iconst 0, 1) by decide +kernel) (by decide) ?_
              exact X_iret ⟨(show decode cL_law 2574 = .ok (.ireturn, 1) by decide +kernel), .boolean, rfl, (by decide)⟩ ⟨_, rfl, w⟩
        · have w := w.2 c675
          refine X_iconst (v := 0) (show decode cL_law 2556 = .ok (.iconst 0, 1) by decide +kernel) (by decide) ?_
          exact X_iret ⟨(show decode cL_law 2557 = .ok (.ireturn, 1) by decide +kernel), .boolean, rfl, (by decide)⟩ ⟨_, rfl, w⟩
      by_cases z47 : (mI h x0 x5.toNatClampNeg &&& 63) = 47
      · have w := w.2.2.2.2.2.2.2.2.2.2.2.2.2.2.2.2.2.2.2.2.2.2.2.2.2.2.2.2.2.2.2.2.2.2.2.2.2.2.2.2.2.2.2.2.2.2.2.1 z47
        refine X_tableIn (tgt := 2578) (show decode cL_law 44 = .ok (.tableswitch 2881 0 54 #[236, 292, 372, 440, 496, 552, 615, 683, 739, 795, 851, 864, 920, 976, 1032, 1095, 1151, 1219, 1287, 1367, 1435, 1448, 1473, 1529, 1585, 1648, 1711, 1767, 1823, 1879, 1935, 1991, 2066, 2079, 2092, 2167, 2180, 2193, 2237, 2281, 2294, 2307, 2321, 2386, 2452, 2465, 2478, 2534, 2590, 2648, 2692, 2736, 2780, 2824, 2837], 236) by decide +kernel) (by rw [z47]; decide) (by rw [z47]; decide) (by rw [z47]; rfl) (by decide) ?_
        refine X_aload_n (j := 1) (show decode cL_law 2578 = .ok (.aload_n 1, 1) by decide +kernel) rfl rfl ?_
        refine X_aload_n (j := 0) (show decode cL_law 2579 = .ok (.aload_n 0, 1) by decide +kernel) rfl rfl ?_
        refine X_iload (j := 5) (show decode cL_law 2580 = .ok (.iload 5, 2) by decide +kernel) rfl ?_
        refine X_iconst (v := 1) (show decode cL_law 2582 = .ok (.iconst 1, 1) by decide +kernel) (by decide) ?_
        refine X_iadd (show decode cL_law 2583 = .ok (.iadd, 1) by decide +kernel) ?_
        obtain ⟨s682, w⟩ := w
        refine X_iald (show decode cL_law 2584 = .ok (.iaload, 1) by decide +kernel) (isA_eq s9) s682 ?_
        refine X_aload_n (j := 3) (show decode cL_law 2585 = .ok (.aload_n 3, 1) by decide +kernel) rfl rfl ?_
        refine X_sI (rc' := (n * 33 + 65)) (rs' := (n * 8198 + 16390)) (as := [.ref _, .int _, .ref _]) ms_L_327 (show decode cL_law 2586 = .ok (.invokestatic 327, 3) by decide +kernel) (by decide) (by omega) (by omega) rfl rfl (Nat.le_of_ble_eq_true rfl) (kL_charAt w) (fun E h hk => hk.elim) (fun r684 h683 w => ?_)
        refine X_istore (ls' := [(0, .ref _), (1, .ref _), (2, .ref _), (3, .ref _), (4, .ref _), (5, .int _), (6, .int _)]) (show decode cL_law 2589 = .ok (.istore 6, 2) by decide +kernel) (by decide) rfl ?_
        refine X_aload_n (j := 2) (show decode cL_law 2591 = .ok (.aload_n 2, 1) by decide +kernel) rfl rfl ?_
        refine X_aload_n (j := 0) (show decode cL_law 2592 = .ok (.aload_n 0, 1) by decide +kernel) rfl rfl ?_
        refine X_iload (j := 5) (show decode cL_law 2593 = .ok (.iload 5, 2) by decide +kernel) rfl ?_
        refine X_iconst (v := 1) (show decode cL_law 2595 = .ok (.iconst 1, 1) by decide +kernel) (by decide) ?_
        refine X_iadd (show decode cL_law 2596 = .ok (.iadd, 1) by decide +kernel) ?_
        obtain ⟨s685, w⟩ := w
        obtain ⟨s686, w⟩ := w
        refine X_iald (show decode cL_law 2597 = .ok (.iaload, 1) by decide +kernel) (isA_eq s685) s686 ?_
        obtain ⟨s697, w⟩ := w
        refine X_vI (rc' := (n * 33 + 65)) (rs' := (n * 8198 + 16390)) (as := [.int _]) mv_L_329 (show decode cL_law 2598 = .ok (.invokevirtual 329, 3) by decide +kernel) (by decide) (by omega) (by omega) rfl rfl (Nat.le_of_ble_eq_true rfl) (rcvD s697 (by decide) rfl) (kX10_charAt w) (fun E h hk => hk.elim) (fun r688 h687 w => ?_)
        refine X_istore (ls' := [(0, .ref _), (1, .ref _), (2, .ref _), (3, .ref _), (4, .ref _), (5, .int _), (6, .int _), (7, .int _)]) (show decode cL_law 2601 = .ok (.istore 7, 2) by decide +kernel) (by decide) rfl ?_
        refine X_aload_n (j := 2) (show decode cL_law 2603 = .ok (.aload_n 2, 1) by decide +kernel) rfl rfl ?_
        obtain ⟨s696, w⟩ := w
        refine X_vI (rc' := (n * 33 + 65)) (rs' := (n * 8198 + 16390)) (as := []) mv_L_168 (show decode cL_law 2604 = .ok (.invokevirtual 168, 3) by decide +kernel) (by decide) (by omega) (by omega) rfl rfl (Nat.le_of_ble_eq_true rfl) (rcvD s696 (by decide) rfl) (kX10_thrown w) (fun E h hk => hk.elim) (fun r690 h689 w => ?_)
        refine X_iload (j := 6) (show decode cL_law 2607 = .ok (.iload 6, 2) by decide +kernel) rfl ?_
        refine X_icmp_eq (tgt := 2614) (show decode cL_law 2609 = .ok (.if_icmp .eq 5, 3) by decide +kernel) (by decide) ⟨fun c691 => ?_, fun c691 => ?_⟩
        · have w := w.1 c691
          refine X_iload (j := 6) (show decode cL_law 2614 = .ok (.iload 6, 2) by decide +kernel) rfl ?_
          refine X_if_ne (tgt := 2631) (show decode cL_law 2616 = .ok (.ifCond .ne 15, 3) by decide +kernel) (by decide) ⟨fun c692 => ?_, fun c692 => ?_⟩
          · have w := w.1 c692
            refine X_goto (tgt := 2925) (show decode cL_law 2631 = .ok (.goto 294, 3) by decide +kernel) (by decide) ?_
            refine X_iinc (j := 5) (v := _ + 4) (ls' := [(0, .ref _), (1, .ref _), (2, .ref _), (3, .ref _), (4, .ref _), (5, .int _), (6, .int _), (7, .int _)]) (show decode cL_law 2925 = .ok (.iinc 5 4, 3) by decide +kernel) rfl rfl (Nat.le_of_ble_eq_true rfl) rfl ?_
            refine X_goto (tgt := 28) (show decode cL_law 2928 = .ok (.goto (-2900), 3) by decide +kernel) (by decide) ?_
            refine X_room (rc' := (n * 33 + 33)) (rs' := (n * 8198 + 8198)) (by omega) (by omega) ?_
            refine X_pick (ls' := [(0, .ref _), (1, .ref _), (2, .ref _), (3, .ref _), (4, .ref _), (5, .int _)]) [0, 1, 2, 3, 4, 5] rfl ?_
            exact ih _ _ _ _ _ _ _ w
          · have w := w.2 c692
            refine X_aload_n (j := 3) (show decode cL_law 2619 = .ok (.aload_n 3, 1) by decide +kernel) rfl rfl ?_
            refine X_iconst (v := 0) (show decode cL_law 2620 = .ok (.iconst 0, 1) by decide +kernel) (by decide) ?_
            obtain ⟨s693, w⟩ := w
            obtain ⟨s694, w⟩ := w
            refine X_lald (show decode cL_law 2621 = .ok (.laload, 1) by decide +kernel) (isA_eq s693) s694 ?_
            refine X_iload (j := 7) (show decode cL_law 2622 = .ok (.iload 7, 2) by decide +kernel) rfl ?_
            refine X_i2l (show decode cL_law 2624 = .ok (.i2l, 1) by decide +kernel) ?_
            refine X_lcmp (show decode cL_law 2625 = .ok (.lcmp, 1) by decide +kernel) ?_
            refine X_if_eq (tgt := 2631) (show decode cL_law 2626 = .ok (.ifCond .eq 5, 3) by decide +kernel) (by decide) ⟨fun c695 => ?_, fun c695 => ?_⟩
            · have w := w.1 c695
              refine X_goto (tgt := 2925) (show decode cL_law 2631 = .ok (.goto 294, 3) by decide +kernel) (by decide) ?_
              refine X_iinc (j := 5) (v := _ + 4) (ls' := [(0, .ref _), (1, .ref _), (2, .ref _), (3, .ref _), (4, .ref _), (5, .int _), (6, .int _), (7, .int _)]) (show decode cL_law 2925 = .ok (.iinc 5 4, 3) by decide +kernel) rfl rfl (Nat.le_of_ble_eq_true rfl) rfl ?_
              refine X_goto (tgt := 28) (show decode cL_law 2928 = .ok (.goto (-2900), 3) by decide +kernel) (by decide) ?_
              refine X_room (rc' := (n * 33 + 33)) (rs' := (n * 8198 + 8198)) (by omega) (by omega) ?_
              refine X_pick (ls' := [(0, .ref _), (1, .ref _), (2, .ref _), (3, .ref _), (4, .ref _), (5, .int _)]) [0, 1, 2, 3, 4, 5] rfl ?_
              exact ih _ _ _ _ _ _ _ w
            · have w := w.2 c695
              refine X_iconst (v := 0) (show decode cL_law 2629 = .ok (.iconst 0, 1) by decide +kernel) (by decide) ?_
              exact X_iret ⟨(show decode cL_law 2630 = .ok (.ireturn, 1) by decide +kernel), .boolean, rfl, (by decide)⟩ ⟨_, rfl, w⟩
        · have w := w.2 c691
          refine X_iconst (v := 0) (show decode cL_law 2612 = .ok (.iconst 0, 1) by decide +kernel) (by decide) ?_
          exact X_iret ⟨(show decode cL_law 2613 = .ok (.ireturn, 1) by decide +kernel), .boolean, rfl, (by decide)⟩ ⟨_, rfl, w⟩
      by_cases z48 : (mI h x0 x5.toNatClampNeg &&& 63) = 48
      · have w := w.2.2.2.2.2.2.2.2.2.2.2.2.2.2.2.2.2.2.2.2.2.2.2.2.2.2.2.2.2.2.2.2.2.2.2.2.2.2.2.2.2.2.2.2.2.2.2.2.1 z48
        refine X_tableIn (tgt := 2634) (show decode cL_law 44 = .ok (.tableswitch 2881 0 54 #[236, 292, 372, 440, 496, 552, 615, 683, 739, 795, 851, 864, 920, 976, 1032, 1095, 1151, 1219, 1287, 1367, 1435, 1448, 1473, 1529, 1585, 1648, 1711, 1767, 1823, 1879, 1935, 1991, 2066, 2079, 2092, 2167, 2180, 2193, 2237, 2281, 2294, 2307, 2321, 2386, 2452, 2465, 2478, 2534, 2590, 2648, 2692, 2736, 2780, 2824, 2837], 236) by decide +kernel) (by rw [z48]; decide) (by rw [z48]; decide) (by rw [z48]; rfl) (by decide) ?_
        refine X_aload_n (j := 1) (show decode cL_law 2634 = .ok (.aload_n 1, 1) by decide +kernel) rfl rfl ?_
        refine X_aload_n (j := 0) (show decode cL_law 2635 = .ok (.aload_n 0, 1) by decide +kernel) rfl rfl ?_
        refine X_iload (j := 5) (show decode cL_law 2636 = .ok (.iload 5, 2) by decide +kernel) rfl ?_
        refine X_iconst (v := 1) (show decode cL_law 2638 = .ok (.iconst 1, 1) by decide +kernel) (by decide) ?_
        refine X_iadd (show decode cL_law 2639 = .ok (.iadd, 1) by decide +kernel) ?_
        obtain ⟨s698, w⟩ := w
        refine X_iald (show decode cL_law 2640 = .ok (.iaload, 1) by decide +kernel) (isA_eq s9) s698 ?_
        refine X_i2c (show decode cL_law 2641 = .ok (.i2c, 1) by decide +kernel) ?_
        refine X_aload_n (j := 3) (show decode cL_law 2642 = .ok (.aload_n 3, 1) by decide +kernel) rfl rfl ?_
        refine X_sI (rc' := (n * 33 + 65)) (rs' := (n * 8198 + 16390)) (as := [.ref _, .int _, .ref _]) ms_L_330 (show decode cL_law 2643 = .ok (.invokestatic 330, 3) by decide +kernel) (by decide) (by omega) (by omega) rfl rfl (Nat.le_of_ble_eq_true rfl) (kL_type w) (fun E h hk => hk.elim) (fun r700 h699 w => ?_)
        refine X_istore (ls' := [(0, .ref _), (1, .ref _), (2, .ref _), (3, .ref _), (4, .ref _), (5, .int _), (6, .int _)]) (show decode cL_law 2646 = .ok (.istore 6, 2) by decide +kernel) (by decide) rfl ?_
        refine X_aload_n (j := 2) (show decode cL_law 2648 = .ok (.aload_n 2, 1) by decide +kernel) rfl rfl ?_
        refine X_aload_n (j := 0) (show decode cL_law 2649 = .ok (.aload_n 0, 1) by decide +kernel) rfl rfl ?_
        refine X_iload (j := 5) (show decode cL_law 2650 = .ok (.iload 5, 2) by decide +kernel) rfl ?_
        refine X_iconst (v := 1) (show decode cL_law 2652 = .ok (.iconst 1, 1) by decide +kernel) (by decide) ?_
        refine X_iadd (show decode cL_law 2653 = .ok (.iadd, 1) by decide +kernel) ?_
        obtain ⟨s701, w⟩ := w
        obtain ⟨s702, w⟩ := w
        refine X_iald (show decode cL_law 2654 = .ok (.iaload, 1) by decide +kernel) (isA_eq s701) s702 ?_
        refine X_i2c (show decode cL_law 2655 = .ok (.i2c, 1) by decide +kernel) ?_
        obtain ⟨s713, w⟩ := w
        refine X_vI (rc' := (n * 33 + 65)) (rs' := (n * 8198 + 16390)) (as := [.int _]) mv_L_333 (show decode cL_law 2656 = .ok (.invokevirtual 333, 3) by decide +kernel) (by decide) (by omega) (by omega) rfl rfl (Nat.le_of_ble_eq_true rfl) (rcvD s713 (by decide) rfl) (kX10_type w) (fun E h hk => hk.elim) (fun r704 h703 w => ?_)
        refine X_istore (ls' := [(0, .ref _), (1, .ref _), (2, .ref _), (3, .ref _), (4, .ref _), (5, .int _), (6, .int _), (7, .int _)]) (show decode cL_law 2659 = .ok (.istore 7, 2) by decide +kernel) (by decide) rfl ?_
        refine X_aload_n (j := 2) (show decode cL_law 2661 = .ok (.aload_n 2, 1) by decide +kernel) rfl rfl ?_
        obtain ⟨s712, w⟩ := w
        refine X_vI (rc' := (n * 33 + 65)) (rs' := (n * 8198 + 16390)) (as := []) mv_L_168 (show decode cL_law 2662 = .ok (.invokevirtual 168, 3) by decide +kernel) (by decide) (by omega) (by omega) rfl rfl (Nat.le_of_ble_eq_true rfl) (rcvD s712 (by decide) rfl) (kX10_thrown w) (fun E h hk => hk.elim) (fun r706 h705 w => ?_)
        refine X_iload (j := 6) (show decode cL_law 2665 = .ok (.iload 6, 2) by decide +kernel) rfl ?_
        refine X_icmp_eq (tgt := 2672) (show decode cL_law 2667 = .ok (.if_icmp .eq 5, 3) by decide +kernel) (by decide) ⟨fun c707 => ?_, fun c707 => ?_⟩
        · have w := w.1 c707
          refine X_iload (j := 6) (show decode cL_law 2672 = .ok (.iload 6, 2) by decide +kernel) rfl ?_
          refine X_if_ne (tgt := 2689) (show decode cL_law 2674 = .ok (.ifCond .ne 15, 3) by decide +kernel) (by decide) ⟨fun c708 => ?_, fun c708 => ?_⟩
          · have w := w.1 c708
            refine X_goto (tgt := 2925) (show decode cL_law 2689 = .ok (.goto 236, 3) by decide +kernel) (by decide) ?_
            refine X_iinc (j := 5) (v := _ + 4) (ls' := [(0, .ref _), (1, .ref _), (2, .ref _), (3, .ref _), (4, .ref _), (5, .int _), (6, .int _), (7, .int _)]) (show decode cL_law 2925 = .ok (.iinc 5 4, 3) by decide +kernel) rfl rfl (Nat.le_of_ble_eq_true rfl) rfl ?_
            refine X_goto (tgt := 28) (show decode cL_law 2928 = .ok (.goto (-2900), 3) by decide +kernel) (by decide) ?_
            refine X_room (rc' := (n * 33 + 33)) (rs' := (n * 8198 + 8198)) (by omega) (by omega) ?_
            refine X_pick (ls' := [(0, .ref _), (1, .ref _), (2, .ref _), (3, .ref _), (4, .ref _), (5, .int _)]) [0, 1, 2, 3, 4, 5] rfl ?_
            exact ih _ _ _ _ _ _ _ w
          · have w := w.2 c708
            refine X_aload_n (j := 3) (show decode cL_law 2677 = .ok (.aload_n 3, 1) by decide +kernel) rfl rfl ?_
            refine X_iconst (v := 0) (show decode cL_law 2678 = .ok (.iconst 0, 1) by decide +kernel) (by decide) ?_
            obtain ⟨s709, w⟩ := w
            obtain ⟨s710, w⟩ := w
            refine X_lald (show decode cL_law 2679 = .ok (.laload, 1) by decide +kernel) (isA_eq s709) s710 ?_
            refine X_iload (j := 7) (show decode cL_law 2680 = .ok (.iload 7, 2) by decide +kernel) rfl ?_
            refine X_i2l (show decode cL_law 2682 = .ok (.i2l, 1) by decide +kernel) ?_
            refine X_lcmp (show decode cL_law 2683 = .ok (.lcmp, 1) by decide +kernel) ?_
            refine X_if_eq (tgt := 2689) (show decode cL_law 2684 = .ok (.ifCond .eq 5, 3) by decide +kernel) (by decide) ⟨fun c711 => ?_, fun c711 => ?_⟩
            · have w := w.1 c711
              refine X_goto (tgt := 2925) (show decode cL_law 2689 = .ok (.goto 236, 3) by decide +kernel) (by decide) ?_
              refine X_iinc (j := 5) (v := _ + 4) (ls' := [(0, .ref _), (1, .ref _), (2, .ref _), (3, .ref _), (4, .ref _), (5, .int _), (6, .int _), (7, .int _)]) (show decode cL_law 2925 = .ok (.iinc 5 4, 3) by decide +kernel) rfl rfl (Nat.le_of_ble_eq_true rfl) rfl ?_
              refine X_goto (tgt := 28) (show decode cL_law 2928 = .ok (.goto (-2900), 3) by decide +kernel) (by decide) ?_
              refine X_room (rc' := (n * 33 + 33)) (rs' := (n * 8198 + 8198)) (by omega) (by omega) ?_
              refine X_pick (ls' := [(0, .ref _), (1, .ref _), (2, .ref _), (3, .ref _), (4, .ref _), (5, .int _)]) [0, 1, 2, 3, 4, 5] rfl ?_
              exact ih _ _ _ _ _ _ _ w
            · have w := w.2 c711
              refine X_iconst (v := 0) (show decode cL_law 2687 = .ok (.iconst 0, 1) by decide +kernel) (by decide) ?_
              exact X_iret ⟨(show decode cL_law 2688 = .ok (.ireturn, 1) by decide +kernel), .boolean, rfl, (by decide)⟩ ⟨_, rfl, w⟩
        · have w := w.2 c707
          refine X_iconst (v := 0) (show decode cL_law 2670 = .ok (.iconst 0, 1) by decide +kernel) (by decide) ?_
          exact X_iret ⟨(show decode cL_law 2671 = .ok (.ireturn, 1) by decide +kernel), .boolean, rfl, (by decide)⟩ ⟨_, rfl, w⟩
      by_cases z49 : (mI h x0 x5.toNatClampNeg &&& 63) = 49
      · have w := w.2.2.2.2.2.2.2.2.2.2.2.2.2.2.2.2.2.2.2.2.2.2.2.2.2.2.2.2.2.2.2.2.2.2.2.2.2.2.2.2.2.2.2.2.2.2.2.2.2.1 z49
        refine X_tableIn (tgt := 2692) (show decode cL_law 44 = .ok (.tableswitch 2881 0 54 #[236, 292, 372, 440, 496, 552, 615, 683, 739, 795, 851, 864, 920, 976, 1032, 1095, 1151, 1219, 1287, 1367, 1435, 1448, 1473, 1529, 1585, 1648, 1711, 1767, 1823, 1879, 1935, 1991, 2066, 2079, 2092, 2167, 2180, 2193, 2237, 2281, 2294, 2307, 2321, 2386, 2452, 2465, 2478, 2534, 2590, 2648, 2692, 2736, 2780, 2824, 2837], 236) by decide +kernel) (by rw [z49]; decide) (by rw [z49]; decide) (by rw [z49]; rfl) (by decide) ?_
        refine X_aload_n (j := 1) (show decode cL_law 2692 = .ok (.aload_n 1, 1) by decide +kernel) rfl rfl ?_
        refine X_aload_n (j := 3) (show decode cL_law 2693 = .ok (.aload_n 3, 1) by decide +kernel) rfl rfl ?_
        refine X_sI (rc' := (n * 33 + 65)) (rs' := (n * 8198 + 16390)) (as := [.ref _, .ref _]) ms_L_334 (show decode cL_law 2694 = .ok (.invokestatic 334, 3) by decide +kernel) (by decide) (by omega) (by omega) rfl rfl (Nat.le_of_ble_eq_true rfl) (kL_run w) (fun E h hk => hk.elim) (fun r715 h714 w => ?_)
        refine X_istore (ls' := [(0, .ref _), (1, .ref _), (2, .ref _), (3, .ref _), (4, .ref _), (5, .int _), (6, .int _)]) (show decode cL_law 2697 = .ok (.istore 6, 2) by decide +kernel) (by decide) rfl ?_
        refine X_aload_n (j := 2) (show decode cL_law 2699 = .ok (.aload_n 2, 1) by decide +kernel) rfl rfl ?_
        obtain ⟨s726, w⟩ := w
        refine X_vI (rc' := (n * 33 + 65)) (rs' := (n * 8198 + 16390)) (as := []) mv_L_336 (show decode cL_law 2700 = .ok (.invokevirtual 336, 3) by decide +kernel) (by decide) (by omega) (by omega) rfl rfl (Nat.le_of_ble_eq_true rfl) (rcvD s726 (by decide) rfl) (kX10_run w) (fun E h hk => hk.elim) (fun r717 h716 w => ?_)
        refine X_istore (ls' := [(0, .ref _), (1, .ref _), (2, .ref _), (3, .ref _), (4, .ref _), (5, .int _), (6, .int _), (7, .int _)]) (show decode cL_law 2703 = .ok (.istore 7, 2) by decide +kernel) (by decide) rfl ?_
        refine X_aload_n (j := 2) (show decode cL_law 2705 = .ok (.aload_n 2, 1) by decide +kernel) rfl rfl ?_
        obtain ⟨s725, w⟩ := w
        refine X_vI (rc' := (n * 33 + 65)) (rs' := (n * 8198 + 16390)) (as := []) mv_L_168 (show decode cL_law 2706 = .ok (.invokevirtual 168, 3) by decide +kernel) (by decide) (by omega) (by omega) rfl rfl (Nat.le_of_ble_eq_true rfl) (rcvD s725 (by decide) rfl) (kX10_thrown w) (fun E h hk => hk.elim) (fun r719 h718 w => ?_)
        refine X_iload (j := 6) (show decode cL_law 2709 = .ok (.iload 6, 2) by decide +kernel) rfl ?_
        refine X_icmp_eq (tgt := 2716) (show decode cL_law 2711 = .ok (.if_icmp .eq 5, 3) by decide +kernel) (by decide) ⟨fun c720 => ?_, fun c720 => ?_⟩
        · have w := w.1 c720
          refine X_iload (j := 6) (show decode cL_law 2716 = .ok (.iload 6, 2) by decide +kernel) rfl ?_
          refine X_if_ne (tgt := 2733) (show decode cL_law 2718 = .ok (.ifCond .ne 15, 3) by decide +kernel) (by decide) ⟨fun c721 => ?_, fun c721 => ?_⟩
          · have w := w.1 c721
            refine X_goto (tgt := 2925) (show decode cL_law 2733 = .ok (.goto 192, 3) by decide +kernel) (by decide) ?_
            refine X_iinc (j := 5) (v := _ + 4) (ls' := [(0, .ref _), (1, .ref _), (2, .ref _), (3, .ref _), (4, .ref _), (5, .int _), (6, .int _), (7, .int _)]) (show decode cL_law 2925 = .ok (.iinc 5 4, 3) by decide +kernel) rfl rfl (Nat.le_of_ble_eq_true rfl) rfl ?_
            refine X_goto (tgt := 28) (show decode cL_law 2928 = .ok (.goto (-2900), 3) by decide +kernel) (by decide) ?_
            refine X_room (rc' := (n * 33 + 33)) (rs' := (n * 8198 + 8198)) (by omega) (by omega) ?_
            refine X_pick (ls' := [(0, .ref _), (1, .ref _), (2, .ref _), (3, .ref _), (4, .ref _), (5, .int _)]) [0, 1, 2, 3, 4, 5] rfl ?_
            exact ih _ _ _ _ _ _ _ w
          · have w := w.2 c721
            refine X_aload_n (j := 3) (show decode cL_law 2721 = .ok (.aload_n 3, 1) by decide +kernel) rfl rfl ?_
            refine X_iconst (v := 0) (show decode cL_law 2722 = .ok (.iconst 0, 1) by decide +kernel) (by decide) ?_
            obtain ⟨s722, w⟩ := w
            obtain ⟨s723, w⟩ := w
            refine X_lald (show decode cL_law 2723 = .ok (.laload, 1) by decide +kernel) (isA_eq s722) s723 ?_
            refine X_iload (j := 7) (show decode cL_law 2724 = .ok (.iload 7, 2) by decide +kernel) rfl ?_
            refine X_i2l (show decode cL_law 2726 = .ok (.i2l, 1) by decide +kernel) ?_
            refine X_lcmp (show decode cL_law 2727 = .ok (.lcmp, 1) by decide +kernel) ?_
            refine X_if_eq (tgt := 2733) (show decode cL_law 2728 = .ok (.ifCond .eq 5, 3) by decide +kernel) (by decide) ⟨fun c724 => ?_, fun c724 => ?_⟩
            · have w := w.1 c724
              refine X_goto (tgt := 2925) (show decode cL_law 2733 = .ok (.goto 192, 3) by decide +kernel) (by decide) ?_
              refine X_iinc (j := 5) (v := _ + 4) (ls' := [(0, .ref _), (1, .ref _), (2, .ref _), (3, .ref _), (4, .ref _), (5, .int _), (6, .int _), (7, .int _)]) (show decode cL_law 2925 = .ok (.iinc 5 4, 3) by decide +kernel) rfl rfl (Nat.le_of_ble_eq_true rfl) rfl ?_
              refine X_goto (tgt := 28) (show decode cL_law 2928 = .ok (.goto (-2900), 3) by decide +kernel) (by decide) ?_
              refine X_room (rc' := (n * 33 + 33)) (rs' := (n * 8198 + 8198)) (by omega) (by omega) ?_
              refine X_pick (ls' := [(0, .ref _), (1, .ref _), (2, .ref _), (3, .ref _), (4, .ref _), (5, .int _)]) [0, 1, 2, 3, 4, 5] rfl ?_
              exact ih _ _ _ _ _ _ _ w
            · have w := w.2 c724
              refine X_iconst (v := 0) (show decode cL_law 2731 = .ok (.iconst 0, 1) by decide +kernel) (by decide) ?_
              exact X_iret ⟨(show decode cL_law 2732 = .ok (.ireturn, 1) by decide +kernel), .boolean, rfl, (by decide)⟩ ⟨_, rfl, w⟩
        · have w := w.2 c720
          refine X_iconst (v := 0) (show decode cL_law 2714 = .ok (.iconst 0, 1) by decide +kernel) (by decide) ?_
          exact X_iret ⟨(show decode cL_law 2715 = .ok (.ireturn, 1) by decide +kernel), .boolean, rfl, (by decide)⟩ ⟨_, rfl, w⟩
      by_cases z50 : (mI h x0 x5.toNatClampNeg &&& 63) = 50
      · have w := w.2.2.2.2.2.2.2.2.2.2.2.2.2.2.2.2.2.2.2.2.2.2.2.2.2.2.2.2.2.2.2.2.2.2.2.2.2.2.2.2.2.2.2.2.2.2.2.2.2.2.1 z50
        refine X_tableIn (tgt := 2736) (show decode cL_law 44 = .ok (.tableswitch 2881 0 54 #[236, 292, 372, 440, 496, 552, 615, 683, 739, 795, 851, 864, 920, 976, 1032, 1095, 1151, 1219, 1287, 1367, 1435, 1448, 1473, 1529, 1585, 1648, 1711, 1767, 1823, 1879, 1935, 1991, 2066, 2079, 2092, 2167, 2180, 2193, 2237, 2281, 2294, 2307, 2321, 2386, 2452, 2465, 2478, 2534, 2590, 2648, 2692, 2736, 2780, 2824, 2837], 236) by decide +kernel) (by rw [z50]; decide) (by rw [z50]; decide) (by rw [z50]; rfl) (by decide) ?_
        refine X_aload_n (j := 1) (show decode cL_law 2736 = .ok (.aload_n 1, 1) by decide +kernel) rfl rfl ?_
        refine X_aload_n (j := 3) (show decode cL_law 2737 = .ok (.aload_n 3, 1) by decide +kernel) rfl rfl ?_
        refine X_sI (rc' := (n * 33 + 65)) (rs' := (n * 8198 + 16390)) (as := [.ref _, .ref _]) ms_L_337 (show decode cL_law 2738 = .ok (.invokestatic 337, 3) by decide +kernel) (by decide) (by omega) (by omega) rfl rfl (Nat.le_of_ble_eq_true rfl) (kL_errorPosition w) (fun E h hk => hk.elim) (fun r728 h727 w => ?_)
        refine X_istore (ls' := [(0, .ref _), (1, .ref _), (2, .ref _), (3, .ref _), (4, .ref _), (5, .int _), (6, .int _)]) (show decode cL_law 2741 = .ok (.istore 6, 2) by decide +kernel) (by decide) rfl ?_
        refine X_aload_n (j := 2) (show decode cL_law 2743 = .ok (.aload_n 2, 1) by decide +kernel) rfl rfl ?_
        obtain ⟨s739, w⟩ := w
        refine X_vI (rc' := (n * 33 + 65)) (rs' := (n * 8198 + 16390)) (as := []) mv_L_339 (show decode cL_law 2744 = .ok (.invokevirtual 339, 3) by decide +kernel) (by decide) (by omega) (by omega) rfl rfl (Nat.le_of_ble_eq_true rfl) (rcvD s739 (by decide) rfl) (kX10_errorPosition w) (fun E h hk => hk.elim) (fun r730 h729 w => ?_)
        refine X_istore (ls' := [(0, .ref _), (1, .ref _), (2, .ref _), (3, .ref _), (4, .ref _), (5, .int _), (6, .int _), (7, .int _)]) (show decode cL_law 2747 = .ok (.istore 7, 2) by decide +kernel) (by decide) rfl ?_
        refine X_aload_n (j := 2) (show decode cL_law 2749 = .ok (.aload_n 2, 1) by decide +kernel) rfl rfl ?_
        obtain ⟨s738, w⟩ := w
        refine X_vI (rc' := (n * 33 + 65)) (rs' := (n * 8198 + 16390)) (as := []) mv_L_168 (show decode cL_law 2750 = .ok (.invokevirtual 168, 3) by decide +kernel) (by decide) (by omega) (by omega) rfl rfl (Nat.le_of_ble_eq_true rfl) (rcvD s738 (by decide) rfl) (kX10_thrown w) (fun E h hk => hk.elim) (fun r732 h731 w => ?_)
        refine X_iload (j := 6) (show decode cL_law 2753 = .ok (.iload 6, 2) by decide +kernel) rfl ?_
        refine X_icmp_eq (tgt := 2760) (show decode cL_law 2755 = .ok (.if_icmp .eq 5, 3) by decide +kernel) (by decide) ⟨fun c733 => ?_, fun c733 => ?_⟩
        · have w := w.1 c733
          refine X_iload (j := 6) (show decode cL_law 2760 = .ok (.iload 6, 2) by decide +kernel) rfl ?_
          refine X_if_ne (tgt := 2777) (show decode cL_law 2762 = .ok (.ifCond .ne 15, 3) by decide +kernel) (by decide) ⟨fun c734 => ?_, fun c734 => ?_⟩
          · have w := w.1 c734
            refine X_goto (tgt := 2925) (show decode cL_law 2777 = .ok (.goto 148, 3) by decide +kernel) (by decide) ?_
            refine X_iinc (j := 5) (v := _ + 4) (ls' := [(0, .ref _), (1, .ref _), (2, .ref _), (3, .ref _), (4, .ref _), (5, .int _), (6, .int _), (7, .int _)]) (show decode cL_law 2925 = .ok (.iinc 5 4, 3) by decide +kernel) rfl rfl (Nat.le_of_ble_eq_true rfl) rfl ?_
            refine X_goto (tgt := 28) (show decode cL_law 2928 = .ok (.goto (-2900), 3) by decide +kernel) (by decide) ?_
            refine X_room (rc' := (n * 33 + 33)) (rs' := (n * 8198 + 8198)) (by omega) (by omega) ?_
            refine X_pick (ls' := [(0, .ref _), (1, .ref _), (2, .ref _), (3, .ref _), (4, .ref _), (5, .int _)]) [0, 1, 2, 3, 4, 5] rfl ?_
            exact ih _ _ _ _ _ _ _ w
          · have w := w.2 c734
            refine X_aload_n (j := 3) (show decode cL_law 2765 = .ok (.aload_n 3, 1) by decide +kernel) rfl rfl ?_
            refine X_iconst (v := 0) (show decode cL_law 2766 = .ok (.iconst 0, 1) by decide +kernel) (by decide) ?_
            obtain ⟨s735, w⟩ := w
            obtain ⟨s736, w⟩ := w
            refine X_lald (show decode cL_law 2767 = .ok (.laload, 1) by decide +kernel) (isA_eq s735) s736 ?_
            refine X_iload (j := 7) (show decode cL_law 2768 = .ok (.iload 7, 2) by decide +kernel) rfl ?_
            refine X_i2l (show decode cL_law 2770 = .ok (.i2l, 1) by decide +kernel) ?_
            refine X_lcmp (show decode cL_law 2771 = .ok (.lcmp, 1) by decide +kernel) ?_
            refine X_if_eq (tgt := 2777) (show decode cL_law 2772 = .ok (.ifCond .eq 5, 3) by decide +kernel) (by decide) ⟨fun c737 => ?_, fun c737 => ?_⟩
            · have w := w.1 c737
              refine X_goto (tgt := 2925) (show decode cL_law 2777 = .ok (.goto 148, 3) by decide +kernel) (by decide) ?_
              refine X_iinc (j := 5) (v := _ + 4) (ls' := [(0, .ref _), (1, .ref _), (2, .ref _), (3, .ref _), (4, .ref _), (5, .int _), (6, .int _), (7, .int _)]) (show decode cL_law 2925 = .ok (.iinc 5 4, 3) by decide +kernel) rfl rfl (Nat.le_of_ble_eq_true rfl) rfl ?_
              refine X_goto (tgt := 28) (show decode cL_law 2928 = .ok (.goto (-2900), 3) by decide +kernel) (by decide) ?_
              refine X_room (rc' := (n * 33 + 33)) (rs' := (n * 8198 + 8198)) (by omega) (by omega) ?_
              refine X_pick (ls' := [(0, .ref _), (1, .ref _), (2, .ref _), (3, .ref _), (4, .ref _), (5, .int _)]) [0, 1, 2, 3, 4, 5] rfl ?_
              exact ih _ _ _ _ _ _ _ w
            · have w := w.2 c737
              refine X_iconst (v := 0) (show decode cL_law 2775 = .ok (.iconst 0, 1) by decide +kernel) (by decide) ?_
              exact X_iret ⟨(show decode cL_law 2776 = .ok (.ireturn, 1) by decide +kernel), .boolean, rfl, (by decide)⟩ ⟨_, rfl, w⟩
        · have w := w.2 c733
          refine X_iconst (v := 0) (show decode cL_law 2758 = .ok (.iconst 0, 1) by decide +kernel) (by decide) ?_
          exact X_iret ⟨(show decode cL_law 2759 = .ok (.ireturn, 1) by decide +kernel), .boolean, rfl, (by decide)⟩ ⟨_, rfl, w⟩
      by_cases z51 : (mI h x0 x5.toNatClampNeg &&& 63) = 51
      · have w := w.2.2.2.2.2.2.2.2.2.2.2.2.2.2.2.2.2.2.2.2.2.2.2.2.2.2.2.2.2.2.2.2.2.2.2.2.2.2.2.2.2.2.2.2.2.2.2.2.2.2.2.1 z51
        refine X_tableIn (tgt := 2780) (show decode cL_law 44 = .ok (.tableswitch 2881 0 54 #[236, 292, 372, 440, 496, 552, 615, 683, 739, 795, 851, 864, 920, 976, 1032, 1095, 1151, 1219, 1287, 1367, 1435, 1448, 1473, 1529, 1585, 1648, 1711, 1767, 1823, 1879, 1935, 1991, 2066, 2079, 2092, 2167, 2180, 2193, 2237, 2281, 2294, 2307, 2321, 2386, 2452, 2465, 2478, 2534, 2590, 2648, 2692, 2736, 2780, 2824, 2837], 236) by decide +kernel) (by rw [z51]; decide) (by rw [z51]; decide) (by rw [z51]; rfl) (by decide) ?_
        refine X_aload_n (j := 1) (show decode cL_law 2780 = .ok (.aload_n 1, 1) by decide +kernel) rfl rfl ?_
        refine X_aload_n (j := 3) (show decode cL_law 2781 = .ok (.aload_n 3, 1) by decide +kernel) rfl rfl ?_
        refine X_sI (rc' := (n * 33 + 65)) (rs' := (n * 8198 + 16390)) (as := [.ref _, .ref _]) ms_L_340 (show decode cL_law 2782 = .ok (.invokestatic 340, 3) by decide +kernel) (by decide) (by omega) (by omega) rfl rfl (Nat.le_of_ble_eq_true rfl) (kL_failedCommand w) (fun E h hk => hk.elim) (fun r741 h740 w => ?_)
        refine X_istore (ls' := [(0, .ref _), (1, .ref _), (2, .ref _), (3, .ref _), (4, .ref _), (5, .int _), (6, .int _)]) (show decode cL_law 2785 = .ok (.istore 6, 2) by decide +kernel) (by decide) rfl ?_
        refine X_aload_n (j := 2) (show decode cL_law 2787 = .ok (.aload_n 2, 1) by decide +kernel) rfl rfl ?_
        obtain ⟨s752, w⟩ := w
        refine X_vI (rc' := (n * 33 + 65)) (rs' := (n * 8198 + 16390)) (as := []) mv_L_342 (show decode cL_law 2788 = .ok (.invokevirtual 342, 3) by decide +kernel) (by decide) (by omega) (by omega) rfl rfl (Nat.le_of_ble_eq_true rfl) (rcvD s752 (by decide) rfl) (kX10_failedCommand w) (fun E h hk => hk.elim) (fun r743 h742 w => ?_)
        refine X_istore (ls' := [(0, .ref _), (1, .ref _), (2, .ref _), (3, .ref _), (4, .ref _), (5, .int _), (6, .int _), (7, .int _)]) (show decode cL_law 2791 = .ok (.istore 7, 2) by decide +kernel) (by decide) rfl ?_
        refine X_aload_n (j := 2) (show decode cL_law 2793 = .ok (.aload_n 2, 1) by decide +kernel) rfl rfl ?_
        obtain ⟨s751, w⟩ := w
        refine X_vI (rc' := (n * 33 + 65)) (rs' := (n * 8198 + 16390)) (as := []) mv_L_168 (show decode cL_law 2794 = .ok (.invokevirtual 168, 3) by decide +kernel) (by decide) (by omega) (by omega) rfl rfl (Nat.le_of_ble_eq_true rfl) (rcvD s751 (by decide) rfl) (kX10_thrown w) (fun E h hk => hk.elim) (fun r745 h744 w => ?_)
        refine X_iload (j := 6) (show decode cL_law 2797 = .ok (.iload 6, 2) by decide +kernel) rfl ?_
        refine X_icmp_eq (tgt := 2804) (show decode cL_law 2799 = .ok (.if_icmp .eq 5, 3) by decide +kernel) (by decide) ⟨fun c746 => ?_, fun c746 => ?_⟩
        · have w := w.1 c746
          refine X_iload (j := 6) (show decode cL_law 2804 = .ok (.iload 6, 2) by decide +kernel) rfl ?_
          refine X_if_ne (tgt := 2821) (show decode cL_law 2806 = .ok (.ifCond .ne 15, 3) by decide +kernel) (by decide) ⟨fun c747 => ?_, fun c747 => ?_⟩
          · have w := w.1 c747
            refine X_goto (tgt := 2925) (show decode cL_law 2821 = .ok (.goto 104, 3) by decide +kernel) (by decide) ?_
            refine X_iinc (j := 5) (v := _ + 4) (ls' := [(0, .ref _), (1, .ref _), (2, .ref _), (3, .ref _), (4, .ref _), (5, .int _), (6, .int _), (7, .int _)]) (show decode cL_law 2925 = .ok (.iinc 5 4, 3) by decide +kernel) rfl rfl (Nat.le_of_ble_eq_true rfl) rfl ?_
            refine X_goto (tgt := 28) (show decode cL_law 2928 = .ok (.goto (-2900), 3) by decide +kernel) (by decide) ?_
            refine X_room (rc' := (n * 33 + 33)) (rs' := (n * 8198 + 8198)) (by omega) (by omega) ?_
            refine X_pick (ls' := [(0, .ref _), (1, .ref _), (2, .ref _), (3, .ref _), (4, .ref _), (5, .int _)]) [0, 1, 2, 3, 4, 5] rfl ?_
            exact ih _ _ _ _ _ _ _ w
          · have w := w.2 c747
            refine X_aload_n (j := 3) (show decode cL_law 2809 = .ok (.aload_n 3, 1) by decide +kernel) rfl rfl ?_
            refine X_iconst (v := 0) (show decode cL_law 2810 = .ok (.iconst 0, 1) by decide +kernel) (by decide) ?_
            obtain ⟨s748, w⟩ := w
            obtain ⟨s749, w⟩ := w
            refine X_lald (show decode cL_law 2811 = .ok (.laload, 1) by decide +kernel) (isA_eq s748) s749 ?_
            refine X_iload (j := 7) (show decode cL_law 2812 = .ok (.iload 7, 2) by decide +kernel) rfl ?_
            refine X_i2l (show decode cL_law 2814 = .ok (.i2l, 1) by decide +kernel) ?_
            refine X_lcmp (show decode cL_law 2815 = .ok (.lcmp, 1) by decide +kernel) ?_
            refine X_if_eq (tgt := 2821) (show decode cL_law 2816 = .ok (.ifCond .eq 5, 3) by decide +kernel) (by decide) ⟨fun c750 => ?_, fun c750 => ?_⟩
            · have w := w.1 c750
              refine X_goto (tgt := 2925) (show decode cL_law 2821 = .ok (.goto 104, 3) by decide +kernel) (by decide) ?_
              refine X_iinc (j := 5) (v := _ + 4) (ls' := [(0, .ref _), (1, .ref _), (2, .ref _), (3, .ref _), (4, .ref _), (5, .int _), (6, .int _), (7, .int _)]) (show decode cL_law 2925 = .ok (.iinc 5 4, 3) by decide +kernel) rfl rfl (Nat.le_of_ble_eq_true rfl) rfl ?_
              refine X_goto (tgt := 28) (show decode cL_law 2928 = .ok (.goto (-2900), 3) by decide +kernel) (by decide) ?_
              refine X_room (rc' := (n * 33 + 33)) (rs' := (n * 8198 + 8198)) (by omega) (by omega) ?_
              refine X_pick (ls' := [(0, .ref _), (1, .ref _), (2, .ref _), (3, .ref _), (4, .ref _), (5, .int _)]) [0, 1, 2, 3, 4, 5] rfl ?_
              exact ih _ _ _ _ _ _ _ w
            · have w := w.2 c750
              refine X_iconst (v := 0) (show decode cL_law 2819 = .ok (.iconst 0, 1) by decide +kernel) (by decide) ?_
              exact X_iret ⟨(show decode cL_law 2820 = .ok (.ireturn, 1) by decide +kernel), .boolean, rfl, (by decide)⟩ ⟨_, rfl, w⟩
        · have w := w.2 c746
          refine X_iconst (v := 0) (show decode cL_law 2802 = .ok (.iconst 0, 1) by decide +kernel) (by decide) ?_
          exact X_iret ⟨(show decode cL_law 2803 = .ok (.ireturn, 1) by decide +kernel), .boolean, rfl, (by decide)⟩ ⟨_, rfl, w⟩
      by_cases z52 : (mI h x0 x5.toNatClampNeg &&& 63) = 52
      · have w := w.2.2.2.2.2.2.2.2.2.2.2.2.2.2.2.2.2.2.2.2.2.2.2.2.2.2.2.2.2.2.2.2.2.2.2.2.2.2.2.2.2.2.2.2.2.2.2.2.2.2.2.2.1 z52
        refine X_tableIn (tgt := 2824) (show decode cL_law 44 = .ok (.tableswitch 2881 0 54 #[236, 292, 372, 440, 496, 552, 615, 683, 739, 795, 851, 864, 920, 976, 1032, 1095, 1151, 1219, 1287, 1367, 1435, 1448, 1473, 1529, 1585, 1648, 1711, 1767, 1823, 1879, 1935, 1991, 2066, 2079, 2092, 2167, 2180, 2193, 2237, 2281, 2294, 2307, 2321, 2386, 2452, 2465, 2478, 2534, 2590, 2648, 2692, 2736, 2780, 2824, 2837], 236) by decide +kernel) (by rw [z52]; decide) (by rw [z52]; decide) (by rw [z52]; rfl) (by decide) ?_
        refine X_aload_n (j := 1) (show decode cL_law 2824 = .ok (.aload_n 1, 1) by decide +kernel) rfl rfl ?_
        refine X_aload_n (j := 3) (show decode cL_law 2825 = .ok (.aload_n 3, 1) by decide +kernel) rfl rfl ?_
        refine X_sI (rc' := (n * 33 + 65)) (rs' := (n * 8198 + 16390)) (as := [.ref _, .ref _]) ms_L_343 (show decode cL_law 2826 = .ok (.invokestatic 343, 3) by decide +kernel) (by decide) (by omega) (by omega) rfl rfl (Nat.le_of_ble_eq_true rfl) (kL_undo w) (fun E h hk => hk.elim) (fun r754 h753 w => ?_)
        refine X_istore (ls' := [(0, .ref _), (1, .ref _), (2, .ref _), (3, .ref _), (4, .ref _), (5, .int _), (6, .int _)]) (show decode cL_law 2829 = .ok (.istore 6, 2) by decide +kernel) (by decide) rfl ?_
        refine X_aload_n (j := 2) (show decode cL_law 2831 = .ok (.aload_n 2, 1) by decide +kernel) rfl rfl ?_
        obtain ⟨s765, w⟩ := w
        refine X_vI (rc' := (n * 33 + 65)) (rs' := (n * 8198 + 16390)) (as := []) mv_L_345 (show decode cL_law 2832 = .ok (.invokevirtual 345, 3) by decide +kernel) (by decide) (by omega) (by omega) rfl rfl (Nat.le_of_ble_eq_true rfl) (rcvD s765 (by decide) rfl) (kX10_undo w) (fun E h hk => hk.elim) (fun r756 h755 w => ?_)
        refine X_istore (ls' := [(0, .ref _), (1, .ref _), (2, .ref _), (3, .ref _), (4, .ref _), (5, .int _), (6, .int _), (7, .int _)]) (show decode cL_law 2835 = .ok (.istore 7, 2) by decide +kernel) (by decide) rfl ?_
        refine X_aload_n (j := 2) (show decode cL_law 2837 = .ok (.aload_n 2, 1) by decide +kernel) rfl rfl ?_
        obtain ⟨s764, w⟩ := w
        refine X_vI (rc' := (n * 33 + 65)) (rs' := (n * 8198 + 16390)) (as := []) mv_L_168 (show decode cL_law 2838 = .ok (.invokevirtual 168, 3) by decide +kernel) (by decide) (by omega) (by omega) rfl rfl (Nat.le_of_ble_eq_true rfl) (rcvD s764 (by decide) rfl) (kX10_thrown w) (fun E h hk => hk.elim) (fun r758 h757 w => ?_)
        refine X_iload (j := 6) (show decode cL_law 2841 = .ok (.iload 6, 2) by decide +kernel) rfl ?_
        refine X_icmp_eq (tgt := 2848) (show decode cL_law 2843 = .ok (.if_icmp .eq 5, 3) by decide +kernel) (by decide) ⟨fun c759 => ?_, fun c759 => ?_⟩
        · have w := w.1 c759
          refine X_iload (j := 6) (show decode cL_law 2848 = .ok (.iload 6, 2) by decide +kernel) rfl ?_
          refine X_if_ne (tgt := 2865) (show decode cL_law 2850 = .ok (.ifCond .ne 15, 3) by decide +kernel) (by decide) ⟨fun c760 => ?_, fun c760 => ?_⟩
          · have w := w.1 c760
            refine X_goto (tgt := 2925) (show decode cL_law 2865 = .ok (.goto 60, 3) by decide +kernel) (by decide) ?_
            refine X_iinc (j := 5) (v := _ + 4) (ls' := [(0, .ref _), (1, .ref _), (2, .ref _), (3, .ref _), (4, .ref _), (5, .int _), (6, .int _), (7, .int _)]) (show decode cL_law 2925 = .ok (.iinc 5 4, 3) by decide +kernel) rfl rfl (Nat.le_of_ble_eq_true rfl) rfl ?_
            refine X_goto (tgt := 28) (show decode cL_law 2928 = .ok (.goto (-2900), 3) by decide +kernel) (by decide) ?_
            refine X_room (rc' := (n * 33 + 33)) (rs' := (n * 8198 + 8198)) (by omega) (by omega) ?_
            refine X_pick (ls' := [(0, .ref _), (1, .ref _), (2, .ref _), (3, .ref _), (4, .ref _), (5, .int _)]) [0, 1, 2, 3, 4, 5] rfl ?_
            exact ih _ _ _ _ _ _ _ w
          · have w := w.2 c760
            refine X_aload_n (j := 3) (show decode cL_law 2853 = .ok (.aload_n 3, 1) by decide +kernel) rfl rfl ?_
            refine X_iconst (v := 0) (show decode cL_law 2854 = .ok (.iconst 0, 1) by decide +kernel) (by decide) ?_
            obtain ⟨s761, w⟩ := w
            obtain ⟨s762, w⟩ := w
            refine X_lald (show decode cL_law 2855 = .ok (.laload, 1) by decide +kernel) (isA_eq s761) s762 ?_
            refine X_iload (j := 7) (show decode cL_law 2856 = .ok (.iload 7, 2) by decide +kernel) rfl ?_
            refine X_i2l (show decode cL_law 2858 = .ok (.i2l, 1) by decide +kernel) ?_
            refine X_lcmp (show decode cL_law 2859 = .ok (.lcmp, 1) by decide +kernel) ?_
            refine X_if_eq (tgt := 2865) (show decode cL_law 2860 = .ok (.ifCond .eq 5, 3) by decide +kernel) (by decide) ⟨fun c763 => ?_, fun c763 => ?_⟩
            · have w := w.1 c763
              refine X_goto (tgt := 2925) (show decode cL_law 2865 = .ok (.goto 60, 3) by decide +kernel) (by decide) ?_
              refine X_iinc (j := 5) (v := _ + 4) (ls' := [(0, .ref _), (1, .ref _), (2, .ref _), (3, .ref _), (4, .ref _), (5, .int _), (6, .int _), (7, .int _)]) (show decode cL_law 2925 = .ok (.iinc 5 4, 3) by decide +kernel) rfl rfl (Nat.le_of_ble_eq_true rfl) rfl ?_
              refine X_goto (tgt := 28) (show decode cL_law 2928 = .ok (.goto (-2900), 3) by decide +kernel) (by decide) ?_
              refine X_room (rc' := (n * 33 + 33)) (rs' := (n * 8198 + 8198)) (by omega) (by omega) ?_
              refine X_pick (ls' := [(0, .ref _), (1, .ref _), (2, .ref _), (3, .ref _), (4, .ref _), (5, .int _)]) [0, 1, 2, 3, 4, 5] rfl ?_
              exact ih _ _ _ _ _ _ _ w
            · have w := w.2 c763
              refine X_iconst (v := 0) (show decode cL_law 2863 = .ok (.iconst 0, 1) by decide +kernel) (by decide) ?_
              exact X_iret ⟨(show decode cL_law 2864 = .ok (.ireturn, 1) by decide +kernel), .boolean, rfl, (by decide)⟩ ⟨_, rfl, w⟩
        · have w := w.2 c759
          refine X_iconst (v := 0) (show decode cL_law 2846 = .ok (.iconst 0, 1) by decide +kernel) (by decide) ?_
          exact X_iret ⟨(show decode cL_law 2847 = .ok (.ireturn, 1) by decide +kernel), .boolean, rfl, (by decide)⟩ ⟨_, rfl, w⟩
      by_cases z53 : (mI h x0 x5.toNatClampNeg &&& 63) = 53
      · have w := w.2.2.2.2.2.2.2.2.2.2.2.2.2.2.2.2.2.2.2.2.2.2.2.2.2.2.2.2.2.2.2.2.2.2.2.2.2.2.2.2.2.2.2.2.2.2.2.2.2.2.2.2.2.1 z53
        refine X_tableIn (tgt := 2868) (show decode cL_law 44 = .ok (.tableswitch 2881 0 54 #[236, 292, 372, 440, 496, 552, 615, 683, 739, 795, 851, 864, 920, 976, 1032, 1095, 1151, 1219, 1287, 1367, 1435, 1448, 1473, 1529, 1585, 1648, 1711, 1767, 1823, 1879, 1935, 1991, 2066, 2079, 2092, 2167, 2180, 2193, 2237, 2281, 2294, 2307, 2321, 2386, 2452, 2465, 2478, 2534, 2590, 2648, 2692, 2736, 2780, 2824, 2837], 236) by decide +kernel) (by rw [z53]; decide) (by rw [z53]; decide) (by rw [z53]; rfl) (by decide) ?_
        refine X_aload_n (j := 1) (show decode cL_law 2868 = .ok (.aload_n 1, 1) by decide +kernel) rfl rfl ?_
        obtain ⟨s772, w⟩ := w
        refine X_vI (rc' := (n * 33 + 66)) (rs' := (n * 8198 + 16396)) (as := []) mv_L_346 (show decode cL_law 2869 = .ok (.invokevirtual 346, 3) by decide +kernel) (by decide) (by omega) (by omega) rfl rfl (Nat.le_of_ble_eq_true rfl) (rcvD s772 (by decide) rfl) (kX9_save w) (fun E h hk => hk.elim) (fun r767 h766 w => ?_)
        refine X_aload_n (j := 2) (show decode cL_law 2872 = .ok (.aload_n 2, 1) by decide +kernel) rfl rfl ?_
        obtain ⟨s771, w⟩ := w
        refine X_vI (rc' := (n * 33 + 66)) (rs' := (n * 8198 + 16396)) (as := []) mv_L_349 (show decode cL_law 2873 = .ok (.invokevirtual 349, 3) by decide +kernel) (by decide) (by omega) (by omega) rfl rfl (Nat.le_of_ble_eq_true rfl) (rcvD s771 (by decide) rfl) (kX10_save w) (fun E h hk => hk.elim) (fun r769 h768 w => ?_)
        refine X_icmp_eq (tgt := 2925) (show decode cL_law 2876 = .ok (.if_icmp .eq 49, 3) by decide +kernel) (by decide) ⟨fun c770 => ?_, fun c770 => ?_⟩
        · have w := w.1 c770
          refine X_iinc (j := 5) (v := _ + 4) (ls' := [(0, .ref _), (1, .ref _), (2, .ref _), (3, .ref _), (4, .ref _), (5, .int _)]) (show decode cL_law 2925 = .ok (.iinc 5 4, 3) by decide +kernel) rfl rfl (Nat.le_of_ble_eq_true rfl) rfl ?_
          refine X_goto (tgt := 28) (show decode cL_law 2928 = .ok (.goto (-2900), 3) by decide +kernel) (by decide) ?_
          refine X_room (rc' := (n * 33 + 33)) (rs' := (n * 8198 + 8198)) (by omega) (by omega) ?_
          exact ih _ _ _ _ _ _ _ w
        · have w := w.2 c770
          refine X_iconst (v := 0) (show decode cL_law 2879 = .ok (.iconst 0, 1) by decide +kernel) (by decide) ?_
          exact X_iret ⟨(show decode cL_law 2880 = .ok (.ireturn, 1) by decide +kernel), .boolean, rfl, (by decide)⟩ ⟨_, rfl, w⟩
      by_cases z54 : (mI h x0 x5.toNatClampNeg &&& 63) = 54
      · have w := w.2.2.2.2.2.2.2.2.2.2.2.2.2.2.2.2.2.2.2.2.2.2.2.2.2.2.2.2.2.2.2.2.2.2.2.2.2.2.2.2.2.2.2.2.2.2.2.2.2.2.2.2.2.2.1 z54
        refine X_tableIn (tgt := 2881) (show decode cL_law 44 = .ok (.tableswitch 2881 0 54 #[236, 292, 372, 440, 496, 552, 615, 683, 739, 795, 851, 864, 920, 976, 1032, 1095, 1151, 1219, 1287, 1367, 1435, 1448, 1473, 1529, 1585, 1648, 1711, 1767, 1823, 1879, 1935, 1991, 2066, 2079, 2092, 2167, 2180, 2193, 2237, 2281, 2294, 2307, 2321, 2386, 2452, 2465, 2478, 2534, 2590, 2648, 2692, 2736, 2780, 2824, 2837], 236) by decide +kernel) (by rw [z54]; decide) (by rw [z54]; decide) (by rw [z54]; rfl) (by decide) ?_
        refine X_aload_n (j := 1) (show decode cL_law 2881 = .ok (.aload_n 1, 1) by decide +kernel) rfl rfl ?_
        refine X_aload_n (j := 3) (show decode cL_law 2882 = .ok (.aload_n 3, 1) by decide +kernel) rfl rfl ?_
        refine X_sI (rc' := (n * 33 + 65)) (rs' := (n * 8198 + 16390)) (as := [.ref _, .ref _]) ms_L_350 (show decode cL_law 2883 = .ok (.invokestatic 350, 3) by decide +kernel) (by decide) (by omega) (by omega) rfl rfl (Nat.le_of_ble_eq_true rfl) (kL_restore w) (fun E h hk => hk.elim) (fun r774 h773 w => ?_)
        refine X_istore (ls' := [(0, .ref _), (1, .ref _), (2, .ref _), (3, .ref _), (4, .ref _), (5, .int _), (6, .int _)]) (show decode cL_law 2886 = .ok (.istore 6, 2) by decide +kernel) (by decide) rfl ?_
        refine X_aload_n (j := 2) (show decode cL_law 2888 = .ok (.aload_n 2, 1) by decide +kernel) rfl rfl ?_
        obtain ⟨s785, w⟩ := w
        refine X_vI (rc' := (n * 33 + 65)) (rs' := (n * 8198 + 16390)) (as := []) mv_L_352 (show decode cL_law 2889 = .ok (.invokevirtual 352, 3) by decide +kernel) (by decide) (by omega) (by omega) rfl rfl (Nat.le_of_ble_eq_true rfl) (rcvD s785 (by decide) rfl) (kX10_restore w) (fun E h hk => hk.elim) (fun r776 h775 w => ?_)
        refine X_istore (ls' := [(0, .ref _), (1, .ref _), (2, .ref _), (3, .ref _), (4, .ref _), (5, .int _), (6, .int _), (7, .int _)]) (show decode cL_law 2892 = .ok (.istore 7, 2) by decide +kernel) (by decide) rfl ?_
        refine X_aload_n (j := 2) (show decode cL_law 2894 = .ok (.aload_n 2, 1) by decide +kernel) rfl rfl ?_
        obtain ⟨s784, w⟩ := w
        refine X_vI (rc' := (n * 33 + 65)) (rs' := (n * 8198 + 16390)) (as := []) mv_L_168 (show decode cL_law 2895 = .ok (.invokevirtual 168, 3) by decide +kernel) (by decide) (by omega) (by omega) rfl rfl (Nat.le_of_ble_eq_true rfl) (rcvD s784 (by decide) rfl) (kX10_thrown w) (fun E h hk => hk.elim) (fun r778 h777 w => ?_)
        refine X_iload (j := 6) (show decode cL_law 2898 = .ok (.iload 6, 2) by decide +kernel) rfl ?_
        refine X_icmp_eq (tgt := 2905) (show decode cL_law 2900 = .ok (.if_icmp .eq 5, 3) by decide +kernel) (by decide) ⟨fun c779 => ?_, fun c779 => ?_⟩
        · have w := w.1 c779
          refine X_iload (j := 6) (show decode cL_law 2905 = .ok (.iload 6, 2) by decide +kernel) rfl ?_
          refine X_if_ne (tgt := 2922) (show decode cL_law 2907 = .ok (.ifCond .ne 15, 3) by decide +kernel) (by decide) ⟨fun c780 => ?_, fun c780 => ?_⟩
          · have w := w.1 c780
            refine X_goto (tgt := 2925) (show decode cL_law 2922 = .ok (.goto 3, 3) by decide +kernel) (by decide) ?_
            refine X_iinc (j := 5) (v := _ + 4) (ls' := [(0, .ref _), (1, .ref _), (2, .ref _), (3, .ref _), (4, .ref _), (5, .int _), (6, .int _), (7, .int _)]) (show decode cL_law 2925 = .ok (.iinc 5 4, 3) by decide +kernel) rfl rfl (Nat.le_of_ble_eq_true rfl) rfl ?_
            refine X_goto (tgt := 28) (show decode cL_law 2928 = .ok (.goto (-2900), 3) by decide +kernel) (by decide) ?_
            refine X_room (rc' := (n * 33 + 33)) (rs' := (n * 8198 + 8198)) (by omega) (by omega) ?_
            refine X_pick (ls' := [(0, .ref _), (1, .ref _), (2, .ref _), (3, .ref _), (4, .ref _), (5, .int _)]) [0, 1, 2, 3, 4, 5] rfl ?_
            exact ih _ _ _ _ _ _ _ w
          · have w := w.2 c780
            refine X_aload_n (j := 3) (show decode cL_law 2910 = .ok (.aload_n 3, 1) by decide +kernel) rfl rfl ?_
            refine X_iconst (v := 0) (show decode cL_law 2911 = .ok (.iconst 0, 1) by decide +kernel) (by decide) ?_
            obtain ⟨s781, w⟩ := w
            obtain ⟨s782, w⟩ := w
            refine X_lald (show decode cL_law 2912 = .ok (.laload, 1) by decide +kernel) (isA_eq s781) s782 ?_
            refine X_iload (j := 7) (show decode cL_law 2913 = .ok (.iload 7, 2) by decide +kernel) rfl ?_
            refine X_i2l (show decode cL_law 2915 = .ok (.i2l, 1) by decide +kernel) ?_
            refine X_lcmp (show decode cL_law 2916 = .ok (.lcmp, 1) by decide +kernel) ?_
            refine X_if_eq (tgt := 2922) (show decode cL_law 2917 = .ok (.ifCond .eq 5, 3) by decide +kernel) (by decide) ⟨fun c783 => ?_, fun c783 => ?_⟩
            · have w := w.1 c783
              refine X_goto (tgt := 2925) (show decode cL_law 2922 = .ok (.goto 3, 3) by decide +kernel) (by decide) ?_
              refine X_iinc (j := 5) (v := _ + 4) (ls' := [(0, .ref _), (1, .ref _), (2, .ref _), (3, .ref _), (4, .ref _), (5, .int _), (6, .int _), (7, .int _)]) (show decode cL_law 2925 = .ok (.iinc 5 4, 3) by decide +kernel) rfl rfl (Nat.le_of_ble_eq_true rfl) rfl ?_
              refine X_goto (tgt := 28) (show decode cL_law 2928 = .ok (.goto (-2900), 3) by decide +kernel) (by decide) ?_
              refine X_room (rc' := (n * 33 + 33)) (rs' := (n * 8198 + 8198)) (by omega) (by omega) ?_
              refine X_pick (ls' := [(0, .ref _), (1, .ref _), (2, .ref _), (3, .ref _), (4, .ref _), (5, .int _)]) [0, 1, 2, 3, 4, 5] rfl ?_
              exact ih _ _ _ _ _ _ _ w
            · have w := w.2 c783
              refine X_iconst (v := 0) (show decode cL_law 2920 = .ok (.iconst 0, 1) by decide +kernel) (by decide) ?_
              exact X_iret ⟨(show decode cL_law 2921 = .ok (.ireturn, 1) by decide +kernel), .boolean, rfl, (by decide)⟩ ⟨_, rfl, w⟩
        · have w := w.2 c779
          refine X_iconst (v := 0) (show decode cL_law 2903 = .ok (.iconst 0, 1) by decide +kernel) (by decide) ?_
          exact X_iret ⟨(show decode cL_law 2904 = .ok (.ireturn, 1) by decide +kernel), .boolean, rfl, (by decide)⟩ ⟨_, rfl, w⟩
      have w := w.2.2.2.2.2.2.2.2.2.2.2.2.2.2.2.2.2.2.2.2.2.2.2.2.2.2.2.2.2.2.2.2.2.2.2.2.2.2.2.2.2.2.2.2.2.2.2.2.2.2.2.2.2.2.2 ⟨z0, z1, z2, z3, z4, z5, z6, z7, z8, z9, z10, z11, z12, z13, z14, z15, z16, z17, z18, z19, z20, z21, z22, z23, z24, z25, z26, z27, z28, z29, z30, z31, z32, z33, z34, z35, z36, z37, z38, z39, z40, z41, z42, z43, z44, z45, z46, z47, z48, z49, z50, z51, z52, z53, z54⟩
      refine X_tab (lo := 0) (hi := 54) (tgt := 2925) (show decode cL_law 44 = .ok (.tableswitch 2881 0 54 #[236, 292, 372, 440, 496, 552, 615, 683, 739, 795, 851, 864, 920, 976, 1032, 1095, 1151, 1219, 1287, 1367, 1435, 1448, 1473, 1529, 1585, 1648, 1711, 1767, 1823, 1879, 1935, 1991, 2066, 2079, 2092, 2167, 2180, 2193, 2237, 2281, 2294, 2307, 2321, 2386, 2452, 2465, 2478, 2534, 2590, 2648, 2692, 2736, 2780, 2824, 2837], 236) by decide +kernel) (by decide) (fun g1 g2 => ?_) ?_
      · have g3 : ((mI h x0 x5.toNatClampNeg &&& 63)).toInt = 0 ∨ ((mI h x0 x5.toNatClampNeg &&& 63)).toInt = 1 ∨ ((mI h x0 x5.toNatClampNeg &&& 63)).toInt = 2 ∨ ((mI h x0 x5.toNatClampNeg &&& 63)).toInt = 3 ∨ ((mI h x0 x5.toNatClampNeg &&& 63)).toInt = 4 ∨ ((mI h x0 x5.toNatClampNeg &&& 63)).toInt = 5 ∨ ((mI h x0 x5.toNatClampNeg &&& 63)).toInt = 6 ∨ ((mI h x0 x5.toNatClampNeg &&& 63)).toInt = 7 ∨ ((mI h x0 x5.toNatClampNeg &&& 63)).toInt = 8 ∨ ((mI h x0 x5.toNatClampNeg &&& 63)).toInt = 9 ∨ ((mI h x0 x5.toNatClampNeg &&& 63)).toInt = 10 ∨ ((mI h x0 x5.toNatClampNeg &&& 63)).toInt = 11 ∨ ((mI h x0 x5.toNatClampNeg &&& 63)).toInt = 12 ∨ ((mI h x0 x5.toNatClampNeg &&& 63)).toInt = 13 ∨ ((mI h x0 x5.toNatClampNeg &&& 63)).toInt = 14 ∨ ((mI h x0 x5.toNatClampNeg &&& 63)).toInt = 15 ∨ ((mI h x0 x5.toNatClampNeg &&& 63)).toInt = 16 ∨ ((mI h x0 x5.toNatClampNeg &&& 63)).toInt = 17 ∨ ((mI h x0 x5.toNatClampNeg &&& 63)).toInt = 18 ∨ ((mI h x0 x5.toNatClampNeg &&& 63)).toInt = 19 ∨ ((mI h x0 x5.toNatClampNeg &&& 63)).toInt = 20 ∨ ((mI h x0 x5.toNatClampNeg &&& 63)).toInt = 21 ∨ ((mI h x0 x5.toNatClampNeg &&& 63)).toInt = 22 ∨ ((mI h x0 x5.toNatClampNeg &&& 63)).toInt = 23 ∨ ((mI h x0 x5.toNatClampNeg &&& 63)).toInt = 24 ∨ ((mI h x0 x5.toNatClampNeg &&& 63)).toInt = 25 ∨ ((mI h x0 x5.toNatClampNeg &&& 63)).toInt = 26 ∨ ((mI h x0 x5.toNatClampNeg &&& 63)).toInt = 27 ∨ ((mI h x0 x5.toNatClampNeg &&& 63)).toInt = 28 ∨ ((mI h x0 x5.toNatClampNeg &&& 63)).toInt = 29 ∨ ((mI h x0 x5.toNatClampNeg &&& 63)).toInt = 30 ∨ ((mI h x0 x5.toNatClampNeg &&& 63)).toInt = 31 ∨ ((mI h x0 x5.toNatClampNeg &&& 63)).toInt = 32 ∨ ((mI h x0 x5.toNatClampNeg &&& 63)).toInt = 33 ∨ ((mI h x0 x5.toNatClampNeg &&& 63)).toInt = 34 ∨ ((mI h x0 x5.toNatClampNeg &&& 63)).toInt = 35 ∨ ((mI h x0 x5.toNatClampNeg &&& 63)).toInt = 36 ∨ ((mI h x0 x5.toNatClampNeg &&& 63)).toInt = 37 ∨ ((mI h x0 x5.toNatClampNeg &&& 63)).toInt = 38 ∨ ((mI h x0 x5.toNatClampNeg &&& 63)).toInt = 39 ∨ ((mI h x0 x5.toNatClampNeg &&& 63)).toInt = 40 ∨ ((mI h x0 x5.toNatClampNeg &&& 63)).toInt = 41 ∨ ((mI h x0 x5.toNatClampNeg &&& 63)).toInt = 42 ∨ ((mI h x0 x5.toNatClampNeg &&& 63)).toInt = 43 ∨ ((mI h x0 x5.toNatClampNeg &&& 63)).toInt = 44 ∨ ((mI h x0 x5.toNatClampNeg &&& 63)).toInt = 45 ∨ ((mI h x0 x5.toNatClampNeg &&& 63)).toInt = 46 ∨ ((mI h x0 x5.toNatClampNeg &&& 63)).toInt = 47 ∨ ((mI h x0 x5.toNatClampNeg &&& 63)).toInt = 48 ∨ ((mI h x0 x5.toNatClampNeg &&& 63)).toInt = 49 ∨ ((mI h x0 x5.toNatClampNeg &&& 63)).toInt = 50 ∨ ((mI h x0 x5.toNatClampNeg &&& 63)).toInt = 51 ∨ ((mI h x0 x5.toNatClampNeg &&& 63)).toInt = 52 ∨ ((mI h x0 x5.toNatClampNeg &&& 63)).toInt = 53 ∨ ((mI h x0 x5.toNatClampNeg &&& 63)).toInt = 54 := by omega
        rcases g3 with g3 | g3 | g3 | g3 | g3 | g3 | g3 | g3 | g3 | g3 | g3 | g3 | g3 | g3 | g3 | g3 | g3 | g3 | g3 | g3 | g3 | g3 | g3 | g3 | g3 | g3 | g3 | g3 | g3 | g3 | g3 | g3 | g3 | g3 | g3 | g3 | g3 | g3 | g3 | g3 | g3 | g3 | g3 | g3 | g3 | g3 | g3 | g3 | g3 | g3 | g3 | g3 | g3 | g3 | g3
        · exact absurd (i32_of (k := 0) (g3.trans (by decide))) z0
        · exact absurd (i32_of (k := 1) (g3.trans (by decide))) z1
        · exact absurd (i32_of (k := 2) (g3.trans (by decide))) z2
        · exact absurd (i32_of (k := 3) (g3.trans (by decide))) z3
        · exact absurd (i32_of (k := 4) (g3.trans (by decide))) z4
        · exact absurd (i32_of (k := 5) (g3.trans (by decide))) z5
        · exact absurd (i32_of (k := 6) (g3.trans (by decide))) z6
        · exact absurd (i32_of (k := 7) (g3.trans (by decide))) z7
        · exact absurd (i32_of (k := 8) (g3.trans (by decide))) z8
        · exact absurd (i32_of (k := 9) (g3.trans (by decide))) z9
        · exact absurd (i32_of (k := 10) (g3.trans (by decide))) z10
        · exact absurd (i32_of (k := 11) (g3.trans (by decide))) z11
        · exact absurd (i32_of (k := 12) (g3.trans (by decide))) z12
        · exact absurd (i32_of (k := 13) (g3.trans (by decide))) z13
        · exact absurd (i32_of (k := 14) (g3.trans (by decide))) z14
        · exact absurd (i32_of (k := 15) (g3.trans (by decide))) z15
        · exact absurd (i32_of (k := 16) (g3.trans (by decide))) z16
        · exact absurd (i32_of (k := 17) (g3.trans (by decide))) z17
        · exact absurd (i32_of (k := 18) (g3.trans (by decide))) z18
        · exact absurd (i32_of (k := 19) (g3.trans (by decide))) z19
        · exact absurd (i32_of (k := 20) (g3.trans (by decide))) z20
        · exact absurd (i32_of (k := 21) (g3.trans (by decide))) z21
        · exact absurd (i32_of (k := 22) (g3.trans (by decide))) z22
        · exact absurd (i32_of (k := 23) (g3.trans (by decide))) z23
        · exact absurd (i32_of (k := 24) (g3.trans (by decide))) z24
        · exact absurd (i32_of (k := 25) (g3.trans (by decide))) z25
        · exact absurd (i32_of (k := 26) (g3.trans (by decide))) z26
        · exact absurd (i32_of (k := 27) (g3.trans (by decide))) z27
        · exact absurd (i32_of (k := 28) (g3.trans (by decide))) z28
        · exact absurd (i32_of (k := 29) (g3.trans (by decide))) z29
        · exact absurd (i32_of (k := 30) (g3.trans (by decide))) z30
        · exact absurd (i32_of (k := 31) (g3.trans (by decide))) z31
        · exact absurd (i32_of (k := 32) (g3.trans (by decide))) z32
        · exact absurd (i32_of (k := 33) (g3.trans (by decide))) z33
        · exact absurd (i32_of (k := 34) (g3.trans (by decide))) z34
        · exact absurd (i32_of (k := 35) (g3.trans (by decide))) z35
        · exact absurd (i32_of (k := 36) (g3.trans (by decide))) z36
        · exact absurd (i32_of (k := 37) (g3.trans (by decide))) z37
        · exact absurd (i32_of (k := 38) (g3.trans (by decide))) z38
        · exact absurd (i32_of (k := 39) (g3.trans (by decide))) z39
        · exact absurd (i32_of (k := 40) (g3.trans (by decide))) z40
        · exact absurd (i32_of (k := 41) (g3.trans (by decide))) z41
        · exact absurd (i32_of (k := 42) (g3.trans (by decide))) z42
        · exact absurd (i32_of (k := 43) (g3.trans (by decide))) z43
        · exact absurd (i32_of (k := 44) (g3.trans (by decide))) z44
        · exact absurd (i32_of (k := 45) (g3.trans (by decide))) z45
        · exact absurd (i32_of (k := 46) (g3.trans (by decide))) z46
        · exact absurd (i32_of (k := 47) (g3.trans (by decide))) z47
        · exact absurd (i32_of (k := 48) (g3.trans (by decide))) z48
        · exact absurd (i32_of (k := 49) (g3.trans (by decide))) z49
        · exact absurd (i32_of (k := 50) (g3.trans (by decide))) z50
        · exact absurd (i32_of (k := 51) (g3.trans (by decide))) z51
        · exact absurd (i32_of (k := 52) (g3.trans (by decide))) z52
        · exact absurd (i32_of (k := 53) (g3.trans (by decide))) z53
        · exact absurd (i32_of (k := 54) (g3.trans (by decide))) z54
      · skip
        refine X_iinc (j := 5) (v := _ + 4) (ls' := [(0, .ref _), (1, .ref _), (2, .ref _), (3, .ref _), (4, .ref _), (5, .int _)]) (show decode cL_law 2925 = .ok (.iinc 5 4, 3) by decide +kernel) rfl rfl (Nat.le_of_ble_eq_true rfl) rfl ?_
        refine X_goto (tgt := 28) (show decode cL_law 2928 = .ok (.goto (-2900), 3) by decide +kernel) (by decide) ?_
        refine X_room (rc' := (n * 33 + 33)) (rs' := (n * 8198 + 8198)) (by omega) (by omega) ?_
        exact ih _ _ _ _ _ _ _ w
set_option maxRecDepth 100000 in
set_option maxHeartbeats 4000000 in
theorem kL_law {a0 : Nat} {h : AH} {K : Int32 → AH → Prop} {T : String → AH → Prop} (w : wL_law a0 h K T) : Cn mL_law (cwd mL_law) 12 17633 4224280 [.ref a0] h (KI K) T := by
  refine Cn_of (by decide +kernel) rfl (Nat.le_of_ble_eq_true rfl) ?_
  show X mL_law 12 (KI K) T 17633 4224280 0 [(0, .ref a0)] [] h
  unfold wL_law at w
  refine X_new (rc' := 17632) (rs' := 4224268) nw_L_8 (show decode cL_law 0 = .ok (.new 8, 3) by decide +kernel) (Nat.le_of_ble_eq_true rfl) (Nat.le_of_ble_eq_true rfl) ?_
  have w := w _ rfl
  refine X_dup (show decode cL_law 3 = .ok (.dup, 1) by decide +kernel) rfl ?_
  obtain ⟨s788, w⟩ := w
  refine X_iV (rc' := 16977) (rs' := 4217324) (as := []) mi_L_158 (show decode cL_law 4 = .ok (.invokespecial 158, 3) by decide +kernel) (by decide) (Nat.le_of_ble_eq_true rfl) (Nat.le_of_ble_eq_true rfl) rfl rfl (Nat.le_of_ble_eq_true rfl) s788 (kX9_init w) (fun h2 w => ?_)
  refine X_astore_n (ls' := [(0, .ref _), (1, .ref _)]) (show decode cL_law 7 = .ok (.astore_n 1, 1) by decide +kernel) rfl (by decide) rfl ?_
  refine X_new (rc' := 16976) (rs' := 4217297) nw_L_159 (show decode cL_law 8 = .ok (.new 159, 3) by decide +kernel) (Nat.le_of_ble_eq_true rfl) (Nat.le_of_ble_eq_true rfl) ?_
  have w := w _ rfl
  refine X_dup (show decode cL_law 11 = .ok (.dup, 1) by decide +kernel) rfl ?_
  obtain ⟨s787, w⟩ := w
  refine X_iV (rc' := 16964) (rs' := 4213774) (as := []) mi_L_161 (show decode cL_law 12 = .ok (.invokespecial 161, 3) by decide +kernel) (by decide) (Nat.le_of_ble_eq_true rfl) (Nat.le_of_ble_eq_true rfl) rfl rfl (Nat.le_of_ble_eq_true rfl) s787 (kX10_init w) (fun h5 w => ?_)
  refine X_astore_n (ls' := [(0, .ref _), (1, .ref _), (2, .ref _)]) (show decode cL_law 15 = .ok (.astore_n 2, 1) by decide +kernel) rfl (by decide) rfl ?_
  refine X_iconst (v := 1) (show decode cL_law 16 = .ok (.iconst 1, 1) by decide +kernel) (by decide) ?_
  refine X_newa (rc' := 16963) (rs' := 4213773) na_1 (by decide) (show decode cL_law 17 = .ok (.newarray .long, 2) by decide +kernel) (by decide) (by decide) (Nat.le_of_ble_eq_true rfl) (Nat.le_of_ble_eq_true rfl) (Nat.le_of_ble_eq_true rfl) ?_
  have w := w _ rfl
  refine X_astore_n (ls' := [(0, .ref _), (1, .ref _), (2, .ref _), (3, .ref _)]) (show decode cL_law 19 = .ok (.astore_n 3, 1) by decide +kernel) rfl (by decide) rfl ?_
  refine X_iconst (v := 1) (show decode cL_law 20 = .ok (.iconst 1, 1) by decide +kernel) (by decide) ?_
  refine X_newa (rc' := 16962) (rs' := 4213772) na_2 (by decide) (show decode cL_law 21 = .ok (.newarray .double, 2) by decide +kernel) (by decide) (by decide) (Nat.le_of_ble_eq_true rfl) (Nat.le_of_ble_eq_true rfl) (Nat.le_of_ble_eq_true rfl) ?_
  have w := w _ rfl
  refine X_astore (ls' := [(0, .ref _), (1, .ref _), (2, .ref _), (3, .ref _), (4, .ref _)]) (show decode cL_law 23 = .ok (.astore 4, 2) by decide +kernel) (by decide) rfl ?_
  refine X_iconst (v := 0) (show decode cL_law 25 = .ok (.iconst 0, 1) by decide +kernel) (by decide) ?_
  refine X_istore (ls' := [(0, .ref _), (1, .ref _), (2, .ref _), (3, .ref _), (4, .ref _), (5, .int _)]) (show decode cL_law 26 = .ok (.istore 5, 2) by decide +kernel) (by decide) rfl ?_
  obtain ⟨n786, hbn786, w⟩ := w
  refine X_room (rc' := n786 * 33 + 33) (rs' := n786 * 8198 + 8198) (by omega) (by omega) ?_
  exact kL_law_L28  n786 _ _ _ _ _ _ _ w
