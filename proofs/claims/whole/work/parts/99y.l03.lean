set_option maxRecDepth 100000 in
set_option maxHeartbeats 4000000 in
theorem xL_law {a0 : Nat} {h : AH} {K : Int32 → AH → Prop} (w : wL_law a0 h K) : X mL_law 20 (KI K) T0 17633 4224280 0 [(0, .ref a0)] [] h := by
  unfold wL_law at w
  refine X_new (rc' := 17632) (rs' := 4224268) nw_L_8 (show decode cL_law 0 = .ok (.new 8, 3) by decide +kernel) (Nat.le_of_ble_eq_true rfl) (Nat.le_of_ble_eq_true rfl) ?_
  have w := w _ rfl
  refine X_dup (show decode cL_law 3 = .ok (.dup, 1) by decide +kernel) rfl ?_
  obtain ⟨s822, w⟩ := w
  refine X_iV (rc' := 16977) (rs' := 4217324) (as := []) mi_L_158 (show decode cL_law 4 = .ok (.invokespecial 158, 3) by decide +kernel) (by decide) (Nat.le_of_ble_eq_true rfl) (Nat.le_of_ble_eq_true rfl) rfl rfl (Nat.le_of_ble_eq_true rfl) s822 (kX9_init w) (fun h2 w => ?_)
  refine X_astore_n (ls' := [(0, .ref _), (1, .ref _)]) (show decode cL_law 7 = .ok (.astore_n 1, 1) by decide +kernel) rfl (by decide) rfl ?_
  refine X_new (rc' := 16976) (rs' := 4217297) nw_L_159 (show decode cL_law 8 = .ok (.new 159, 3) by decide +kernel) (Nat.le_of_ble_eq_true rfl) (Nat.le_of_ble_eq_true rfl) ?_
  have w := w _ rfl
  refine X_dup (show decode cL_law 11 = .ok (.dup, 1) by decide +kernel) rfl ?_
  obtain ⟨s821, w⟩ := w
  refine X_iV (rc' := 16964) (rs' := 4213774) (as := []) mi_L_161 (show decode cL_law 12 = .ok (.invokespecial 161, 3) by decide +kernel) (by decide) (Nat.le_of_ble_eq_true rfl) (Nat.le_of_ble_eq_true rfl) rfl rfl (Nat.le_of_ble_eq_true rfl) s821 (kX10_init w) (fun h5 w => ?_)
  refine X_astore_n (ls' := [(0, .ref _), (1, .ref _), (2, .ref _)]) (show decode cL_law 15 = .ok (.astore_n 2, 1) by decide +kernel) rfl (by decide) rfl ?_
  refine X_iconst (v := (nI 1)) (show decode cL_law 16 = .ok (.iconst 1, 1) by decide +kernel) (by decide) ?_
  refine X_newa (N := 1) (rc' := 16963) (rs' := 4213773) na_1 (by decide) (show decode cL_law 17 = .ok (.newarray .long, 2) by decide +kernel) (by decide) (by decide) (Nat.le_of_ble_eq_true rfl) (Nat.le_of_ble_eq_true rfl) (Nat.le_of_ble_eq_true rfl) ?_
  have w := w _ rfl
  refine X_astore_n (ls' := [(0, .ref _), (1, .ref _), (2, .ref _), (3, .ref _)]) (show decode cL_law 19 = .ok (.astore_n 3, 1) by decide +kernel) rfl (by decide) rfl ?_
  refine X_iconst (v := (nI 1)) (show decode cL_law 20 = .ok (.iconst 1, 1) by decide +kernel) (by decide) ?_
  refine X_newa (N := 1) (rc' := 16962) (rs' := 4213772) na_2 (by decide) (show decode cL_law 21 = .ok (.newarray .double, 2) by decide +kernel) (by decide) (by decide) (Nat.le_of_ble_eq_true rfl) (Nat.le_of_ble_eq_true rfl) (Nat.le_of_ble_eq_true rfl) ?_
  have w := w _ rfl
  refine X_astore (ls' := [(0, .ref _), (1, .ref _), (2, .ref _), (3, .ref _), (4, .ref _)]) (show decode cL_law 23 = .ok (.astore 4, 2) by decide +kernel) (by decide) rfl ?_
  refine X_iconst (v := (nI 0)) (show decode cL_law 25 = .ok (.iconst 0, 1) by decide +kernel) (by decide) ?_
  refine X_istore (ls' := [(0, .ref _), (1, .ref _), (2, .ref _), (3, .ref _), (4, .ref _), (5, .int _)]) (show decode cL_law 26 = .ok (.istore 5, 2) by decide +kernel) (by decide) rfl ?_
  obtain ⟨n820, hbn820, w⟩ := w
  refine X_room (rc' := n820 * 33 + 33) (rs' := n820 * 8198 + 8198) (by omega) (by omega) ?_
  exact kL_law_L28  n820 _ _ _ _ _ _ _ w
