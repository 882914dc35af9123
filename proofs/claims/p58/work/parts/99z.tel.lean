theorem va_X.tt {b L : Nat} {xs : Nat → Int32} {A : Nat → Prop} {U : State} {H : Heap} (h : va_X b L xs U H) (hb : ¬ A b) : va_T .int b L (fun j => .int (xs j)) A U H := by
  obtain ⟨scr, h1, h2, h3, h4, h5⟩ := h
  exact ⟨scr, h1, h2, h3, by omega, by rw [h4], h5, hb⟩
/-- the start's cells -/
theorem st_cells {s : State} {A : Nat → Prop} {b L : Nat} {xs : Nat → Int32} {ac sm dT dO k9 : Nat} {cm : Nat → Nat} {sq : Nat → Nat × Nat}
    (hs : ∀ i, i < 16 → va_O RJ0 (sq i).1 A s s.heap ∧ va_OF "java/lang/String" "coder" "B" (.int (nI 0)) (sq i).1 A s s.heap ∧ va_OF "java/lang/String" "value" "[B" (.ref (sq i).2) (sq i).1 A s s.heap ∧ va_T .byte (sq i).2 (sN i).length (fun j => .int (nI ((sN i).getD j 0))) A s s.heap)
    (hc : ∀ i, i < 11 → va_O RX1 (cm i) A s s.heap ∧ va_OF "InterlockingBox$Command" "form" "Ljava/lang/String;" (.ref (sq i).1) (cm i) A s s.heap ∧ va_OF "java/lang/Enum" "ordinal" "I" (.int (nI i)) (cm i) A s s.heap)
    (h1 : va_T (.object RX1) ac 11 (fun j => .ref (cm j)) A s s.heap) (h2 : va_T .int sm 11 (fun j => .int (nI (if j = 10 then 0 else j + 1))) A s s.heap) (h3 : va_T .byte dT 100 (fun j => .int (nI (48 + j / 10))) A s s.heap) (h4 : va_T .byte dO 100 (fun j => .int (nI (48 + j % 10))) A s s.heap)
    (h5 : va_T .int b L (fun j => .int (xs j)) A s s.heap) : ∀ k, k < nZ → sOk (zA ac sm dT dO k9 b cm sq) (zH xs L) A s s.heap k := by
  intro k hk
  have hk : k < 64 := hk
  by_cases k0 : k = 0
  · subst k0; exact sOk_n rfl
  by_cases k1 : k = 1
  · subst k1
    refine sOk_a (t := 7) z_S1 ?_
    show va_T (.object RX1) ac 11 _ A s s.heap
    refine h1.cg (fun j hj => ?_)
    show _ = ev _ _ 1 7 j
    unfold ev
    rw [if_neg (by decide), if_pos (by decide), z_R1 hj, cv_p (by omega), zA_c hj]
  by_cases k2 : k < 13
  · obtain ⟨i, hi, rfl⟩ : ∃ i, i < 11 ∧ k = 2 + i := ⟨k - 2, by omega, by omega⟩
    obtain ⟨c1, c2, c3⟩ := hc i hi
    exact sOk_c (z_S2 hi) (by rw [zA_c hi]; exact c1) (by rw [zA_c hi, z_R2 hi, cv_p (by omega), zA_s (by omega)]; exact c2) (by rw [zA_c hi, z_I2 hi]; exact c3)
  by_cases k3 : k = 13
  · subst k3
    exact sOk_a (t := 0) z_S13 (h2.cg (fun j _ => rfl))
  by_cases k4 : k = 14
  · subst k4
    exact sOk_a (t := 3) z_S14 (h3.cg (fun j _ => rfl))
  by_cases k5 : k = 15
  · subst k5
    exact sOk_a (t := 3) z_S15 (h4.cg (fun j _ => rfl))
  by_cases k6 : k < 48
  · by_cases k7 : k % 2 = 0
    · obtain ⟨i, hi, rfl⟩ : ∃ i, i < 16 ∧ k = 16 + 2 * i := ⟨(k - 16) / 2, by omega, by omega⟩
      obtain ⟨c1, c2, c3, -⟩ := hs i hi
      exact sOk_s (z_Ss hi) (by rw [zA_s hi]; exact c1) (by rw [zA_s hi, z_Rs hi, cv_p (by omega), zA_v hi]; exact c3) (by rw [zA_s hi, z_Is hi]; exact c2)
    · obtain ⟨i, hi, rfl⟩ : ∃ i, i < 16 ∧ k = 17 + 2 * i := ⟨(k - 17) / 2, by omega, by omega⟩
      obtain ⟨-, -, -, c4⟩ := hs i hi
      refine sOk_a (t := 3) (z_Sv hi) ?_
      rw [zA_v hi]
      refine c4.cg (fun j _ => ?_)
      show _ = Value.int (mI _ _ j)
      rw [z_Iv hi]
  by_cases k8 : k < 63
  · exact sOk_n (by show zS L k = _; unfold zS; rw [if_neg (by omega), if_neg (by omega), if_neg (by omega), if_neg (by omega), if_neg (by omega), if_neg (by omega)])
  · obtain rfl : k = 63 := by omega
    exact sOk_a (t := 0) z_S63 (h5.cg (fun j _ => rfl))
set_option maxHeartbeats 1000000 in
/-- THE START -/
theorem st_R {args : Array Value} {s : State} {b L : Nat} {xs : Nat → Int32} (hT : ∀ w ∈ lw_tbl, w.before args s = true) (hF : ∀ q ∈ pFL, q.before args s = true) (hX : va_X b L xs s s.heap) (hb : b < s.heap.size) :
    ∃ (D : va_G) (tc : Nat → ClassId) (ad : Nat → Nat), ad 63 = b ∧ Rel D tc (fun q => s.heap.size ≤ q) ad (zH xs L) s s.heap [] := by
  have hA : ∀ a : Nat, a < s.heap.size → ¬ (fun q : Nat => s.heap.size ≤ q) a := fun a h => Nat.not_le.mpr h
  have hA2 : ∀ q : Nat, s.heap.size ≤ q → (fun q : Nat => s.heap.size ≤ q) q := fun q h => h
  generalize (fun q : Nat => s.heap.size ≤ q) = A at hA hA2 ⊢
  obtain ⟨D, tc, hK⟩ := st_K hT
  obtain ⟨sq, hsq⟩ := st_S hF hA
  obtain ⟨cm, hcm⟩ := st_C hF hA (fun i hi => (hsq i hi).1)
  obtain ⟨ac, eac, tac⟩ := va_Tof (f := fun j => .ref (cm j)) (N := 11) (A := A) (by decide) (hF _ pA_ar) (va_eqt (hF _ pA_le)) (fun j hj => eqR (hF _ (pA_el j hj)) (hcm j hj).1) hA
  obtain ⟨sm, esm, tsm⟩ := va_Tof (f := fun j => .int (nI (if j = 10 then 0 else j + 1))) (N := 11) (A := A) (by decide) (hF _ pS_ar) (va_eqt (hF _ pS_le)) (fun j hj => va_eqt (hF _ (pS_el j hj))) hA
  obtain ⟨dT, edT, tdT⟩ := va_Tof (f := fun j => .int (nI (48 + j / 10))) (N := 100) (A := A) (by decide) (hF _ pT_ar) (va_eqt (hF _ pT_le)) (fun j hj => va_eqt (hF _ (pT_el j hj))) hA
  obtain ⟨dO, edO, tdO⟩ := va_Tof (f := fun j => .int (nI (48 + j % 10))) (N := 100) (A := A) (by decide) (hF _ pO_ar) (va_eqt (hF _ pO_le)) (fun j hj => va_eqt (hF _ (pO_el j hj))) hA
  have zl : ∀ (i : Nat) (q : String × String × String), sst[i]? = some q → (Cond.laysStatic q.1 q.2.1 q.2.2).before args s = true ∧ (Cond.initialized q.1).before args s = true := fun i q hq => ⟨hT _ (pz_l q (List.mem_of_getElem? hq)), hT _ (pz_i q (List.mem_of_getElem? hq))⟩
  obtain ⟨k9, h9⟩ : ∃ k9 : Nat, va_Z "jdk/internal/util/Preconditions" "SIOOBE_FORMATTER" "Ljava/util/function/BiFunction;" .null A s s.heap ∨ va_Z "jdk/internal/util/Preconditions" "SIOOBE_FORMATTER" "Ljava/util/function/BiFunction;" (.ref k9) A s s.heap := by
    rcases va_Zqof (zl 6 _ rfl).1 (zl 6 _ rfl).2 (hF _ pSI) hA with h | ⟨t, h⟩
    · exact ⟨0, Or.inl h⟩
    · exact ⟨t, Or.inr h⟩
  refine ⟨D, tc, zA ac sm dT dO k9 b cm sq, rfl, hK, ?_, ?_, va_S.rf, ?_, hA2, z_wf⟩
  · have e : dyn tc (zA ac sm dT dO k9 b cm sq) (zH xs L) = [] := rfl
    rw [e]
    exact fun k q h => by simp at h
  · have e : dyn tc (zA ac sm dT dO k9 b cm sq) (zH xs L) = [] := rfl
    rw [e]
    exact ⟨fun i j p q h => by simp at h, fun k q h => by simp at h⟩
  refine ⟨st_cells (fun i hi => (hsq i hi).2) (fun i hi => (hcm i hi).2) tac tsm tdT tdO (hX.tt (hA b hb)), vx_Zqof (zl 7 _ rfl).1 (zl 7 _ rfl).2 (hF _ pUS) hA, vx_Zqof (zl 8 _ rfl).1 (zl 8 _ rfl).2 (hF _ pSS) hA, ?_, ?_, ?_, fun q hq => va_Nw.of rfl (hT _ (pn_f q hq)), fun q hq => va_Nw.of rfl (hT _ (pn_m q hq)), fun q hq => va_Nw.of rfl (hT _ (pn_c q hq)), fun C hC => va_AO.of (hT _ (pn_o C hC)), fun q hq => va_Nc.of (hF _ (pn_n q hq)), fun y hy => va_Nw.of rfl (hT _ (pn_d y hy)), ?_, ?_⟩
  · simp only [zsl, List.forall_mem_cons]
    refine ⟨?_, ?_, ?_, ?_, ?_, ?_, fun _ h => absurd h List.not_mem_nil⟩
    · show va_Z _ _ _ (.ref ac) A s s.heap
      exact va_Zref (zl 0 _ rfl).1 (zl 0 _ rfl).2 eac hA
    · show va_Z _ _ _ (.ref sm) A s s.heap
      exact va_Zref (zl 1 _ rfl).1 (zl 1 _ rfl).2 esm hA
    · show va_Z _ _ _ (.ref (cm 9)) A s s.heap
      exact va_Zref (zl 2 _ rfl).1 (zl 2 _ rfl).2 (hcm 9 (by decide)).1 hA
    · show va_Z _ _ _ (.int 1) A s s.heap
      exact va_Zof (zl 3 _ rfl).1 (zl 3 _ rfl).2 (va_eqi (hF _ pCS)) hA
    · show va_Z _ _ _ (.ref dT) A s s.heap
      exact va_Zref (zl 4 _ rfl).1 (zl 4 _ rfl).2 edT hA
    · show va_Z _ _ _ (.ref dO) A s s.heap
      exact va_Zref (zl 5 _ rfl).1 (zl 5 _ rfl).2 edO hA
  · have key : ∀ q ∈ stl, ∃ i, i < 16 ∧ q.2.2.2 = 16 + 2 * i ∧ (Term.string q.1 q.2.1).eval args s none [] s = (sT i).eval args s none [] s := by
      simp only [stl, List.forall_mem_cons]
      exact ⟨⟨11, by decide, rfl, rfl⟩, ⟨12, by decide, rfl, rfl⟩, ⟨13, by decide, rfl, rfl⟩, ⟨14, by decide, rfl, rfl⟩, ⟨15, by decide, rfl, rfl⟩, fun _ h => absurd h List.not_mem_nil⟩
    intro q hq
    obtain ⟨i, hi, e1, e2⟩ := key q hq
    rw [e1, zA_s hi]
    exact vk_R.of (hT _ (pl_st q hq)) (e2.trans (hsq i hi).1)
  · intro q hq
    obtain ⟨a, ha⟩ := zxR (hF _ (pm_ex q hq))
    exact ⟨a, vk_R.of (hT _ (pm_st q hq)) ha⟩
  · obtain ⟨comp, c, k, e1, e2, e3, e4⟩ := ax_AOA (hT _ pn_a)
    exact ⟨comp, c, k, e1, e2, e3, e4⟩
  · rcases h9 with h | h
    · exact ⟨0, Or.inl rfl, h⟩
    · exact ⟨62, Or.inr rfl, h⟩
