/-! ONE STEP OF THE LAW: what is asked behind a call -/
section STP
variable {h g : AH} {X X' : BG} {A : AG} {w L : Nat} {K : Int32 → AH → Prop} {C : Nat → Nat → Nat → Int32 → Int32 → Int32 → Int32 → AH → Prop} {S7 : Int64}
theorem e11 : nI 1 &&& nI 1 = nI 1 := by decide
theorem la_J816 (c : LC (L := L) w X h) {mk kk cm nn kd tm dl : Nat} (hkd : kd < 48) (ht : tm < 2 ^ 31) (hd : dl < 2 ^ 31) {x27 x30 : Int32} (fE : x30 = nI 0 → kd ≤ 45 → aD (bA X) = dl ∧ aM (bA X) = tm)
    (E : wL_law_J862 K C 63 64 606 (nI mk) (nI kk) (nI cm) (nI nn) S7 x27 (nI 1) (nI 1) h) : wL_law_J816 K C 63 64 606 (nI mk) (nI kk) (nI cm) (nI nn) S7 (nI kd) (nI tm) (lN dl) x27 x30 (nI 1) h := by
  have J857 : wL_law_J857 K C 63 64 606 (nI mk) (nI kk) (nI cm) (nI nn) S7 x27 (nI 1) h := by
    unfold wL_law_J857
    exact E
  unfold wL_law_J816 wL_law_J821
  rw [e11]
  refine ⟨fun _ => J857, fun z => ⟨fun _ => J857, fun z2 => ⟨c.r.o, c9_totalDelay c.r ?_⟩⟩⟩
  have hk : kd ≤ 45 := by
    rw [nI_ltI (by decide) (by omega)] at z2
    omega
  obtain ⟨e1, e2⟩ := fE z hk
  rw [e1]
  refine ⟨fun y => absurd ((lg_cmp_eq _ _).mpr rfl) y, fun _ => ⟨c.r.o, c9_time c.r ?_⟩⟩
  rw [e2]
  exact ⟨fun y => absurd rfl y, fun _ => J857⟩
theorem la_J734 (c : LC (L := L) w X h) {mk kk cm nn kd m tm dl : Nat} (hkd : kd < 48) (ht : tm < 2 ^ 31) (hd : dl < 2 ^ 31) {v x12 x15 x16 x23 x27 x30 : Int32} (fE : x30 = nI 0 → kd ≤ 45 → aD (bA X) = dl ∧ aM (bA X) = tm)
    (fD : ¬ x30 = nI 0 → x12 = nI 1 → (¬ nI m < x15 → fnd (bA X) v = none) ∧ (nI m < x15 → ∃ u ∈ aT (bA X), v = nI (tn u) ∧ tr u ≠ [] ∧ nI (rem (bA X) u) = x15 - nI m ∧ (x16 ≤ nI m ∨ nI (tb u) = x23)))
    (E : wL_law_J862 K C 63 64 606 (nI mk) (nI kk) (nI cm) (nI nn) S7 x27 (nI 1) (nI 1) h) : wL_law_J734 K C 63 64 606 (nI mk) (nI kk) (nI cm) (nI nn) S7 (nI kd) v x12 (nI m) x15 x16 (nI tm) (lN dl) x23 x27 x30 (nI 1) h := by
  have i := c.ip
  have bn := c.bn
  have J816 := la_J816 (C := C) c hkd ht hd fE E
  unfold wL_law_J734 wL_law_J739
  rw [e11]
  refine ⟨fun _ => J816, fun z => ⟨fun _ => J816, fun z12 => ?_⟩⟩
  obtain ⟨d1, d2⟩ := fD z z12
  refine ⟨fun q => ?_, fun q => ⟨c.r.o, c9_isPresent c.r i ?_⟩⟩
  · obtain ⟨u, hu, ev, hr, e1, e2⟩ := d2 q
    subst ev
    refine lw_hasRoute c.r i ?_
    rw [qT_at i bn hu, if_neg hr]
    refine ⟨fun y => absurd rfl y, fun _ => lw_minutesUntilArrival c.r i ?_⟩
    rw [qR_at i bn hu, if_neg hr, e1]
    refine ⟨fun y => absurd rfl y, fun _ => ⟨fun _ => J816, fun y => lw_blockOf c.r i ?_⟩⟩
    rw [qT_at i bn hu, e2.resolve_left y]
    exact ⟨fun y => absurd rfl y, fun _ => J816⟩
  · rw [d1 q]
    exact ⟨fun y => absurd rfl y, fun _ => J816⟩
theorem la_J629 (c : LC (L := L) w X h) {mk kk cm nn kd m ar tm dl wq tq : Nat} (hkd : kd < 48) (ht : tm < 2 ^ 30) (hd : dl < 2 ^ 30) (hm : m < 2 ^ 10) (hwq : wq < 2 ^ 10) {v r x12 x15 x16 x23 x27 : Int32} (h27 : isB x27)
    (fE : (x27 = nI 0 ∨ ¬ (31 ≤ kd ∧ kd ≤ 45)) → kd ≤ 45 → aD (bA X) = dl ∧ aM (bA X) = tm)
    (fD : x27 = nI 1 → 31 ≤ kd → kd ≤ 45 → x12 = nI 1 → (¬ nI m < x15 → fnd (bA X) v = none) ∧ (nI m < x15 → ∃ u ∈ aT (bA X), v = nI (tn u) ∧ tr u ≠ [] ∧ nI (rem (bA X) u) = x15 - nI m ∧ (x16 ≤ nI m ∨ nI (tb u) = x23)))
    (fC : x27 = nI 1 → 31 ≤ kd → kd ≤ 45 → aM (bA X) = tm + m ∧ nI (aO (bA X)) = nI ar + r ∧ nI (aT (bA X)).length = nI tq - r ∧ dl ≤ aD (bA X) ∧ aD (bA X) ≤ dl + wq * m)
    (E : wL_law_J862 K C 63 64 606 (nI mk) (nI kk) (nI cm) (nI nn) S7 x27 (nI 1) (nI 1) h) : wL_law_J629 K C 63 64 606 (nI mk) (nI kk) (nI cm) (nI nn) S7 (nI kd) v x12 (nI m) x15 x16 (nI ar) (nI tm) (lN dl) (nI wq) (nI tq) x23 r x27 (nI 1) h := by
  have i := c.ip
  have bn := c.bn
  have hD := bn.2.2
  have J660 : (x27 = nI 0 ∨ ¬ (31 ≤ kd ∧ kd ≤ 45)) → wL_law_J660 K C 63 64 606 (nI mk) (nI kk) (nI cm) (nI nn) S7 (nI kd) v x12 (nI m) x15 x16 (nI ar) (nI tm) (lN dl) (nI wq) (nI tq) x23 r x27 (nI 1) h := fun hz => by
    have J734 := la_J734 (C := C) (m := m) (v := v) (x12 := x12) (x15 := x15) (x16 := x16) (x23 := x23) c hkd (by omega) (by omega) (x30 := nI 0) (fun _ => fE hz) (fun y => absurd rfl y) E
    unfold wL_law_J660 wL_law_J661
    exact ⟨fun _ => J734, fun y => absurd rfl y⟩
  unfold wL_law_J629 wL_law_J634
  rw [e11]
  refine ⟨fun z => J660 (Or.inl z), fun z => ⟨fun q => J660 (Or.inr (by rw [nI_leI (by omega) (by decide)] at q; omega)), fun q => ⟨fun q2 => J660 (Or.inr (by rw [nI_leI (by decide) (by omega)] at q2; omega)), fun q2 => ?_⟩⟩⟩
  have z1 : x27 = nI 1 := h27.resolve_left z
  rw [nI_leI (by omega) (by decide)] at q
  rw [nI_leI (by decide) (by omega)] at q2
  have k1 : 31 ≤ kd := by omega
  have k2 : kd ≤ 45 := by omega
  have J734 := la_J734 (C := C) (m := m) (v := v) (x12 := x12) (x15 := x15) (x16 := x16) (x23 := x23) (tm := tm) (dl := dl) c hkd (by omega) (by omega) (x30 := nI 1) (fun y => absurd y (by decide)) (fun _ => fD z1 k1 k2) E
  obtain ⟨c1, c2, c3, c4, c5⟩ := fC z1 k1 k2
  have hwm : wq * m < 2 ^ 10 * 2 ^ 10 := Nat.mul_lt_mul'' hwq hm
  unfold wL_law_J661
  refine ⟨fun y => absurd y (by decide), fun _ => ⟨c.r.o, c9_time c.r ?_⟩⟩
  rw [c1, nI_add]
  refine ⟨fun y => absurd rfl y, fun _ => ⟨c.r.o, c9_arrived c.r ?_⟩⟩
  rw [c2]
  refine ⟨fun y => absurd rfl y, fun _ => ⟨c.r.o, c9_trains c.r ?_⟩⟩
  rw [c3]
  refine ⟨fun y => absurd rfl y, fun _ => ⟨c.r.o, c9_totalDelay c.r ⟨fun y => ?_, fun _ => ⟨c.r.o, c9_totalDelay c.r ?_⟩⟩⟩⟩
  · rw [show nI 0 = (0 : Int32) from rfl, lg_cmp_lt, lN_lt (by omega) (by omega)] at y
    omega
  rw [nI_l (by omega), nI_l (by omega), lN_mul, lN_add]
  refine ⟨fun y => ?_, fun _ => J734⟩
  rw [show nI 0 = (0 : Int32) from rfl, lg_cmp_gt, lN_lt (by omega) (by omega)] at y
  omega
theorem la_J565 (c : LC (L := L) w X h) {mk kk cm nn kd m ar tm dl wq tq : Nat} (hkd : kd < 48) (ht : tm < 2 ^ 30) (hd : dl < 2 ^ 30) (hm : m < 2 ^ 10) (hwq : wq < 2 ^ 10) {v r x12 x15 x16 x23 x27 : Int32} (h27 : isB x27)
    (fE : (x27 = nI 0 ∨ ¬ (31 ≤ kd ∧ kd ≤ 45)) → kd ≤ 45 → aD (bA X) = dl ∧ aM (bA X) = tm)
    (fD : x27 = nI 1 → 31 ≤ kd → kd ≤ 45 → x12 = nI 1 → (¬ nI m < x15 → fnd (bA X) v = none) ∧ (nI m < x15 → ∃ u ∈ aT (bA X), v = nI (tn u) ∧ tr u ≠ [] ∧ nI (rem (bA X) u) = x15 - nI m ∧ (x16 ≤ nI m ∨ nI (tb u) = x23)))
    (fC : x27 = nI 1 → 31 ≤ kd → kd ≤ 45 → aM (bA X) = tm + m ∧ nI (aO (bA X)) = nI ar + r ∧ nI (aT (bA X)).length = nI tq - r ∧ dl ≤ aD (bA X) ∧ aD (bA X) ≤ dl + wq * m)
    (fB : x27 = nI 1 → 28 ≤ kd → kd ≤ 30 → x12 = nI 1 ∧ r = nI wq + nI 1 ∧ ∃ u ∈ aT (bA X), v = nI (tn u) ∧ tr u = [] ∧ (aQ (bA X)).getD wq 0 = tn u ∧ wq < (aQ (bA X)).length)
    (E : wL_law_J862 K C 63 64 606 (nI mk) (nI kk) (nI cm) (nI nn) S7 x27 (nI 1) (nI 1) h) : wL_law_J565 K C 63 64 606 (nI mk) (nI kk) (nI cm) (nI nn) S7 (nI kd) v x12 (nI m) x15 x16 (nI ar) (nI tm) (lN dl) (nI wq) (nI tq) x23 r x27 (nI 1) h := by
  have i := c.ip
  have bn := c.bn
  have J629 := la_J629 (C := C) c hkd ht hd hm hwq h27 fE fD fC E
  unfold wL_law_J565 wL_law_J570
  rw [e11]
  refine ⟨fun _ => J629, fun z => ⟨fun _ => J629, fun q => ⟨fun _ => J629, fun q2 => ?_⟩⟩⟩
  rw [nI_ltI (by omega) (by decide)] at q
  rw [nI_ltI (by decide) (by omega)] at q2
  obtain ⟨b1, b2, u, hu, ev, hr, e1, e2⟩ := fB (h27.resolve_left z) (by omega) (by omega)
  refine ⟨fun y => absurd b1 y, fun _ => lw_hasRoute c.r i ?_⟩
  rw [ev, qT_at i bn hu, if_pos hr]
  refine ⟨fun y => absurd rfl y, fun _ => ⟨fun y => absurd b2 y, fun _ => lw_queued c.r i bn ?_⟩⟩
  rw [qQ_at e2 i.q8, e1]
  rw [ev] at J629
  exact ⟨fun y => absurd rfl y, fun _ => J629⟩
/-- what a call of setRoute must show -/
def fSet (X : BG) (v r x12 x13 x25 x27 : Int32) (wq : Nat) : Prop :=
  (x27 = nI 1 → x13 = nI 1 ∧ r = x25 ∧ ∃ u ∈ aT (bA X), v = nI (tn u) ∧ tr u ≠ [] ∧ can (bA X) u = false ∧ nI (rem (bA X) u) = x25 ∧ nI (aQ (bA X)).length = nI wq - nI 1) ∧
  (x27 = nI 0 → (r = -75 ∧ ¬ nI 0 ≤ x12) ∨ (r = -79 ∧ x12 = nI 1) ∨ (¬ r = -75 ∧ ¬ r = -79 ∧ x13 = nI 0 ∧ x12 = nI 0 ∧ (¬ nI 0 ≤ x25 → bY X = 110 ∧ bB X = none) ∧ (nI 0 ≤ x25 → ∃ b, bB X = some b ∧ b < gn (aL (bA X)) ∧ bY X = stc (bA X) b ∧ stc (bA X) b ≠ 102)))
theorem la_J393 (c : LC (L := L) w X h) {mk kk cm nn kd m ar tm dl wq tq : Nat} (hkd : kd < 48) (ht : tm < 2 ^ 30) (hd : dl < 2 ^ 30) (hm : m < 2 ^ 10) (hwq : wq < 2 ^ 10) {v r x12 x13 x15 x16 x23 x25 x27 y0 y1 : Int32} (h27 : isB x27) (hy : y0 + y1 = nI cm)
    (fE : (x27 = nI 0 ∨ ¬ (31 ≤ kd ∧ kd ≤ 45)) → kd ≤ 45 → aD (bA X) = dl ∧ aM (bA X) = tm)
    (fD : x27 = nI 1 → 31 ≤ kd → kd ≤ 45 → x12 = nI 1 → (¬ nI m < x15 → fnd (bA X) v = none) ∧ (nI m < x15 → ∃ u ∈ aT (bA X), v = nI (tn u) ∧ tr u ≠ [] ∧ nI (rem (bA X) u) = x15 - nI m ∧ (x16 ≤ nI m ∨ nI (tb u) = x23)))
    (fC : x27 = nI 1 → 31 ≤ kd → kd ≤ 45 → aM (bA X) = tm + m ∧ nI (aO (bA X)) = nI ar + r ∧ nI (aT (bA X)).length = nI tq - r ∧ dl ≤ aD (bA X) ∧ aD (bA X) ≤ dl + wq * m)
    (fB : x27 = nI 1 → 28 ≤ kd → kd ≤ 30 → x12 = nI 1 ∧ r = nI wq + nI 1 ∧ ∃ u ∈ aT (bA X), v = nI (tn u) ∧ tr u = [] ∧ (aQ (bA X)).getD wq 0 = tn u ∧ wq < (aQ (bA X)).length)
    (fA : 22 ≤ kd → kd ≤ 27 → fSet X v r x12 x13 x25 x27 wq)
    (E : wL_law_J862 K C 63 64 606 (nI mk) (nI kk) (nI cm) (nI nn) S7 x27 (nI 1) (nI 1) h) : wL_law_J393 K C 63 64 606 (nI mk) (nI kk) (nI nn) S7 (nI kd) v x12 x13 (nI m) x15 x16 (nI ar) (nI tm) (lN dl) (nI wq) (nI tq) x23 x25 r x27 (nI 1) y0 y1 h := by
  have i := c.ip
  have bn := c.bn
  have n12 := c.n12
  have J565 := la_J565 (C := C) c hkd ht hd hm hwq h27 fE fD fC fB E
  unfold wL_law_J393
  rw [hy]
  refine ⟨fun _ => J565, fun q => ⟨fun _ => J565, fun q2 => ?_⟩⟩
  rw [nI_ltI (by omega) (by decide)] at q
  rw [nI_ltI (by decide) (by omega)] at q2
  obtain ⟨a1, a2⟩ := fA (by omega) (by omega)
  refine ⟨fun z => ?_, fun z => ?_⟩
  · rcases a2 z with ⟨r1, r2⟩ | ⟨r1, r2⟩ | ⟨r1, r2, r3, r4, r5, r6⟩
    · exact ⟨fun y => absurd r1 y, fun _ => ⟨fun y => absurd y r2, fun _ => J565⟩⟩
    · refine ⟨fun _ => ⟨fun y => absurd r1 y, fun _ => ⟨fun y => absurd r2 y, fun _ => J565⟩⟩, fun y => ?_⟩
      rw [r1] at y
      exact absurd y (by decide)
    · refine ⟨fun _ => ⟨fun _ => ⟨fun y => absurd r3 y, fun _ => ⟨fun y => absurd r4 y, fun _ => ⟨fun y => ?_, fun y => ?_⟩⟩⟩, fun y => absurd y r2⟩, fun y => absurd y r1⟩
      · obtain ⟨b, b1, b2, b3, b4⟩ := r6 y
        have hs := stc_le (bA X) b
        have hyz : ¬ bY X = 0 := by omega
        refine lw_refusalReason c.r c.xb.1 ?_
        rw [if_neg hyz]
        refine lw_refusalBlock c.r c.xb.2.1 ?_
        rw [b1]
        show wL_blockState 64 (nI b) h _
        refine lw_blockState c.r i ?_
        rw [qSt_at n12 b2, b3]
        refine ⟨fun y => absurd rfl y, fun _ => lw_refusalReason c.r c.xb.1 ?_⟩
        rw [if_neg hyz, b3]
        refine ⟨fun y => ?_, fun _ => J565⟩
        have y : nI (stc (bA X) b) = nI 102 := y
        rw [nI_eq (by omega) (by decide)] at y
        exact absurd y b4
      · obtain ⟨b1, b2⟩ := r5 y
        refine lw_refusalReason c.r c.xb.1 ?_
        rw [b1]
        refine ⟨fun y => absurd rfl y, fun _ => lw_refusalBlock c.r c.xb.2.1 ?_⟩
        rw [b2]
        exact ⟨fun y => absurd rfl y, fun _ => J565⟩
  · obtain ⟨b1, b2, u, hu, ev, hr, hc, e1, e2⟩ := a1 (h27.resolve_left z)
    refine ⟨fun y => absurd b1 y, fun _ => ⟨fun y => absurd b2 y, fun _ => lw_hasRoute c.r i ?_⟩⟩
    rw [ev, qT_at i bn hu, if_neg hr]
    refine ⟨fun y => absurd rfl y, fun _ => lw_isClear c.r i ?_⟩
    rw [qT_at i bn hu, hc]
    refine ⟨fun y => absurd rfl y, fun _ => lw_minutesUntilArrival c.r i ?_⟩
    rw [qR_at i bn hu, if_neg hr, e1]
    refine ⟨fun y => absurd rfl y, fun _ => la_waiting c ?_⟩
    rw [e2]
    rw [ev] at J565
    exact ⟨fun y => absurd rfl y, fun _ => J565⟩
/-- what a call of addTrain must show -/
def fCom (X : BG) (r : Int32) (wq cm : Nat) : Prop := r = nI cm ∧ ∃ u ∈ aT (bA X), tn u = cm ∧ tr u = [] ∧ tl u = 0 ∧ (aQ (bA X)).getD wq 0 = cm ∧ wq < (aQ (bA X)).length
theorem la_J296 (c : LC (L := L) w X h) {mk kk cm cm' nn kd m ar tm dl wq tq : Nat} (hkd : kd < 48) (ht : tm < 2 ^ 30) (hd : dl < 2 ^ 30) (hm : m < 2 ^ 10) (hwq : wq < 2 ^ 10) {v r x12 x13 x15 x16 x23 x25 x27 : Int32} (h27 : isB x27)
    (fE : (x27 = nI 0 ∨ ¬ (31 ≤ kd ∧ kd ≤ 45)) → kd ≤ 45 → aD (bA X) = dl ∧ aM (bA X) = tm)
    (fD : x27 = nI 1 → 31 ≤ kd → kd ≤ 45 → x12 = nI 1 → (¬ nI m < x15 → fnd (bA X) v = none) ∧ (nI m < x15 → ∃ u ∈ aT (bA X), v = nI (tn u) ∧ tr u ≠ [] ∧ nI (rem (bA X) u) = x15 - nI m ∧ (x16 ≤ nI m ∨ nI (tb u) = x23)))
    (fC : x27 = nI 1 → 31 ≤ kd → kd ≤ 45 → aM (bA X) = tm + m ∧ nI (aO (bA X)) = nI ar + r ∧ nI (aT (bA X)).length = nI tq - r ∧ dl ≤ aD (bA X) ∧ aD (bA X) ≤ dl + wq * m)
    (fB : x27 = nI 1 → 28 ≤ kd → kd ≤ 30 → x12 = nI 1 ∧ r = nI wq + nI 1 ∧ ∃ u ∈ aT (bA X), v = nI (tn u) ∧ tr u = [] ∧ (aQ (bA X)).getD wq 0 = tn u ∧ wq < (aQ (bA X)).length)
    (fA : 22 ≤ kd → kd ≤ 27 → fSet X v r x12 x13 x25 x27 wq)
    (f0 : x27 = nI 1 → 14 ≤ kd → kd ≤ 21 → cm' = cm + 1 ∧ fCom X r wq cm) (f1 : (x27 = nI 0 ∨ ¬ (14 ≤ kd ∧ kd ≤ 21)) → cm' = cm)
    (E : wL_law_J862 K C 63 64 606 (nI mk) (nI kk) (nI cm') (nI nn) S7 x27 (nI 1) (nI 1) h) : wL_law_J296 K C 63 64 606 (nI mk) (nI kk) (nI cm) (nI nn) S7 (nI kd) v x12 x13 (nI m) x15 x16 (nI ar) (nI tm) (lN dl) (nI wq) (nI tq) x23 x25 r x27 h := by
  have i := c.ip
  have bn := c.bn
  have J374 : ∀ x28, isB x28 → (x28 = nI 0 → cm' = cm) → (x28 = nI 1 → cm' = cm + 1) → wL_law_J374 K C 63 64 606 (nI mk) (nI kk) (nI cm) (nI nn) S7 (nI kd) v x12 x13 (nI m) x15 x16 (nI ar) (nI tm) (lN dl) (nI wq) (nI tq) x23 x25 r x27 x28 h := by
    intro x28 hb q0 q1
    unfold wL_law_J374 wL_law_J379
    rcases hb with e | e
    · have := la_J393 (C := C) (v := v) (x12 := x12) (x13 := x13) (x15 := x15) (x16 := x16) (x23 := x23) (x25 := x25) (y0 := nI cm) (y1 := nI 0) c hkd ht hd hm hwq h27 (by rw [nI_add, q0 e]; rfl) fE fD fC fB fA E
      exact ⟨fun _ => this, fun y => absurd e y⟩
    · have := la_J393 (C := C) (v := v) (x12 := x12) (x13 := x13) (x15 := x15) (x16 := x16) (x23 := x23) (x25 := x25) (y0 := nI cm) (y1 := nI 1) c hkd ht hd hm hwq h27 (by rw [nI_add, q1 e]) fE fD fC fB fA E
      exact ⟨fun y => by rw [e] at y; exact absurd y (by decide), fun _ => this⟩
  have J321 : (x27 = nI 0 ∨ ¬ (14 ≤ kd ∧ kd ≤ 21)) → wL_law_J321 K C 63 64 606 (nI mk) (nI kk) (nI cm) (nI nn) S7 (nI kd) v x12 x13 (nI m) x15 x16 (nI ar) (nI tm) (lN dl) (nI wq) (nI tq) x23 x25 r x27 h := fun z => by
    unfold wL_law_J321 wL_law_J322
    exact ⟨fun _ => J374 (nI 0) (Or.inl rfl) (fun _ => f1 z) (fun y => absurd y (by decide)), fun y => absurd rfl y⟩
  unfold wL_law_J296
  refine ⟨fun z => J321 (Or.inl z), fun z => ⟨fun q => J321 (Or.inr (by rw [nI_leI (by omega) (by decide)] at q; omega)), fun q => ⟨fun q2 => J321 (Or.inr (by rw [nI_leI (by decide) (by omega)] at q2; omega)), fun q2 => ?_⟩⟩⟩
  rw [nI_leI (by omega) (by decide)] at q
  rw [nI_leI (by decide) (by omega)] at q2
  obtain ⟨m1, er, u, hu, e1, e2, e3, e4, e5⟩ := f0 (h27.resolve_left z) (by omega) (by omega)
  have J := J374 (nI 1) (Or.inr rfl) (fun y => absurd y (by decide)) (fun _ => m1)
  unfold wL_law_J322
  refine ⟨fun y => absurd y (by decide), fun _ => ⟨fun y => absurd er y, fun _ => ⟨c.r.o, c9_isPresent c.r i ?_⟩⟩⟩
  subst e1
  rw [er] at J ⊢
  rw [fnd_in i bn hu]
  refine ⟨fun y => absurd y (ps1 _), fun _ => lw_hasRoute c.r i ?_⟩
  rw [qT_at i bn hu, if_pos e2]
  refine ⟨fun y => absurd rfl y, fun _ => lw_queued c.r i bn ?_⟩
  rw [qQ_at e5 i.q8, e4]
  refine ⟨fun y => absurd rfl y, fun _ => lw_delay c.r i ?_⟩
  rw [qT_at i bn hu, e3]
  exact ⟨fun y => absurd rfl y, fun _ => J⟩
end STP
