/-! THE CONSTRUCTORS: the model; THE LAW ENDS WITH 1 -/
section MCO
variable {h0 h g : AH} {X : BG} {L : Nat} {S : Nat → Int32} {K : Int32 → AH → Prop}
def X_0 : BG := (A_0, [], none, [], [], 0, none, none, none)
theorem RMb.sm (q : RMb h X) (e : ∀ a, 606 ≤ a → a < 619 → sa h g a) : RMb g X := by
  obtain ⟨s, q1, q2, q3, q4, q5, q6⟩ := q
  have i : ∀ a, 606 ≤ a → a < 619 → mI g a = mI h a := fun a h1 h2 => (e a h1 h2).2.1
  refine ⟨?_, by rw [i 607 (by omega) (by omega)]; exact q1, ?_, ?_, ?_, ?_, ?_⟩
  · unfold sM
    rw [(e 606 (by omega) (by omega)).1, (e 606 (by omega) (by omega)).2.2.1, (e 607 (by omega) (by omega)).1, (e 608 (by omega) (by omega)).1, (e 609 (by omega) (by omega)).1, (e 610 (by omega) (by omega)).1, (e 611 (by omega) (by omega)).1, (e 612 (by omega) (by omega)).1, (e 613 (by omega) (by omega)).1, (e 614 (by omega) (by omega)).1, (e 615 (by omega) (by omega)).1, (e 616 (by omega) (by omega)).1, (e 617 (by omega) (by omega)).1, (e 618 (by omega) (by omega)).1]
    exact s
  · unfold hsM; rw [i 606 (by omega) (by omega), i 610 (by omega) (by omega)]; exact q2
  · unfold svM at q3 ⊢; rw [i 606 (by omega) (by omega), i 609 (by omega) (by omega)]; exact q3
  · unfold bfM; rw [i 606 (by omega) (by omega), i 611 (by omega) (by omega)]; exact q4
  · unfold otM; rw [i 606 (by omega) (by omega), i 613 (by omega) (by omega)]; exact q5
  · unfold rcM; rw [i 606 (by omega) (by omega)]; exact q6
theorem rm_0 {f : Nat → Int32} (z : ∀ k, f k = nI 0) : rm f A_0 := by
  refine ⟨⟨z 0, z 1, z 2, z 3, z 4, z 5, z 6, z 7, z 8⟩, fun b hb => ⟨fun hb2 => absurd hb2 (Nat.not_lt_zero b), ?_, ?_, ?_⟩, fun p hp => ⟨fun s hs => (by cases hs), fun _ => z _⟩, fun i hi => ⟨fun t ht => (by cases ht), fun _ => ⟨z _, z _, z _⟩⟩, ⟨fun b hb => ⟨z _, z _⟩, fun p hp => z _⟩, fun i q hq => (by cases hq)⟩
  · have : bitE (gh (aL A_0)) b = 0 := by
      unfold bitE
      rw [if_neg]
      show ¬ (0 : Nat).testBit b = true
      rw [Nat.zero_testBit]
      decide
    rw [this]; exact z _
  · have : lkE (aL A_0) b = 0 := by
      unfold lkE
      rw [if_neg (fun u => absurd u.1 (Nat.not_lt_zero b))]
    rw [this]; exact z _
  · have : stE (aL A_0) b = 0 := by
      have hn : ¬ b ∈ gp (aL A_0) := fun u => absurd (show b ∈ ([] : List Nat) from u) List.not_mem_nil
      unfold stE
      rw [if_neg hn]
    rw [this]; exact z _
theorem c_model {h2 h4 : AH} (hN : mN h2 = 606) (e4 : h4 = nw h2 8 0) {K : AH → Prop} (kk : ∀ g, mN g = 619 → (∀ a, a < 606 → sa h2 g a) → RMb g X_0 → K g) : wX10_init 606 h4 K := by
  have R0 : Rg h4 h4 606 1 (fun _ => (8, 0)) (fun _ _ => 0) := Rg.st (by rw [e4, mN_nw, hN]) (by rw [e4, mS_nw, if_pos hN.symm]) ⟨fun j => by rw [e4, mI_nw, if_pos hN.symm], fun j => by rw [e4, mR_nw, if_pos hN.symm], fun j => by rw [e4, mL_nw, if_pos hN.symm]⟩
  have t4 : ∀ a, a < 606 → sa h2 h4 a := fun a ha => by rw [e4]; exact sa.nw (by omega)
  unfold wX10_init
  refine ⟨by decide, fun x2 e2 => ?_⟩
  have R2 := R0.al e2
  refine ⟨R2.s (o := 0) (by decide), fun x4 d4 x5 d5 => ?_⟩
  rw [R0.1] at d4
  have R4 := R2.ur (o := 0) (v := 1) (by decide) d4
  have R5 := R4.al d5
  refine ⟨R5.s (o := 0) (by decide), fun x7 d7 x8 d8 => ?_⟩
  rw [R4.1] at d7
  have R7 := R5.ur (o := 0) (v := 2) (by decide) d7
  have R8 := R7.al d8
  refine ⟨R8.s (o := 0) (by decide), fun x10 d10 x11 d11 => ?_⟩
  rw [R7.1] at d10
  have R10 := R8.ur (o := 0) (v := 3) (by decide) d10
  have R11 := R10.al d11
  refine ⟨R11.s (o := 0) (by decide), fun x13 d13 x14 d14 => ?_⟩
  rw [R10.1] at d13
  have R13 := R11.ur (o := 0) (v := 4) (by decide) d13
  have R14 := R13.al d14
  refine ⟨R14.s (o := 0) (by decide), fun x16 d16 x17 d17 => ?_⟩
  rw [R13.1] at d16
  have R16 := R14.ur (o := 0) (v := 5) (by decide) d16
  have R17 := R16.al d17
  refine ⟨R17.s (o := 0) (by decide), fun x19 d19 x20 d20 => ?_⟩
  rw [R16.1] at d19
  have R19 := R17.ur (o := 0) (v := 6) (by decide) d19
  have R20 := R19.al d20
  refine ⟨R20.s (o := 0) (by decide), fun x22 d22 x23 d23 => ?_⟩
  rw [R19.1] at d22
  have R22 := R20.ur (o := 0) (v := 7) (by decide) d22
  have R23 := R22.al d23
  refine ⟨R23.s (o := 0) (by decide), fun x25 d25 x26 d26 => ?_⟩
  rw [R22.1] at d25
  have R25 := R23.ur (o := 0) (v := 8) (by decide) d25
  have R26 := R25.al d26
  refine ⟨R26.s (o := 0) (by decide), fun x28 d28 x29 d29 => ?_⟩
  rw [R25.1] at d28
  have R28 := R26.ur (o := 0) (v := 9) (by decide) d28
  have R29 := R28.al d29
  refine ⟨R29.s (o := 0) (by decide), fun x31 d31 x32 d32 => ?_⟩
  rw [R28.1] at d31
  have R31 := R29.ur (o := 0) (v := 10) (by decide) d31
  have R32 := R31.al d32
  refine ⟨R32.s (o := 0) (by decide), fun x34 d34 x35 d35 => ?_⟩
  rw [R31.1] at d34
  have R34 := R32.ur (o := 0) (v := 11) (by decide) d34
  have R35 := R34.al d35
  refine ⟨R35.s (o := 0) (by decide), fun x37 d37 x38 d38 x39 d39 x40 d40 => ?_⟩
  rw [R34.1] at d37
  have R37 := R35.ur (o := 0) (v := 12) (by decide) d37
  have T : ∀ a, a ≠ 606 → sa x37 x40 a := fun a ha => by
    have u1 : sa x37 x38 a := by rw [d38]; exact sa.ui ha
    have u2 : sa x38 x39 a := by rw [d39]; exact sa.ui ha
    have u3 : sa x39 x40 a := by rw [d40]; exact sa.ui ha
    exact u1.tr (u2.tr u3)
  have mS40 : mS x40 = mS x37 := by rw [d40, d39, d38]; rfl
  have mR40 : mR x40 = mR x37 := by rw [d40, d39, d38]; rfl
  have i0 : ∀ j, j ≠ 17 → j ≠ 18 → j ≠ 22 → mI x40 606 j = nI 0 := fun j h1 h2 h3 => by
    rw [d40, mI_uI, if_neg (fun u => h3 u.2), d39, mI_uI, if_neg (fun u => h2 u.2), d38, mI_uI, if_neg (fun u => h1 u.2)]
    exact R37.i (o := 0) (by decide) j
  have i17 : mI x40 606 17 = -1 := by rw [d40, mI_uI, if_neg (by decide), d39, mI_uI, if_neg (by decide), d38, mI_uI, if_pos ⟨rfl, rfl⟩]
  have i18 : mI x40 606 18 = -1 := by rw [d40, mI_uI, if_neg (by decide), d39, mI_uI, if_pos ⟨rfl, rfl⟩]
  have i22 : mI x40 606 22 = -1 := by rw [d40, mI_uI, if_pos ⟨rfl, rfl⟩]
  refine kk x40 (by rw [d40, d39, d38]; exact R37.1) (fun a ha => (t4 a ha).tr ((R37.2.1 a ha).tr (T a (by omega)))) ⟨?_, rm_0 (fun k => by rw [(T 607 (by decide)).2.1]; exact R37.i (o := 1) (by decide) k), ⟨i0 5 (by decide) (by decide) (by decide), Nat.zero_le _, fun i B hB => (by cases hB)⟩, i0 6 (by decide) (by decide) (by decide), ⟨i0 15 (by decide) (by decide) (by decide), fun i c hc => (by cases hc)⟩, ⟨i0 16 (by decide) (by decide) (by decide), fun i c hc => (by cases hc)⟩, i0 21 (by decide) (by decide) (by decide), i22, i17, i18⟩
  unfold sM
  rw [mS40, mR40]
  exact ⟨R37.s (o := 0) (by decide), ⟨R37.r (o := 0) (by decide) (by decide) rfl, R37.r (o := 0) (by decide) (by decide) rfl, R37.r (o := 0) (by decide) (by decide) rfl, R37.r (o := 0) (by decide) (by decide) rfl, R37.r (o := 0) (by decide) (by decide) rfl, R37.r (o := 0) (by decide) (by decide) rfl, R37.r (o := 0) (by decide) (by decide) rfl, R37.r (o := 0) (by decide) (by decide) rfl, R37.r (o := 0) (by decide) (by decide) rfl, R37.r (o := 0) (by decide) (by decide) rfl, R37.r (o := 0) (by decide) (by decide) rfl, R37.r (o := 0) (by decide) (by decide) rfl⟩, R37.s (o := 1) (by decide), R37.s (o := 2) (by decide), R37.s (o := 3) (by decide), R37.s (o := 4) (by decide), R37.s (o := 5) (by decide), R37.s (o := 6) (by decide), R37.s (o := 7) (by decide), R37.s (o := 8) (by decide), R37.s (o := 9) (by decide), R37.s (o := 10) (by decide), R37.s (o := 11) (by decide), R37.s (o := 12) (by decide)⟩
theorem ip_0 : IP A_0 ∧ BW 0 A_0 := by
  refine ⟨⟨Nat.zero_le _, fun t ht => absurd ht List.not_mem_nil, List.Pairwise.nil, List.nodup_nil, fun q => ⟨fun hq => absurd hq List.not_mem_nil, fun ⟨t, ht, _⟩ => absurd ht List.not_mem_nil⟩, rfl, Nat.le_refl 0⟩, Nat.le_refl 0, Nat.le_refl 0, Nat.le_refl 0⟩
theorem law_1 (hN : mN h0 = 64) (t : stA S L h0) (hL : L ≤ 2048) (k1 : ∀ g, K (nI 1) g) : wL_law 63 h0 K := by
  have s11 : mS h0 11 = (21, 0) := (t.1.2.1 9 (by decide)).2.1
  unfold wL_law
  intro h1 e1
  rw [hN]
  refine ⟨by decide, c_box hN s11 e1 (fun g B f => fun h4 e4 => ?_)⟩
  rw [B.1]
  refine ⟨by decide, c_model B.1 e4 (fun g5 n5 f5 q5 h7 e7 h8 e8 => ⟨513, by decide, ?_⟩)⟩
  have n7 : mN h7 = 620 := by rw [e7, mN_nw, n5]
  rw [n5, n7]
  have u7 : ∀ a, a < 619 → sa g5 h7 a := fun a ha => by rw [e7]; exact sa.nw (by omega)
  have u8 : ∀ a, a < 620 → sa h7 h8 a := fun a ha => by rw [e8]; exact sa.nw (by omega)
  have lo : ∀ a, a < 606 → sa g h8 a := fun a ha => (f5 a ha).tr ((u7 a (by omega)).tr (u8 a (by omega)))
  have n8 : mN h8 = 621 := by rw [e8, mN_nw, n7]
  obtain ⟨b1, b2, b3, b4, b5, b6, b7, ⟨b8, b9, b10, b11, b12⟩, b13⟩ := B
  have c604 := lo 604 (by decide)
  have c605 := lo 605 (by decide)
  have l605 : ln h8 605 = 16 := congrArg Prod.snd (c605.1.trans b9)
  have R : RBp h8 0 X_0 := by
    refine ⟨b2.sm (fun q hq => lo q (by omega)), b3.sm (fun q hq => lo q (by omega)), b4.sm (fun q h1 h2 => lo q (by omega)), b5.sm (fun q hq => lo q (by omega)), b6.sm (fun q hq => lo q (by omega)), b7.sm (fun q hq => lo q (by omega)), ?_, b13.sm (lo 64 (by decide)).2.1⟩
    unfold sbO
    rw [c604.2.2.1, b8, l605, c604.2.1, b10, b11]
    exact ⟨congrArg Prod.fst (c605.1.trans b9), Or.inl rfl, ⟨by omega, by omega⟩, Nat.zero_le _, Or.inl rfl, rfl, rfl, fun i c hc => (by cases hc), fun i => ⟨0, by decide, by rw [c605.2.1]; exact b12 i⟩⟩
  have I : LI (12 * 0) X_0 S L h8 := ⟨⟨0, R⟩, q5.sm (fun a h1 h2 => (u7 a h2).tr (u8 a (by omega))), ⟨ip_0, fun B hB => absurd hB List.not_mem_nil, fun B hB => (by cases hB)⟩, ⟨by decide, fun b hb => (by cases hb), fun b hb => (by cases hb), fun b hb => (by cases hb), Nat.zero_le _⟩, t.sm (fun b hb => (f b hb).tr (lo b (by omega))), ?_, ?_⟩
  · exact law_loop hL k1 512 0 X_0 h8 (by decide) (by omega) I
  · rw [(u8 619 (by decide)).1, e7, mS_nw, if_pos n5.symm]
  · rw [e8, mS_nw, if_pos n7.symm]
end MCO
