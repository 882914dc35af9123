/-! THE START OF THE LAW -/
section ONE
variable {h0 : AH} {L : Nat} {K : Int32 → AH → Prop}
def X_0 : BG := (A_0, [], none, [], [], 0, none, none, none)
theorem ip_0 : IP A_0 ∧ BW 0 A_0 := by
  refine ⟨⟨Nat.zero_le _, fun t ht => absurd ht List.not_mem_nil, List.Pairwise.nil, List.nodup_nil, fun q => ⟨fun hq => absurd hq List.not_mem_nil, fun ⟨t, ht, _⟩ => absurd ht List.not_mem_nil⟩, rfl, Nat.le_refl 0⟩, Nat.le_refl 0, Nat.le_refl 0, Nat.le_refl 0⟩
theorem law_1 (hN : mN h0 = 64) (tF : stF h0) (tD : stD h0) (tW : stW h0) (s63 : mS h0 63 = (100, L)) (hL : L ≤ 260) (k1 : ∀ g, K (nI 1) g) : wL_law 63 h0 K := by
  have s11 : mS h0 11 = (21, 0) := (tF.2.1 9 (by decide)).2.1
  unfold wL_law
  intro h1 e1
  rw [hN]
  refine ⟨by decide, c_box hN s11 e1 (fun g B f => fun h4 e4 => ?_)⟩
  rw [B.1]
  have n4 : mN h4 = 607 := by rw [e4, mN_nw, B.1]
  have lo : ∀ a, a < 606 → sa g h4 a := fun a ha => by rw [e4]; exact sa.nw (by rw [B.1]; omega)
  have s6 : mS h4 606 = (101, 70) := by rw [e4, mS_nw, if_pos B.1.symm]
  obtain ⟨b1, b2, b3, b4, b5, b6, b7, ⟨b8, b9, b10, b11, b12⟩, b13⟩ := B
  have c604 := lo 604 (by decide)
  have c605 := lo 605 (by decide)
  have l605 : ln h4 605 = 16 := congrArg Prod.snd (c605.1.trans b9)
  have R : RBp h4 0 X_0 := by
    refine ⟨b2.sm (fun q hq => lo q (by omega)), b3.sm (fun q hq => lo q (by omega)), b4.sm (fun q h1 h2 => lo q (by omega)), b5.sm (fun q hq => lo q (by omega)), b6.sm (fun q hq => lo q (by omega)), b7.sm (fun q hq => lo q (by omega)), ?_, b13.sm (lo 64 (by decide)).2.1⟩
    unfold sbO
    rw [c604.2.2.1, b8, l605, c604.2.1, b10, b11]
    exact ⟨congrArg Prod.fst (c605.1.trans b9), Or.inl rfl, ⟨by omega, by omega⟩, Nat.zero_le _, Or.inl rfl, rfl, rfl, fun i c hc => (by cases hc), fun i => ⟨0, by decide, by rw [c605.2.1]; exact b12 i⟩⟩
  have e : ∀ b, b < 64 → sa h0 h4 b := fun b hb => (f b hb).tr (lo b (by omega))
  have c : LC (L := L) 0 X_0 h4 := ⟨⟨0, R⟩, ⟨ip_0, fun B hB => absurd hB List.not_mem_nil, fun B hB => (by cases hB)⟩, ⟨by decide, fun b hb => (by cases hb), fun b hb => (by cases hb), fun b hb => (by cases hb), Nat.zero_le _⟩, tF.sm e, tD.sm e, by decide, by rw [(e 63 (by decide)).1]; exact s63, hL⟩
  refine la_sum c ⟨congrArg Prod.fst s6, by decide, ?_, fun h10 e10 => ⟨55, 55, Nat.le_refl _, ?_⟩⟩
  · rw [show ln h4 606 = 70 from congrArg Prod.snd s6]
    exact vp_in_nI (by decide) (by decide)
  · rw [nI_clamp (by decide)] at e10
    rw [e10]
    exact la_law_l k1 54 0 55 0 0 X_0 [] _ rfl (Nat.le_refl _) c.ul6 ((tW.sm e).sm (fun d hd => sa.ul6 (by omega))) rfl (by decide) (Nat.le_refl 0) (Nat.le_refl 0) ⟨rfl, rfl, s6, fun i B hB => by
      cases i with
      | zero =>
        have hB : some (bA X_0) = some B := hB
        cases hB
        rw [mL_uL, if_pos ⟨rfl, rfl⟩]
      | succ i => cases hB⟩
end ONE
