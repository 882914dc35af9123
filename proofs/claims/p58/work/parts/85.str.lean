/-! TEXTS THAT THE LAW MAKES -/
section STR
variable {h g g2 : AH} {X : BG} {w L z a b n m : Nat} {K : Int32 → AH → Prop}
def strA (h : AH) (a : Nat) (l : List Nat) : Prop := mS h a = (20, 0) ∧ mR h a 0 = a + 1 ∧ mI h a 1 = nI 0 ∧ mS h (a + 1) = (103, l.length) ∧ ∀ i c, l[i]? = some c → mI h (a + 1) i = nI c
def wds : List (Nat × List Nat) := [(38, [119, 97, 105, 116, 32]), (40, [59, 115, 101, 116, 32]), (42, [59, 102, 114, 101, 101, 32]), (44, [59, 115, 104, 117, 116, 32]), (46, [59])]
def stW (h : AH) : Prop := ∀ q ∈ wds, strA h q.1 q.2
theorem strA.sm {a : Nat} {l : List Nat} (t : strA h a l) (e : ∀ b, b < 64 → sa h g b) (ha : a + 1 < 64) : strA g a l := by
  unfold strA
  rw [(e a (by omega)).1, (e a (by omega)).2.1, (e a (by omega)).2.2.1, (e (a + 1) ha).1, (e (a + 1) ha).2.1]
  exact t
theorem stW.sm (t : stW h) (e : ∀ b, b < 64 → sa h g b) : stW g := fun q hq => (t q hq).sm e (by
  have : q.1 < 62 := (show ∀ q ∈ wds, q.1 < 62 by decide) q hq
  omega)
theorem stW.fcl (t : stW h) (f : fcl h g) : stW g := t.sm (fun b hb => f.2.2 b (Or.inl hb))
/-- a sign of the law's texts -/
def okc (c : Nat) : Prop := c < 128 ∧ c ≠ 110
def bOk (h : AH) (v n : Nat) : Prop := ∀ j, j < n → ∃ c, okc c ∧ mI h v j = nI c
/-- a text of n signs -/
def StO (h : AH) (a n : Nat) : Prop := (0 < a ∧ a < mN h ∧ mR h a 0 < mN h) ∧ isSt h a ∧ mI h a 1 = nI 0 ∧ isA h (mR h a 0) 3 ∧ ln h (mR h a 0) = n ∧ bOk h (mR h a 0) n
/-- a text that is being made, with cells from z on -/
def SbO (z : Nat) (h : AH) (a n : Nat) : Prop := (64 ≤ z ∧ z ≤ a ∧ z ≤ mR h a 0 ∧ mR h a 0 ≠ a ∧ a < mN h ∧ mR h a 0 < mN h) ∧ isO h a 8 ∧ mI h a 1 = nI 0 ∧ mI h a 3 = nI n ∧ isA h (mR h a 0) 3 ∧ ln h (mR h a 0) = 16 ∧ n ≤ 16 ∧ bOk h (mR h a 0) n
/-- cells that were there are as they were, but P's -/
def fr1 (P : Nat → Prop) (h g : AH) : Prop := mN h ≤ mN g ∧ ∀ b, b < mN h → ¬ P b → sa h g b
theorem fr1.tr {P : Nat → Prop} (c : fr1 P h g) (d : fr1 P g g2) : fr1 P h g2 := ⟨Nat.le_trans c.1 d.1, fun b hb hp => (c.2 b hb hp).tr (d.2 b (Nat.lt_of_lt_of_le hb c.1) hp)⟩
theorem fr1.mo {P Q : Nat → Prop} (c : fr1 P h g) (hq : ∀ b, b < mN h → P b → Q b) : fr1 Q h g := ⟨c.1, fun b hb hp => c.2 b hb (fun y => hp (hq b hb y))⟩
theorem bOk.sa {v : Nat} (o : bOk h v n) (e : sa h g v) : bOk g v n := fun j hj => by
  rw [e.2.1]
  exact o j hj
theorem StO.fr {P : Nat → Prop} (s : StO h a n) (c : fr1 P h g) (h1 : ¬ P a) (h2 : ¬ P (mR h a 0)) : StO g a n ∧ mR g a 0 = mR h a 0 := by
  obtain ⟨⟨s1, s2, s3⟩, s4, s5, s6, s7, s8⟩ := s
  have e1 := c.2 a s2 h1
  have e2 := c.2 _ s3 h2
  have eR : mR g a 0 = mR h a 0 := by rw [e1.2.2.1]
  refine ⟨⟨⟨s1, Nat.lt_of_lt_of_le s2 c.1, by rw [eR]; exact Nat.lt_of_lt_of_le s3 c.1⟩, ?_, by rw [e1.2.1]; exact s5, ?_, ?_, ?_⟩, eR⟩
  · unfold isSt isO at s4 ⊢
    rw [e1.1]
    exact s4
  · rw [eR]; unfold isA; rw [e2.1]; exact s6
  · rw [eR]; unfold ln; rw [e2.1]; exact s7
  · rw [eR]; exact s8.sa e2
theorem SbO.fr {P : Nat → Prop} (s : SbO z h a n) (c : fr1 P h g) (h1 : ¬ P a) (h2 : ¬ P (mR h a 0)) : SbO z g a n ∧ mR g a 0 = mR h a 0 := by
  obtain ⟨⟨s1, s2, s3, t1, t2, t3⟩, s4, s5, s6, s7, s8, s9, s10⟩ := s
  have e1 := c.2 a t2 h1
  have e2 := c.2 _ t3 h2
  have eR : mR g a 0 = mR h a 0 := by rw [e1.2.2.1]
  refine ⟨⟨⟨s1, s2, by rw [eR]; exact s3, by rw [eR]; exact t1, Nat.lt_of_lt_of_le t2 c.1, by rw [eR]; exact Nat.lt_of_lt_of_le t3 c.1⟩, ?_, by rw [e1.2.1]; exact s5, by rw [e1.2.1]; exact s6, ?_, ?_, s9, ?_⟩, eR⟩
  · unfold isO at s4 ⊢
    rw [e1.1]
    exact s4
  · rw [eR]; unfold isA; rw [e2.1]; exact s7
  · rw [eR]; unfold ln; rw [e2.1]; exact s8
  · rw [eR]; exact s10.sa e2
theorem sb_new (hz : 64 ≤ z) (hN : z ≤ mN h) (e1 : g = nw h 9 0) {K : AH → Prop} (k : ∀ g', fr1 (fun _ => False) h g' → mN g' = mN h + 2 → SbO z g' (mN h) 0 → mR g' (mN h) 0 = mN h + 1 → K g') : (¬ mN h = 0) ∧ wJ4_init_da8c8 (mN h) g K := by
  have n1 : mN g = mN h + 1 := by rw [e1]; rfl
  refine ⟨by omega, ?_⟩
  unfold wJ4_init_da8c8 wJ5_init_d00df
  have c16 : (nI 16).toNatClampNeg = 16 := nI_clamp (by decide)
  refine ⟨by omega, by omega, fun y => absurd y (by decide), fun _ => ⟨by decide, by rw [c16]; decide, fun h5 e5 => ?_⟩⟩
  rw [c16] at e5
  have hg : mS g (mN h) = (9, 0) := by rw [e1, mS_nw, if_pos rfl]
  have h5S : mS h5 (mN h) = (9, 0) := by rw [e5, mS_nw, if_neg (by omega)]; exact hg
  refine ⟨h5S, fun h7 e7 h8 e8 => ?_⟩
  rw [n1] at e7
  have mS8 : mS h8 = mS h5 := by rw [e8, e7]; rfl
  have mN8 : mN h8 = mN h + 2 := by rw [e8, e7]; show mN h5 = _; rw [e5, mN_nw, n1]
  have mR8 : mR h8 (mN h) 0 = mN h + 1 := by rw [e8, mR_uI, e7, mR_uR, if_pos ⟨rfl, rfl⟩]
  have old : ∀ b, b < mN h → sa h h8 b := fun b hb => by
    have a1 : sa h g b := by rw [e1]; exact sa.nw (by omega)
    have a2 : sa g h5 b := by rw [e5]; exact sa.nw (by omega)
    have a3 : sa h5 h7 b := by rw [e7]; exact sa.ur (by omega)
    have a4 : sa h7 h8 b := by rw [e8]; exact sa.ui (by omega)
    exact a1.tr (a2.tr (a3.tr a4))
  have hv : mS h8 (mN h + 1) = (103, 16) := by rw [mS8, e5, mS_nw, if_pos n1.symm]
  refine k h8 ⟨by omega, fun b hb _ => old b hb⟩ mN8 ⟨⟨hz, hN, by rw [mR8]; omega, by rw [mR8]; omega, by omega, by rw [mR8]; omega⟩, by show mS h8 (mN h) = _; rw [mS8]; exact h5S, ?_, ?_, ?_, ?_, Nat.zero_le _, fun j hj => absurd hj (Nat.not_lt_zero j)⟩ mR8
  · rw [e8, mI_uI, if_pos ⟨rfl, rfl⟩]
  · rw [e8, mI_uI, if_neg (by simp), e7, mI_uR, e5, mI_nw, if_neg (by omega), e1, mI_nw, if_pos rfl]
    rfl
  · rw [mR8]; exact congrArg Prod.fst hv
  · rw [mR8]; exact congrArg Prod.snd hv
theorem cap_16 : ∀ m, m < 17 → (nI m - nI 16) ≤ nI 0 := by decide
theorem sb_ens2 (s : SbO z h a n) (hm : m ≤ 16) {K : AH → Prop} (k : K h) : wJ5_ensureCapacityInternal_d00df a (nI m) h K := by
  obtain ⟨s0, s4, s5, s6, s7, s8, s9, s10⟩ := s
  unfold wJ5_ensureCapacityInternal_d00df
  rw [s8, s5, (shl0 16 (by decide)).2]
  exact ⟨s4, s7, fun v3 e3 => ⟨fun _ => k, fun y => absurd (by rw [e3]; exact cap_16 m (by omega)) y⟩⟩
theorem sb_lat (s : SbO z h a n) (k : K (nI 1) h) : wJ5_isLatin1_aae02 a h K := by
  obtain ⟨s0, s4, s5, -⟩ := s
  unfold wJ5_isLatin1_aae02
  rw [s5]
  exact ⟨fun y => absurd y (by decide), fun _ => ⟨s4, fun y => absurd rfl y, fun _ => k⟩⟩
theorem st_cod (s : StO h a n) (k : K (nI 0) h) : wJ0U_coder a h K := by
  obtain ⟨s0, s4, s5, -⟩ := s
  unfold wJ0U_coder
  rw [s5]
  exact ⟨fun y => absurd y (by decide), fun _ => ⟨s4, by decide, k⟩⟩
theorem st_len (s : StO h a n) (hn : n < 200) (k : K (nI n) h) : wJ0U_length a h K := by
  obtain ⟨s0, s4, s5, s6, s7, s8⟩ := id s
  unfold wJ0U_length
  refine ⟨s4, s6, st_cod s ?_⟩
  rw [s7, (shl0 n hn).2]
  exact k
/-- n signs more, from v on -/
theorem sb_more (s : SbO z h a n) {g : AH} (hnm : n + m ≤ 16) (eN : mN g = mN h) (eS : mS g = mS h) (eR : mR g = mR h) (eL : mL g = mL h) (eI : ∀ b, b ≠ a → b ≠ mR h a 0 → mI g b = mI h b) (e1 : mI g a 1 = mI h a 1) (e3 : mI g a 3 = nI (n + m)) (ev : ∀ j, j < n → mI g (mR h a 0) j = mI h (mR h a 0) j) (ew : ∀ j, n ≤ j → j < n + m → ∃ c, okc c ∧ mI g (mR h a 0) j = nI c) : fr1 (fun b => b = a ∨ b = mR h a 0) h g ∧ SbO z g a (n + m) := by
  obtain ⟨s0, s4, s5, s6, s7, s8, s9, s10⟩ := s
  refine ⟨⟨Nat.le_of_eq eN.symm, fun b _ hp => ⟨by rw [eS], eI b (fun y => hp (Or.inl y)) (fun y => hp (Or.inr y)), by rw [eR], by rw [eL]⟩⟩, by rw [eR, eN]; exact s0, by unfold isO; rw [eS]; exact s4, by rw [e1]; exact s5, e3, by rw [eR]; unfold isA; rw [eS]; exact s7, by rw [eR]; unfold ln; rw [eS]; exact s8, hnm, fun j hj => ?_⟩
  rw [eR]
  by_cases y : j < n
  · rw [ev j y]; exact s10 j y
  · exact ew j (by omega) hj
theorem sb_str (s : SbO z h a n) (t : StO h b m) (hnm : n + m ≤ 16) (h1 : mR h b 0 ≠ mR h a 0) {K : Nat → AH → Prop} (k : ∀ g, fr1 (fun c => c = a ∨ c = mR h a 0) h g → mN g = mN h → SbO z g a (n + m) → mR g a 0 = mR h a 0 → K a g) : wJ4_append_15ec4 a b h K := by
  obtain ⟨s0, s4, s5, s6, s7, s8, s9, s10⟩ := id s
  obtain ⟨t0, t4, t5, t6, t7, t8⟩ := id t
  unfold wJ4_append_15ec4 wJ5_append_cf1ce
  refine ⟨s4, fun y => absurd y (by omega), fun _ => ⟨t4, st_len t (by omega) ⟨s4, ?_⟩⟩⟩
  rw [s6, nI_add]
  refine sb_ens2 s hnm ⟨s4, ?_⟩
  unfold wJ5_putStringAt_47b60 wJ5_inflateIfNeededFor_a7421
  rw [s5, s6]
  refine ⟨s4, fun y => absurd y (by decide), fun _ => ⟨s4, t4, st_cod t ⟨fun _ => ⟨s4, t4, ?_⟩, fun y => absurd rfl y⟩⟩⟩
  rw [s5]
  unfold wJ0U_getBytes
  refine ⟨t4, st_cod t ⟨fun y => absurd rfl y, fun _ => ?_⟩⟩
  have c0 : (nI 0).toNatClampNeg = 0 := nI_clamp (by decide)
  rw [(shl0 n (by omega)).1, t7, s8, c0, nI_clamp (show m < 2 ^ 31 by omega), nI_clamp (show n < 2 ^ 31 by omega)]
  refine ⟨t4, t6, s7, ?_, ?_, ?_, by omega, by omega, fun i hi => ?_, fun h15 e15 => ⟨?_, fun h11 e11 => ?_⟩⟩
  · show 64 ≤ _; omega
  · exact fun y => absurd y (m75 (by omega)).2.1
  · exact fun y => absurd y (m75 (by omega)).2.1
  · rw [Nat.zero_add]
    obtain ⟨c, c1, c2⟩ := t8 i hi
    rw [c2]
    exact (byt_c c c1.1).2.2.1
  · rw [e15]; exact s4
  have i3 : mI h15 a 3 = nI n := by
    rw [e15, mI_uAo (fun y => s0.2.2.2.1 y.symm)]
    exact s6
  rw [i3, nI_add] at e11
  have iv : ∀ j, mI h11 (mR h a 0) j = if n ≤ j ∧ j < n + m then mI h (mR h b 0) (j - n) else mI h (mR h a 0) j := fun j => by
    rw [e11, mI_uI, if_neg (fun y => s0.2.2.2.1 y.1), e15, mI_uA, if_pos rfl]
    unfold va_cpy
    rw [Nat.zero_add]
  obtain ⟨f1, q1⟩ := sb_more (g := h11) s hnm (by rw [e11, e15]; rfl) (by rw [e11, e15]; rfl) (by rw [e11, e15]; rfl) (by rw [e11, e15]; rfl) (fun c hc hv => by rw [e11, mI_o hc, e15, mI_uAo hv]) (by rw [e11, mI_uI, if_neg (by simp), e15, mI_uAo (fun y => s0.2.2.2.1 y.symm)]) (by rw [e11, mI_uI, if_pos ⟨rfl, rfl⟩]) (fun j hj => by rw [iv, if_neg (by omega)]) (fun j hj1 hj2 => by
    rw [iv, if_pos ⟨hj1, hj2⟩]
    exact t8 (j - n) (by omega))
  exact k h11 f1 (by rw [e11, e15]; rfl) q1 (by rw [e11, e15]; rfl)
theorem c_charsR (sd : stD h) {r : Nat} (q : isA h r 3) (hr : 64 ≤ r) (hl : ln h r < 2 ^ 31) {v a : Nat} (hv : v < 10000) (ha : a + nds v ≤ ln h r) {K : Int32 → AH → Prop} (k : ∀ g, dgO h r a (nch v) g → ∀ x, K x g) : wJ6_getChars_ba4f3 (nI v) (nI (a + nds v)) r h K := by
  obtain ⟨s1, s2, s3, s4, s5⟩ := sd
  have m1 : ∀ n, nI (n + 1) + (-1) = nI n := fun n => by
    rw [← Int32.sub_eq_add_neg]
    exact nI_pred n
  have dg : ∀ n, n < 10 → (48 + n) < 128 := fun n _ => by omega
  have nn : ∀ n, - -(nI n) = nI n := fun n => Int32.neg_neg
  have z1 : nZ ≤ r := hr
  have st : ∀ {g : AH} {l : List Nat} {b : Nat}, dgO h r b l g → isA g 14 3 ∧ isA g 15 3 ∧ ln g 14 = 100 ∧ ln g 15 = 100 ∧ isA g r 3 ∧ ln g r = ln h r ∧ (∀ i, i < 100 → mI g 14 i = nI (48 + i / 10) ∧ mI g 15 i = nI (48 + i % 10)) := fun {g l b} d => by
    obtain ⟨d1, d2, d3, d4, d5, d6⟩ := d
    unfold isA ln
    rw [d2, d5 14 (by omega), d5 15 (by omega)]
    exact ⟨s1, s2, s3, s4, q, rfl, s5⟩
  have tail : ∀ (g : AH) (l : List Nat) (u b : Nat) (x : Int32), u < 100 → dgO h r (b + nds u) l g → (∀ g', dgO h r b ((if 9 < u then [48 + u / 10] else []) ++ (48 + u % 10) :: l) g' → ∀ x, K x g') → b + nds u ≤ ln h r → wJ6_getChars_ba4f3_L22 K (fun x0_36 x2_37 x5_38 x6_39 h40 => (isA h40 15 3) ∧ (vp_in (-x0_36) (ln h40 15)) ∧ (isA h40 x2_37 3) ∧ (nZ ≤ x2_37) ∧ (vp_in (x5_38 + (-1)) (ln h40 x2_37)) ∧ ∀ h46, h46 = uI h40 x2_37 (x5_38 + (-1)).toNatClampNeg (vp_nar .byte (mI h40 15 (-x0_36).toNatClampNeg)) → (((-9) ≤ x0_36 → (wJ6_getChars_ba4f3_J104 K x2_37 (x5_38 + (-1)) x6_39 h46)) ∧ (¬ (-9) ≤ x0_36 → (isA h40 14 3) ∧ (vp_in (-x0_36) (ln h40 14)) ∧ (vp_in ((x5_38 + (-1)) + (-1)) (ln h40 x2_37)) ∧ ∀ h51, h51 = uI h46 x2_37 ((x5_38 + (-1)) + (-1)).toNatClampNeg (vp_nar .byte (mI h46 14 (-x0_36).toNatClampNeg)) → (wJ6_getChars_ba4f3_J104 K x2_37 ((x5_38 + (-1)) + (-1)) x6_39 h51)))) 1 (-(nI u)) r (nI (b + nds u)) (nI 0) g := by
    intro g l u b x hu d kk hb
    obtain ⟨t1, t2, t3, t4, t5, t6, t7⟩ := st d
    rw [wJ6_getChars_ba4f3_L22]; dsimp only
    rw [m10.2.2.2.2.1, neg_lt (by decide) (by omega), nn, m10.2.2.2.2.2, neg_le (by decide) (by omega), t4, t3, t6, nI_clamp (by omega), (t7 u hu).2, (byt_c _ (dg _ (by omega))).1]
    refine ⟨fun _ => ?_, fun z => absurd hu z⟩
    unfold nds at d hb ⊢
    by_cases e : u < 10
    · rw [if_pos e] at d hb ⊢
      rw [if_neg (by omega), List.nil_append] at kk
      rw [m1, nI_clamp (by omega)]
      refine ⟨t2, vp_in_nI hu (by decide), t5, z1, vp_in_nI (by omega) hl, fun g1 e1 => ⟨fun _ => ?_, fun z => absurd (by omega) z⟩⟩
      unfold wJ6_getChars_ba4f3_J104
      have d2 := d.put (48 + u % 10)
      rw [← e1] at d2
      exact ⟨fun _ => kk g1 d2 _, fun z => absurd rfl z⟩
    · rw [if_neg e, if_pos hu] at d hb ⊢
      rw [if_pos (by omega)] at kk
      rw [show b + 2 = (b + 1) + 1 from rfl, m1, m1, nI_clamp (by omega), nI_clamp (by omega)]
      refine ⟨t2, vp_in_nI hu (by decide), t5, z1, vp_in_nI (by omega) hl, fun g1 e1 => ⟨fun z => by omega, fun _ => ⟨t1, vp_in_nI hu (by decide), vp_in_nI (by omega) hl, fun g2 e2 => ?_⟩⟩⟩
      unfold wJ6_getChars_ba4f3_J104
      have d2 := d.put (48 + u % 10)
      rw [← e1] at d2
      obtain ⟨-, -, -, -, -, -, t8⟩ := st d2
      rw [(t8 u hu).1, (byt_c _ (dg _ (by omega))).1] at e2
      have d3 := d2.put (48 + u / 10)
      rw [← e2] at d3
      exact ⟨fun _ => kk g2 d3 _, fun z => absurd rfl z⟩
  unfold wJ6_getChars_ba4f3
  refine ⟨fun _ => ?_, fun z => absurd (nI_pos' (by omega)) z⟩
  unfold wJ6_getChars_ba4f3_J12
  refine ⟨fun z => absurd rfl z, fun _ => ?_⟩
  by_cases hv1 : v < 100
  · refine ⟨1, tail h [] v a 0 hv1 (dgO.rf h r _) (fun g' d' x => k g' ?_ x) ha⟩
    have : nch v = (if 9 < v then [48 + v / 10] else []) ++ [48 + v % 10] := by
      unfold nch
      rw [if_neg (by omega), if_neg (by omega), List.nil_append, List.nil_append, show v / 10 % 10 = v / 10 by omega]
    rw [this]
    exact d'
  · refine ⟨2, ?_⟩
    have hd := div_n hv
    have hnd : nds v = nds (v / 100) + 2 := by
      unfold nds
      rw [if_neg (by omega), if_neg hv1]
      by_cases z : v < 1000
      · rw [if_pos z, if_pos (by omega)]
      · rw [if_neg z, if_neg (by omega), if_pos (by omega)]
    rw [hnd] at ha ⊢
    rw [wJ6_getChars_ba4f3_L22]; dsimp only
    rw [m10.2.2.2.2.1, neg_lt (by decide) (by omega), hd.1, hd.2, show a + (nds (v / 100) + 2) = (a + nds (v / 100) + 1) + 1 from rfl, m1, m1, nI_clamp (by omega), nI_clamp (by omega), nI_clamp (by omega), (s5 _ (by omega : v % 100 < 100)).2, (byt_c _ (dg _ (by omega))).1, s4, s3]
    refine ⟨fun z => by omega, fun _ => ⟨s2, vp_in_nI (by omega) (by decide), q, z1, vp_in_nI (by omega) hl, fun g1 e1 => ⟨s1, vp_in_nI (by omega) (by decide), vp_in_nI (by omega) hl, fun g2 e2 => ?_⟩⟩⟩
    have d1 := (dgO.rf h r (a + nds (v / 100) + 1 + 1)).put (48 + v % 100 % 10)
    rw [← e1] at d1
    obtain ⟨-, -, -, -, -, -, t8⟩ := st d1
    rw [(t8 _ (by omega : v % 100 < 100)).1, (byt_c _ (dg _ (by omega))).1] at e2
    have d2 := d1.put (48 + v % 100 / 10)
    rw [← e2] at d2
    refine tail g2 _ (v / 100) a 0 (by omega) d2 (fun g' d' x => k g' ?_ x) (by omega)
    have : nch v = (if 9 < v / 100 then [48 + v / 100 / 10] else []) ++ (48 + v / 100 % 10) :: [48 + v % 100 / 10, 48 + v % 100 % 10] := by
      unfold nch
      rw [if_pos (show 99 < v by omega), if_pos (show 9 < v by omega), show v / 10 % 10 = v % 100 / 10 by omega, show v % 10 = v % 100 % 10 by omega]
      by_cases z : 999 < v
      · rw [if_pos z, if_pos (by omega), show v / 1000 % 10 = v / 100 / 10 by omega]; rfl
      · rw [if_neg z, if_neg (by omega)]; rfl
    rw [this]
    exact d'
theorem nch_ok (v : Nat) : ∀ c ∈ nch v, okc c := by
  intro c hc
  have h1 := nch_c v c hc
  refine ⟨h1, fun y => ?_⟩
  subst y
  unfold nch at hc
  simp only [List.mem_append, List.mem_singleton] at hc
  rcases hc with q | q | q | q
  · split at q
    · have := List.mem_singleton.mp q; omega
    · cases q
  · split at q
    · have := List.mem_singleton.mp q; omega
    · cases q
  · split at q
    · have := List.mem_singleton.mp q; omega
    · cases q
  · omega
theorem sb_int (sd : stD h) (s : SbO z h a n) {v : Nat} (hv : v < 10000) (hnm : n + nds v ≤ 16) {K : Nat → AH → Prop} (k : ∀ g, fr1 (fun c => c = a ∨ c = mR h a 0) h g → mN g = mN h → SbO z g a (n + nds v) → mR g a 0 = mR h a 0 → K a g) : wJ4_append_bf812 a (nI v) h K := by
  obtain ⟨s0, s4, s5, s6, s7, s8, s9, s10⟩ := id s
  unfold wJ4_append_bf812 wJ5_append_c97b9
  refine ⟨s4, s4, c_size hv ⟨s4, ?_⟩⟩
  rw [s6, nI_add]
  refine sb_ens2 s hnm ⟨s4, sb_lat s ⟨fun y => absurd y (by decide), fun _ => ⟨s4, ?_⟩⟩⟩
  refine c_charsR sd s7 (by omega) (by rw [s8]; decide) hv (by rw [s8]; exact hnm) (fun g d x => ?_)
  obtain ⟨d1, d2, d3, d4, d5, d6⟩ := d
  unfold wJ5_append_c97b9_J48
  refine ⟨by unfold isO; rw [d2]; exact s4, fun h14 e14 => ?_⟩
  have iv : ∀ j, mI h14 (mR h a 0) j = mI g (mR h a 0) j := fun j => by
    rw [e14, mI_uI, if_neg (fun y => s0.2.2.2.1 y.1)]
  have ia : mI g a = mI h a := d5 a (fun y => s0.2.2.2.1 y.symm)
  obtain ⟨f1, q1⟩ := sb_more (g := h14) s hnm (by rw [e14]; exact d1) (by rw [e14]; exact d2) (by rw [e14]; exact d3) (by rw [e14]; exact d4) (fun c hc hv => by rw [e14, mI_o hc]; exact d5 c hv) (by rw [e14, mI_uI, if_neg (by simp), ia]) (by rw [e14, mI_uI, if_pos ⟨rfl, rfl⟩]) (fun j hj => by rw [iv, d6, if_neg (by omega)]) (fun j hj1 hj2 => by
    rw [iv, d6, if_pos hj1]
    have hl : j - n < (nch v).length := by rw [nch_n]; omega
    rw [List.getElem?_eq_getElem hl]
    exact ⟨_, nch_ok v _ (List.getElem_mem hl), rfl⟩)
  exact k h14 f1 (by rw [e14]; exact d1) q1 (by rw [e14]; show mR g a 0 = _; rw [d3])
theorem sb_to (s : SbO z h a n) (hn : n < 16) {K : Nat → AH → Prop} (k : ∀ g, fr1 (fun _ => False) h g → mN g = mN h + 2 → StO g (mN h) n → mR g (mN h) 0 = mN h + 1 → K (mN h) g) : wJ4_toString_0e30d a h K := by
  obtain ⟨s0, s4, s5, s6, s7, s8, s9, s10⟩ := id s
  have hv64 : 64 ≤ mR h a 0 := by omega
  have hvN : mR h a 0 < mN h := s0.2.2.2.2.2
  have haN : a < mN h := s0.2.2.2.2.1
  unfold wJ4_toString_0e30d
  intro h1 e1
  have n1 : mN h1 = mN h + 1 := by rw [e1]; rfl
  have o1 : ∀ b, b < mN h → sa h h1 b := fun b hb => by rw [e1]; exact sa.nw (by omega)
  have S1 : SbO z h1 a n ∧ mR h1 a 0 = mR h a 0 := s.fr (P := fun _ => False) ⟨by omega, fun b hb _ => o1 b hb⟩ id id
  obtain ⟨S1, eR1⟩ := S1
  have new1 : mS h1 (mN h) = (8, 0) := by rw [e1, mS_nw, if_pos rfl]
  refine ⟨by omega, ?_⟩
  unfold wJ0_init_81219 wJ0_init_db425 wJ5_getValue_6d5f1 wJ4_length_8abf5 wJ5_length_8abf5
  dsimp only
  rw [S1.2.2.2.1, eR1]
  refine ⟨by omega, by omega, S1.2.1, S1.2.1, S1.2.1, S1.2.1, S1.2.1, S1.2.1, sb_lat S1 ⟨fun y => absurd y (by decide), fun _ => ⟨new1, fun h19 e19 => ?_⟩⟩⟩
  have o2 : ∀ b, b < mN h → sa h1 h19 b := fun b hb => by rw [e19]; exact sa.ui (by omega)
  have vS : mS h19 (mR h a 0) = mS h (mR h a 0) := ((o1 _ hvN).tr (o2 _ hvN)).1
  have vI : mI h19 (mR h a 0) = mI h (mR h a 0) := ((o1 _ hvN).tr (o2 _ hvN)).2.1
  have vl : ln h19 (mR h a 0) = 16 := by unfold ln; rw [vS]; exact s8
  have vA : isA h19 (mR h a 0) 3 := by unfold isA; rw [vS]; exact s7
  unfold wJ7_copyOfRange_39247
  rw [vl, nI_eq (a := n) (b := 16) (by omega) (by decide)]
  refine ⟨fun y => absurd rfl y, fun _ => ⟨vA, fun y => absurd y (by omega), fun _ => ?_⟩⟩
  unfold wJ7_copyOfRange_39247_J10 wJ7_copyOfRangeByte_39247 wJ7_checkLength_df160
  have c0 : (nI 0).toNatClampNeg = 0 := nI_clamp (by decide)
  have cn : (nI n).toNatClampNeg = n := nI_clamp (by omega)
  have n19 : mN h19 = mN h + 1 := by rw [e19]; exact n1
  rw [nI_sub (Nat.zero_le n), Nat.sub_zero, cn]
  refine ⟨fun _ => ⟨fun y => absurd y (m75 (by omega)).2.1, by omega, fun h5 e5 => ?_⟩, fun y => absurd (by rw [nI_leI (by decide) (by omega)]; exact Nat.zero_le _) y⟩
  rw [n19]
  have o3 : ∀ b, b ≠ mN h + 1 → sa h19 h5 b := fun b hb => by rw [e5]; exact sa.nw (by rw [n19]; exact hb)
  have o3' := o3 (mR h a 0) (by omega)
  have vl5 : ln h5 (mR h a 0) = 16 := by unfold ln; rw [o3'.1]; exact vl
  have vA5 : isA h5 (mR h a 0) 3 := by unfold isA; rw [o3'.1]; exact vA
  have nS : mS h5 (mN h + 1) = (103, n) := by rw [e5, mS_nw, if_pos n19.symm]
  have nl : ln h5 (mN h + 1) = n := congrArg Prod.snd nS
  rw [vl5, nl, nI_sub (Nat.zero_le 16), Nat.sub_zero, if_pos (nI_lt hn (by decide)), cn, c0]
  refine ⟨vA5, congrArg Prod.fst nS, by show 64 ≤ _; exact hv64, by show 64 ≤ _; omega, fun y => absurd y (by decide), fun y => absurd y (m75 (by omega)).2.1, by omega, by omega, fun i hi => ?_, fun h15 e15 => ?_⟩
  · rw [Nat.zero_add, o3'.2.1, vI]
    obtain ⟨c, c1, c2⟩ := s10 i hi
    rw [c2]
    exact (byt_c c c1.1).2.2.1
  have o4 : ∀ b, b ≠ mN h + 1 → sa h5 h15 b := fun b hb => by rw [e15]; exact ⟨rfl, mI_uAo hb, rfl, rfl⟩
  have new15 : mS h15 (mN h) = (8, 0) := by
    rw [(o4 (mN h) (by omega)).1, (o3 (mN h) (by omega)).1, e19]
    exact new1
  refine ⟨new15, fun h23 e23 => ?_⟩
  have mR23 : mR h23 (mN h) 0 = mN h + 1 := by rw [e23, mR_uR, if_pos ⟨rfl, rfl⟩]
  have mN23 : mN h23 = mN h + 2 := by rw [e23]; show mN h15 = _; rw [e15]; show mN h5 = _; rw [e5, mN_nw, n19]
  have mS23 : mS h23 = mS h15 := by rw [e23]; rfl
  have vS15 : mS h15 (mN h + 1) = (103, n) := by rw [e15]; exact nS
  have all : ∀ b, b < mN h → sa h h23 b := fun b hb => (o1 b hb).tr ((o2 b hb).tr ((o3 b (by omega)).tr ((o4 b (by omega)).tr (by rw [e23]; exact sa.ur (by omega)))))
  refine k h23 ⟨by omega, fun b hb _ => all b hb⟩ mN23 ⟨⟨by omega, by omega, by rw [mR23]; omega⟩, Or.inr (by unfold isO; rw [mS23]; exact new15), ?_, ?_, ?_, ?_⟩ mR23
  · rw [e23, mI_uR, (o4 (mN h) (by omega)).2.1, (o3 (mN h) (by omega)).2.1, e19, mI_uI, if_pos ⟨rfl, rfl⟩]
  · rw [mR23]; unfold isA; rw [mS23, vS15]
  · rw [mR23]; unfold ln; rw [mS23, vS15]
  · rw [mR23]
    intro j hj
    rw [e23, mI_uR, e15, mI_uA, if_pos rfl]
    unfold va_cpy
    rw [if_pos ⟨by omega, by omega⟩, Nat.zero_add, Nat.sub_zero, o3'.2.1, vI]
    exact s10 j hj
theorem st_chr (s : StO h a n) (hn : n < 200) {x : Nat} (hx : x < n) (k : ∀ c, okc c → K (nI c) h) : wJ0U_charAt a (nI x) h K := by
  obtain ⟨s0, s4, s5, s6, s7, s8⟩ := id s
  obtain ⟨c, c1, c2⟩ := s8 x hx
  unfold wJ0U_charAt wJ0U_isLatin1
  rw [s5]
  refine ⟨s4, fun y => absurd y (by decide), fun _ => ⟨s4, fun y => absurd rfl y, fun _ => ⟨fun y => absurd y (by decide), fun _ => ⟨s4, ?_⟩⟩⟩⟩
  unfold wJ1_charAt_3b067 wJ0_checkIndex_df160 wJ3_checkIndex_8e157
  dsimp only
  rw [s7, nI_ltI (a := x) (b := n) (by omega) (by omega), nI_clamp (show x < 2 ^ 31 by omega), c2, (byt_c c c1.1).2.2.2]
  refine ⟨s6, fun k1 _ => ⟨fun y => absurd y (m75 (by omega)).2.1, fun _ => ⟨fun _ => ⟨s6, vp_in_nI hx (by omega), (ch_ok c c1.1).1, (ch_ok c c1.1).1, k c c1⟩, fun y => absurd hx y⟩⟩⟩
theorem StO.fcl (s : StO h a n) (f : fcl h g) (h1 : 606 ≤ a) (h2 : 606 ≤ mR h a 0) (h3 : a ≠ mR h 604 0) (h4 : mR h a 0 ≠ mR h 604 0) : StO g a n ∧ mR g a 0 = mR h a 0 ∧ a ≠ mR g 604 0 ∧ mR g a 0 ≠ mR g 604 0 := by
  have s0 := s.1
  obtain ⟨q1, q2⟩ := s.fr (P := fun b => ¬ (b = a ∨ b = mR h a 0)) ⟨f.1, fun b hb hp => f.2.2 b (Or.inr (by
    have hp : b = a ∨ b = mR h a 0 := Classical.byContradiction (fun y => hp y)
    rcases hp with e | e
    · rw [e]; exact ⟨h1, s0.2.1, h3⟩
    · rw [e]; exact ⟨h2, s0.2.2, h4⟩))⟩ (fun y => y (Or.inl rfl)) (fun y => y (Or.inr rfl))
  refine ⟨q1, q2, ?_, ?_⟩
  · rcases f.2.1 with e | e
    · rw [e]; exact h3
    · omega
  · rw [q2]
    rcases f.2.1 with e | e
    · rw [e]; exact h4
    · omega
end STR
