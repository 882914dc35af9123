/-! THE CLASS'S OUTPUT: numbers -/
section NU
variable {h g h0 : AH} {p w : Nat} {X : BG} {A : AG} {o : List Nat} {K : Int32 → AH → Prop} {T : String → AH → Prop}
theorem neg_I {v : Nat} (hv : v < 2 ^ 31) : (-(nI v)).toInt = -(v : Int) := by
  have : -(nI v) = Int32.ofInt (-(v : Int)) := by
    rw [Int32.ofInt_neg, Int32.ofInt_eq_ofNat]
    rfl
  rw [this]
  exact Int32.toInt_ofInt_of_le (by omega) (by omega)
theorem neg_le {a b : Nat} (ha : a < 2 ^ 31) (hb : b < 2 ^ 31) : (-(nI a) ≤ -(nI b)) = (b ≤ a) := by
  rw [Int32.le_iff_toInt_le, neg_I ha, neg_I hb]
  exact propext (by omega)
theorem neg_lt {a b : Nat} (ha : a < 2 ^ 31) (hb : b < 2 ^ 31) : (-(nI a) < -(nI b)) = (b < a) := by
  rw [Int32.lt_iff_toInt_lt, neg_I ha, neg_I hb]
  exact propext (by omega)
theorem m10 : (-10 : Int32) = -(nI 10) ∧ nI 10 * (-(nI 10)) = -(nI 100) ∧ nI 10 * (-(nI 100)) = -(nI 1000) ∧ nI 10 * (-(nI 1000)) = -(nI 10000) ∧ (-100 : Int32) = -(nI 100) ∧ (-9 : Int32) = -(nI 9) := by decide +kernel
def nds (v : Nat) : Nat := if v < 10 then 1 else if v < 100 then 2 else if v < 1000 then 3 else 4
theorem nch_n (v : Nat) : (nch v).length = nds v := by
  unfold nch nds
  simp only [List.length_append, List.length_singleton]
  by_cases h1 : v < 10
  · rw [if_pos h1, if_neg (by omega), if_neg (by omega), if_neg (by omega)]; rfl
  · rw [if_neg h1]
    by_cases h2 : v < 100
    · rw [if_pos h2, if_neg (by omega), if_neg (by omega), if_pos (by omega)]; rfl
    · rw [if_neg h2]
      by_cases h3 : v < 1000
      · rw [if_pos h3, if_neg (by omega), if_pos (by omega), if_pos (by omega)]; rfl
      · rw [if_neg h3, if_pos (by omega), if_pos (by omega), if_pos (by omega)]; rfl
theorem c_size {v : Nat} (hv : v < 10000) {K : Int32 → AH → Prop} (k : K (nI (nds v)) h) : wJ6_stringSize_0f7a4 (nI v) h K := by
  unfold wJ6_stringSize_0f7a4
  refine ⟨fun z => absurd z (by rw [lt0_f (by omega)]; exact id), fun _ => ⟨5, ?_⟩⟩
  rw [m10.1]
  have e0 : ∀ a, nI a + nI 0 = nI a := fun a => by rw [nI_add]; rfl
  unfold nds at k
  rw [wJ6_stringSize_0f7a4_L16]; dsimp only
  refine ⟨fun z => absurd z (by decide), fun _ => ?_⟩
  rw [neg_le (by omega) (by decide), m10.2.1, e0]
  by_cases h1 : v < 10
  · rw [if_pos h1] at k
    exact ⟨fun z => by omega, fun _ => k⟩
  · rw [if_neg h1] at k
    refine ⟨fun _ => ?_, fun z => absurd (by omega) z⟩
    rw [wJ6_stringSize_0f7a4_L16]; dsimp only
    refine ⟨fun z => absurd z (by decide), fun _ => ?_⟩
    rw [neg_le (by omega) (by decide), m10.2.2.1]
    simp only [nI_add]
    by_cases h2 : v < 100
    · rw [if_pos h2] at k
      exact ⟨fun z => by omega, fun _ => k⟩
    · rw [if_neg h2] at k
      refine ⟨fun _ => ?_, fun z => absurd (by omega) z⟩
      rw [wJ6_stringSize_0f7a4_L16]; dsimp only
      refine ⟨fun z => absurd z (by decide), fun _ => ?_⟩
      rw [neg_le (by omega) (by decide), m10.2.2.2.1]
      simp only [nI_add]
      by_cases h3 : v < 1000
      · rw [if_pos h3] at k
        exact ⟨fun z => by omega, fun _ => k⟩
      · rw [if_neg h3] at k
        refine ⟨fun _ => ?_, fun z => absurd (by omega) z⟩
        rw [wJ6_stringSize_0f7a4_L16]; dsimp only
        refine ⟨fun z => absurd z (by decide), fun _ => ?_⟩
        rw [neg_le (by omega) (by decide)]
        simp only [nI_add]
        exact ⟨fun z => by omega, fun _ => k⟩
theorem div100 : ∀ a, a < 100 → ∀ b, b < 100 → -(nI (100 * a + b)) / nI 100 = -(nI a) := by decide +kernel
theorem div_n {v : Nat} (hv : v < 10000) : -(nI v) / nI 100 = -(nI (v / 100)) ∧ -(nI (v / 100)) * nI 100 - -(nI v) = nI (v % 100) := by
  have h1 := div100 (v / 100) (by omega) (v % 100) (by omega)
  rw [show 100 * (v / 100) + v % 100 = v by omega] at h1
  refine ⟨h1, ?_⟩
  rw [Int32.neg_mul, pk_mul, Int32.sub_neg, Int32.add_comm, ← Int32.sub_eq_add_neg, nI_sub (by omega)]
  congr 1
  omega
/-- in the room from o's end on, the places from a to e hold l; all else is as it was -/
def dgO (h : AH) (r a : Nat) (l : List Nat) (g : AH) : Prop := mN g = mN h ∧ mS g = mS h ∧ mR g = mR h ∧ mL g = mL h ∧ (∀ b, b ≠ r → mI g b = mI h b) ∧ ∀ i, mI g r i = if a ≤ i then (match l[i - a]? with
  | some c => nI c
  | none => mI h r i) else mI h r i
theorem dgO.rf (h : AH) (r a : Nat) : dgO h r a [] h := ⟨rfl, rfl, rfl, rfl, fun _ _ => rfl, fun i => by
  split
  · rfl
  · rfl⟩
theorem dgO.put {r a : Nat} {l : List Nat} (d : dgO h r (a + 1) l g) (c : Nat) : dgO h r a (c :: l) (uI g r a (nI c)) := by
  obtain ⟨d1, d2, d3, d4, d5, d6⟩ := d
  refine ⟨d1, d2, d3, d4, fun b hb => (mI_o hb).trans (d5 b hb), fun i => ?_⟩
  rw [mI_uI]
  by_cases z : i = a
  · subst z
    rw [if_pos ⟨rfl, rfl⟩, if_pos (Nat.le_refl _), Nat.sub_self]
    rfl
  · rw [if_neg (fun y => z y.2), d6]
    by_cases z2 : a ≤ i
    · rw [if_pos z2, if_pos (by omega), show i - a = (i - (a + 1)) + 1 by omega, List.getElem?_cons_succ]
    · rw [if_neg z2, if_neg (by omega)]
/-- the digits are laid down from behind -/
theorem c_chars (sd : stD h) (q : isA h (mR h 604 0) 3) (hr : 64 ≤ mR h 604 0) (hl : ln h (mR h 604 0) < 2 ^ 31) {v a : Nat} (hv : v < 10000) (ha : a + nds v ≤ ln h (mR h 604 0)) {K : Int32 → AH → Prop} (k : ∀ g, dgO h (mR h 604 0) a (nch v) g → ∀ x, K x g) : wJ6_getChars_ba4f3 (nI v) (nI (a + nds v)) (mR h 604 0) h K := by
  generalize mR h 604 0 = r at *
  obtain ⟨s1, s2, s3, s4, s5⟩ := sd
  have m1 : ∀ n, nI (n + 1) + (-1) = nI n := fun n => by
    rw [← Int32.sub_eq_add_neg]
    exact nI_pred n
  have dg : ∀ n, n < 10 → (48 + n) < 128 := fun n _ => by omega
  have nn : ∀ n, - -(nI n) = nI n := fun n => Int32.neg_neg
  have z1 : nZ ≤ r := hr
  have st : ∀ {g : AH} {l : List Nat} {b : Nat}, dgO h r b l g → isA g 14 3 ∧ isA g 15 3 ∧ ln g 14 = 100 ∧ ln g 15 = 100 ∧ isA g r 3 ∧ ln g r = ln h r ∧ (∀ i, i < 100 → mI g 14 i = nI (48 + i / 10) ∧ mI g 15 i = nI (48 + i % 10)) := fun {g l b} d => by
    obtain ⟨d1, d2, d3, d4, d5, d6⟩ := d
    unfold isA ln
    rw [d2, d5 14 (by omega), d5 15 (by omega)]
    exact ⟨s1, s2, s3, s4, q, rfl, s5⟩
  have tail : ∀ (g : AH) (l : List Nat) (u b : Nat) (x : Int32), u < 100 → dgO h r (b + nds u) l g → (∀ g', dgO h r b ((if 9 < u then [48 + u / 10] else []) ++ (48 + u % 10) :: l) g' → ∀ x, K x g') → b + nds u ≤ ln h r → wJ6_getChars_ba4f3_L22 K (fun x0_36 x2_37 x5_38 x6_39 h40 => (isA h40 15 3) ∧ (vp_in (-x0_36) (ln h40 15)) ∧ (isA h40 x2_37 3) ∧ (nZ ≤ x2_37) ∧ (vp_in (x5_38 + (-1)) (ln h40 x2_37)) ∧ ∀ h46, h46 = uI h40 x2_37 (x5_38 + (-1)).toNatClampNeg (vp_nar .byte (mI h40 15 (-x0_36).toNatClampNeg)) → (((-9) ≤ x0_36 → (wJ6_getChars_ba4f3_J104 K x2_37 (x5_38 + (-1)) x6_39 h46)) ∧ (¬ (-9) ≤ x0_36 → (isA h40 14 3) ∧ (vp_in (-x0_36) (ln h40 14)) ∧ (vp_in ((x5_38 + (-1)) + (-1)) (ln h40 x2_37)) ∧ ∀ h51, h51 = uI h46 x2_37 ((x5_38 + (-1)) + (-1)).toNatClampNeg (vp_nar .byte (mI h46 14 (-x0_36).toNatClampNeg)) → (wJ6_getChars_ba4f3_J104 K x2_37 ((x5_38 + (-1)) + (-1)) x6_39 h51)))) 1 (-(nI u)) r (nI (b + nds u)) (nI 0) g := by
    intro g l u b x hu d kk hb
    obtain ⟨t1, t2, t3, t4, t5, t6, t7⟩ := st d
    rw [wJ6_getChars_ba4f3_L22]; dsimp only
    rw [m10.2.2.2.2.1, neg_lt (by decide) (by omega), nn, m10.2.2.2.2.2, neg_le (by decide) (by omega), t4, t3, t6, nI_clamp (by omega), (t7 u hu).2, (byt_c _ (dg _ (by omega))).1]
    refine ⟨fun _ => ?_, fun z => absurd hu z⟩
    unfold nds at d hb ⊢
    by_cases e : u < 10
    · rw [if_pos e] at d hb ⊢
      rw [if_neg (by omega), List.nil_append] at kk
      rw [m1, nI_clamp (by omega)]
      refine ⟨t2, vp_in_nI hu (by decide), t5, z1, vp_in_nI (by omega) hl, fun g1 e1 => ⟨fun _ => ?_, fun z => absurd (by omega) z⟩⟩
      unfold wJ6_getChars_ba4f3_J104
      have d2 := d.put (48 + u % 10)
      rw [← e1] at d2
      exact ⟨fun _ => kk g1 d2 _, fun z => absurd rfl z⟩
    · rw [if_neg e, if_pos hu] at d hb ⊢
      rw [if_pos (by omega)] at kk
      rw [show b + 2 = (b + 1) + 1 from rfl, m1, m1, nI_clamp (by omega), nI_clamp (by omega)]
      refine ⟨t2, vp_in_nI hu (by decide), t5, z1, vp_in_nI (by omega) hl, fun g1 e1 => ⟨fun z => by omega, fun _ => ⟨t1, vp_in_nI hu (by decide), vp_in_nI (by omega) hl, fun g2 e2 => ?_⟩⟩⟩
      unfold wJ6_getChars_ba4f3_J104
      have d2 := d.put (48 + u % 10)
      rw [← e1] at d2
      obtain ⟨-, -, -, -, -, -, t8⟩ := st d2
      rw [(t8 u hu).1, (byt_c _ (dg _ (by omega))).1] at e2
      have d3 := d2.put (48 + u / 10)
      rw [← e2] at d3
      exact ⟨fun _ => kk g2 d3 _, fun z => absurd rfl z⟩
  unfold wJ6_getChars_ba4f3
  refine ⟨fun _ => ?_, fun z => absurd (nI_pos' (by omega)) z⟩
  unfold wJ6_getChars_ba4f3_J12
  refine ⟨fun z => absurd rfl z, fun _ => ?_⟩
  by_cases hv1 : v < 100
  · refine ⟨1, tail h [] v a 0 hv1 (dgO.rf h r _) (fun g' d' x => k g' ?_ x) ha⟩
    have : nch v = (if 9 < v then [48 + v / 10] else []) ++ [48 + v % 10] := by
      unfold nch
      rw [if_neg (by omega), if_neg (by omega), List.nil_append, List.nil_append, show v / 10 % 10 = v / 10 by omega]
    rw [this]
    exact d'
  · refine ⟨2, ?_⟩
    have hd := div_n hv
    have hnd : nds v = nds (v / 100) + 2 := by
      unfold nds
      rw [if_neg (by omega), if_neg hv1]
      by_cases z : v < 1000
      · rw [if_pos z, if_pos (by omega)]
      · rw [if_neg z, if_neg (by omega), if_pos (by omega)]
    rw [hnd] at ha ⊢
    rw [wJ6_getChars_ba4f3_L22]; dsimp only
    rw [m10.2.2.2.2.1, neg_lt (by decide) (by omega), hd.1, hd.2, show a + (nds (v / 100) + 2) = (a + nds (v / 100) + 1) + 1 from rfl, m1, m1, nI_clamp (by omega), nI_clamp (by omega), nI_clamp (by omega), (s5 _ (by omega : v % 100 < 100)).2, (byt_c _ (dg _ (by omega))).1, s4, s3]
    refine ⟨fun z => by omega, fun _ => ⟨s2, vp_in_nI (by omega) (by decide), q, z1, vp_in_nI (by omega) hl, fun g1 e1 => ⟨s1, vp_in_nI (by omega) (by decide), vp_in_nI (by omega) hl, fun g2 e2 => ?_⟩⟩⟩
    have d1 := (dgO.rf h r (a + nds (v / 100) + 1 + 1)).put (48 + v % 100 % 10)
    rw [← e1] at d1
    obtain ⟨-, -, -, -, -, -, t8⟩ := st d1
    rw [(t8 _ (by omega : v % 100 < 100)).1, (byt_c _ (dg _ (by omega))).1] at e2
    have d2 := d1.put (48 + v % 100 / 10)
    rw [← e2] at d2
    refine tail g2 _ (v / 100) a 0 (by omega) d2 (fun g' d' x => k g' ?_ x) (by omega)
    have : nch v = (if 9 < v / 100 then [48 + v / 100 / 10] else []) ++ (48 + v / 100 % 10) :: [48 + v % 100 / 10, 48 + v % 100 % 10] := by
      unfold nch
      rw [if_pos (show 99 < v by omega), if_pos (show 9 < v by omega), show v / 10 % 10 = v % 100 / 10 by omega, show v % 10 = v % 100 % 10 by omega]
      by_cases z : 999 < v
      · rw [if_pos z, if_pos (by omega), show v / 1000 % 10 = v / 100 / 10 by omega]; rfl
      · rw [if_neg z, if_neg (by omega)]; rfl
    rw [this]
    exact d'
theorem sb_num (s : isO h 604 8) (sd : stD h) (q : sbO h o) {v : Nat} (hv : v < 10000) (ho : o.length ≤ 64) {K : Nat → AH → Prop} (k : ∀ g, fcs h g → isO g 604 8 → sbO g (o ++ nch v) → K 604 g) : wJ4_append_bf812 604 (nI v) h K := by
  have hn := nch_l v
  rw [nch_n] at hn
  unfold wJ4_append_bf812 wJ5_append_c97b9
  refine ⟨s, s, c_size hv ⟨s, ?_⟩⟩
  rw [q.2.2.2.2.2.2.1, nI_add]
  refine sb_ens s q (by omega) (by omega) (fun g f1 e1 q1 hl s1 => ⟨s1, isLat s1 q1 ⟨fun z => absurd z (by rw [n1_ne]; exact id), fun _ => ⟨s1, ?_⟩⟩⟩)
  have sd1 : stD g := sd.sm (fun a ha => f1.low q (by omega))
  have hr := q1.2.1
  have hln := q1.2.2.2.2.1
  refine c_chars sd1 q1.1 (by omega) (by omega) hv hl (fun g2 d x => ?_)
  obtain ⟨d1, d2, d3, d4, d5, d6⟩ := d
  unfold wJ5_append_c97b9_J48
  refine ⟨by unfold isO; rw [d2]; exact s1, fun g3 e3 => ?_⟩
  have r604 : mR g 604 0 ≠ 604 := by omega
  have eI : ∀ b, b ≠ 604 → mI g3 b = mI g2 b := fun b hb => by rw [e3, mI_o hb]
  have eS : mS g3 = mS g := by rw [e3, mS_uI, d2]
  have eR : mR g3 = mR g := by rw [e3, mR_uI, d3]
  have eL : mL g3 = mL g := by rw [e3, mL_uI, d4]
  have eN : mN g3 = mN g := by rw [e3, mN_uI, d1]
  have f2 : fcs g g3 := ⟨Nat.le_of_eq eN.symm, by rw [eS], Or.inl (by rw [eR]), fun a _ h1 h2 => ⟨by rw [eS], (eI a h1).trans (d5 a h2), by rw [eR], by rw [eL]⟩⟩
  refine k g3 (f1.tr f2) (by unfold isO; rw [eS]; exact s1) ?_
  obtain ⟨q11, q12, q13, q14, q15, q16, q17, q18, q19⟩ := q1
  have g6 : ∀ i, mI g3 (mR g 604 0) i = if o.length ≤ i then (match (nch v)[i - o.length]? with
      | some c => nI c
      | none => mI g (mR g 604 0) i) else mI g (mR g 604 0) i := fun i => by rw [eI _ r604]; exact d6 i
  refine ⟨?_, ?_, ?_, ?_, ?_, ?_, ?_, fun i c hc => ?_, fun i => ?_⟩
  · rw [eR]; unfold isA; rw [eS]; exact q11
  · rw [eR]; exact q12
  · rw [eR, eN]; exact q13
  · rw [eR]; unfold ln; rw [eS, List.length_append, nch_n]; exact hl
  · rw [eR]; unfold ln; rw [eS]; exact q15
  · rw [e3, mI_uI, if_neg (by omega), d5 604 (fun z => r604 z.symm)]; exact q16
  · rw [e3, mI_uI, if_pos ⟨rfl, rfl⟩, List.length_append, nch_n]
  · rw [eR, g6]
    by_cases z : o.length ≤ i
    · rw [if_pos z]
      rw [List.getElem?_append_right z] at hc
      rw [hc]
    · rw [if_neg z]
      rw [List.getElem?_append_left (by omega)] at hc
      exact q18 i c hc
  · rw [eR, g6]
    by_cases z : o.length ≤ i
    · rw [if_pos z]
      cases hc : (nch v)[i - o.length]? with
      | none => exact q19 i
      | some c => exact ⟨c, nch_c v c (List.mem_of_getElem? hc), rfl⟩
    · rw [if_neg z]; exact q19 i
end NU
