/-! THE MODEL'S CHANGES: links, shutting, opening, throwing points over -/
section SH
variable {h g : AH} {A : AG} {G : LG} {f f' : Nat → Int32}
theorem IL.k12 (i : IL G) : gk G ≤ 12 := by
  have h1 := i.2.2.2.2.2.2.2.2.2
  have h2 := List.countP_le_length (p := fun b => (gf G b).isSome) (l := List.range (gn G))
  rw [List.length_range] at h2
  have := i.1
  omega
theorem link_rm (i : IMs A) (r : rm f A) {s t : Nat} (hs : s < gn (aL A)) (hp : s ∉ gp (aL A)) : rm (ups (ups f (9 + 6 * s + 2) (nI (t + 1))) 2 (nI (gk (aL A) + 1))) (wL A (gLink (aL A) s t)) := by
  have h12 := i.1.1
  obtain ⟨r1, r2, r3, r4, r5, r6⟩ := r
  have hq := i.2.2.1
  have o : ∀ k, k ≠ 2 → k ≠ 9 + 6 * s + 2 → ups (ups f (9 + 6 * s + 2) (nI (t + 1))) 2 (nI (gk (aL A) + 1)) k = f k := fun k h1 h2 => by rw [ups_o h1, ups_o h2]
  have hne : ∀ y ∈ gp (aL A), y ≠ s := fun y hy e => hp (e ▸ hy)
  refine ⟨⟨?_, ?_, ?_, ?_⟩, fun b hb => ⟨fun hg => ?_, ?_, ?_, ?_⟩, fun p hp8 => ⟨fun y hy => ?_, fun z => ?_⟩, r4.cg (fun t ht => i.th ht) (fun i k hi hk => o _ (by omega) (by omega)), eK.cg (A := wL A (gLink (aL A) s t)) r5 (fun b hb => o _ (by omega) (by omega)) (fun b hb => o _ (by omega) (by omega)) (fun p hp8 => o _ (by omega) (by omega)), r6.cg hq (fun i hi => o _ (by omega) (by omega))⟩
  · rw [o 0 (by omega) (by omega)]; exact r1.1
  · rw [o 1 (by omega) (by omega)]; exact r1.2.1
  · rw [ups_s]; rfl
  · rw [o 3 (by omega) (by omega), o 4 (by omega) (by omega), o 5 (by omega) (by omega), o 6 (by omega) (by omega), o 7 (by omega) (by omega), o 8 (by omega) (by omega)]
    exact r1.2.2.2
  · rw [o _ (by omega) (by omega)]; exact (r2 b hb).1 hg
  · rw [o _ (by omega) (by omega)]; exact (r2 b hb).2.1
  · by_cases e : b = s
    · rw [e, ups_o (by omega), ups_s]
      congr 1
      show _ = if s < gn (aL A) ∧ s ∉ gp (aL A) then sE (ups (gf (aL A)) s (some t) s) else 0
      rw [if_pos ⟨hs, hp⟩, ups_s]; rfl
    · rw [o _ (by omega) (by omega), (r2 b hb).2.2.1]
      congr 1
      show _ = if b < gn (aL A) ∧ b ∉ gp (aL A) then sE (ups (gf (aL A)) s (some t) b) else 0
      rw [ups_o e]; rfl
  · rw [o _ (by omega) (by omega)]; exact (r2 b hb).2.2.2
  · have hm := hne y (List.mem_of_getElem? hy)
    rw [o _ (by omega) (by omega), o _ (by omega) (by omega), o _ (by omega) (by omega), o _ (by omega) (by omega)]
    have := (r3 p hp8).1 y hy
    refine ⟨this.1, ?_, ?_, this.2.2.2⟩
    · show _ = oI (ups (gf (aL A)) s (some t) y)
      rw [ups_o hm]; exact this.2.1
    · show _ = oI (ups (gr (aL A)) s (some t) y)
      rw [ups_o hm]; exact this.2.2.1
  · rw [o _ (by omega) (by omega)]; exact (r3 p hp8).2 z
theorem m_links (s : sM h) (i : IMs A) (r : rm (mI h 607) A) {x y : Int32} {K : Int32 → AH → Prop} (k : mopK h (oLink A x y) K) : wX10_links 606 x y h K := by
  have h12 := i.1.1
  have k12 := i.1.k12
  unfold wX10_links
  simp only [m_isBlock s i.1 r, s.o, true_and]
  unfold oLink at k
  refine (iv_if (P := _) (Q := _) (fun e => ?_) (fun a ha ea e => ?_) (by omega)).symm
  · rw [e] at k; exact k.1 (Nat.succ_ne_zero _)
  rw [e] at k
  refine iv_if (fun e => ?_) (fun b hb eb e => ?_) (by omega)
  · rw [e] at k; exact k.1 (Nat.succ_ne_zero _)
  rw [e] at k
  subst ea eb
  simp only at k
  have e0 := r.1.2.2.1
  have e1 := (r.2.1 a (by omega)).2.2.1
  have e2 := (r.2.1 a (by omega)).2.2.2
  have l1 := lkE_lt i.1 a
  have l2 := stE_lt i.1 a
  simp (disch := omega) only [nI_add, pk_mul, nI_clamp, nI_leI, nI_ltI, nI_eq, vp_in_nI, s.o, s.r1, s.a7, s.l7, nz7, e0, e1, e2, true_and, m_block s (show a < 12 by omega), forall_eq]
  by_cases z1 : a = b
  · rw [if_pos z1] at k
    exact ⟨fun z => absurd z1 z, fun _ => k.1 (Nat.succ_ne_zero _)⟩
  rw [if_neg z1] at k
  refine ⟨fun _ => ?_, fun z => absurd z z1⟩
  by_cases z3 : (gf (aL A) a).isSome = true
  · rw [if_pos z3] at k
    have k1 := k.1 (Nat.succ_ne_zero _)
    rcases (gf_p i.1 ha).mp z3 with z4 | z4
    · have := stE_z.mpr z4
      exact ⟨fun _ => k1, fun z => absurd this z⟩
    · exact ⟨fun _ => k1, fun _ => ⟨fun z => absurd z (by omega), fun _ => k1⟩⟩
  rw [if_neg z3] at k
  obtain ⟨y1, y2, y3⟩ := gf_n i.1 ha z3
  have y4 : ¬ 0 < stE (aL A) a := fun z => y3 (stE_z.mp z)
  have y5 : lkE (aL A) a = 0 := by
    by_cases z : lkE (aL A) a = 0
    · exact z
    · exact absurd ((gf_p i.1 ha).mpr (Or.inr z)) z3
  refine ⟨fun z => absurd z y4, fun _ => ⟨fun _ => ?_, fun z => absurd z (by omega)⟩⟩
  rw [m_puts s (show a < 12 by omega) (show 2 < 6 by decide)]
  simp (disch := omega) only [isO_uI, isA_uI, ln_uI, mR_uI, isO_uR, isA_uR, ln_uR, mI_uR, isO_uL, isA_uL, ln_uL, mR_uL, mI_uL, mL_uI, mL_uR, isO_uA, isA_uA, ln_uA, mR_uA, mL_uA, mS_uI, mS_uR, mS_uL, mS_uA, s.o, s.r1, s.a7, s.l7, nz7, true_and, nI_add, pk_mul, nI_clamp, nI_leI, nI_ltI, nI_eq, vp_in_nI]
  have c2 : mf [607] [] h (uI (uI h 607 (9 + 6 * a + 2) (nI (b + 1))) 607 2 (nI (gk (aL A) + 1))) := (mf.ui (by decide) (by decide)).tr (mf.ui (by decide) (by decide))
  have e7 : mI (uI h 607 (9 + 6 * a + 2) (nI (b + 1))) 607 2 = nI (gk (aL A)) := by rw [mI_up, ups_o (by omega)]; exact e0
  simp (disch := omega) only [mI_uI, show ¬ (2 = 9 + 6 * a + 2) by omega, and_false, if_false, e0, nI_add, pk_mul, nI_clamp, nI_leI, nI_ltI, nI_eq, vp_in_nI, and_self, if_true]
  refine k.end (c2.s s) rfl (c2.mo (by decide) (by decide)) ?_ rfl
  rw [mI_up, mI_up]
  exact link_rm i r ha y3
theorem shut_rm (i : IMs A) (r : rm f A) {b m v : Nat} (hb : b < 12) (hv : v = bitE m b) (hm : ∀ c, c ≠ b → m.testBit c = (gh (aL A)).testBit c) : rm (ups f (9 + 6 * b + 1) (nI v)) (wL A (gShut (aL A) m)) := by
  obtain ⟨r1, r2, r3, r4, r5, r6⟩ := r
  have hq := i.2.2.1
  have o : ∀ k, k ≠ 9 + 6 * b + 1 → ups f (9 + 6 * b + 1) (nI v) k = f k := fun k h1 => ups_o h1
  refine ⟨eH.cg (A := wL A (gShut (aL A) m)) r1 (fun k hk => o k (by omega)), fun c hc => ⟨fun hg => ?_, ?_, ?_, ?_⟩, eP.cg (G := gShut (aL A) m) r3 (fun p k hp hk => o _ (by omega)), r4.cg (fun t ht => i.th ht) (fun i k hi hk => o _ (by omega)), eK.cg (A := wL A (gShut (aL A) m)) r5 (fun b hb => o _ (by omega)) (fun b hb => o _ (by omega)) (fun p hp8 => o _ (by omega)), r6.cg hq (fun i hi => o _ (by omega))⟩
  · rw [o _ (by omega)]; exact (r2 c hc).1 hg
  · show _ = nI (bitE m c)
    by_cases e : c = b
    · rw [e, ups_s, hv]
    · rw [o _ (by omega), (r2 c hc).2.1]
      unfold bitE
      rw [hm c e]
  · rw [o _ (by omega)]; exact (r2 c hc).2.2.1
  · rw [o _ (by omega)]; exact (r2 c hc).2.2.2
theorem cnt_l9 {m x : Nat} : (List.range x).countP (fun c => m.testBit c) ≤ x := by
  have h2 := List.countP_le_length (p := fun c => m.testBit c) (l := List.range x)
  rwa [List.length_range] at h2
theorem m_shutMany_l (s : sM h) (i : IL (aL A)) (r : rm (mI h 607) A) {K : Int32 → AH → Prop} (k : K (nI (pc (gh (aL A)))) h) : ∀ n x, x + n = gn (aL A) → wX10_shutMany_L4 K (n + 1) 606 (nI ((List.range x).countP (fun c => (gh (aL A)).testBit c))) (nI x) h := by
  have h12 := i.1
  intro n
  induction n with
  | zero =>
    intro x hx
    have hx' : x = gn (aL A) := hx
    rw [wX10_shutMany_L4]; dsimp only
    simp (disch := omega) only [s.o, s.r1, s.a7, s.l7, nI_add, pk_mul, nI_clamp, nI_leI, nI_ltI, nI_eq, vp_in_nI, true_and, r.1.1]
    refine ⟨fun _ => ?_, fun z => absurd (Nat.le_of_eq hx'.symm) z⟩
    have : (List.range x).countP (fun c => (gh (aL A)).testBit c) = pc (gh (aL A)) := by
      unfold pc
      obtain ⟨d, hd⟩ : ∃ d, 12 = x + d := ⟨12 - x, by omega⟩
      rw [hd, List.range_add, List.countP_append]
      have : ((List.range d).map (x + ·)).countP (fun c => (gh (aL A)).testBit c) = 0 := by
        rw [List.countP_eq_zero]
        intro c hc
        obtain ⟨e, -, rfl⟩ := List.mem_map.mp hc
        have := Nat.testBit_lt_two_pow (x := gh (aL A)) (i := x + e) (Nat.lt_of_lt_of_le i.2.2.2.2.2.2.2.1 (Nat.pow_le_pow_right (by decide) (by omega)))
        simp [this]
      rw [this]; rfl
    rw [this]; exact k
  | succ n ih =>
    intro x hx
    have e1 := (r.2.1 x (by omega)).2.1
    have hc := cnt_l9 (m := gh (aL A)) (x := x)
    have hb : bitE (gh (aL A)) x ≤ 1 := by unfold bitE; by_cases z : (gh (aL A)).testBit x = true <;> simp [z]
    rw [wX10_shutMany_L4]; dsimp only
    simp (disch := omega) only [s.o, s.r1, s.a7, s.l7, nI_add, pk_mul, nI_clamp, nI_leI, nI_ltI, nI_eq, vp_in_nI, true_and, r.1.1, m_block s (show x < 12 by omega), e1]
    refine ⟨fun z => absurd z (by omega), fun _ => ?_⟩
    have e : (List.range x).countP (fun c => (gh (aL A)).testBit c) + bitE (gh (aL A)) x = (List.range (x + 1)).countP (fun c => (gh (aL A)).testBit c) := by
      rw [List.range_succ, List.countP_append]
      unfold bitE
      by_cases z : (gh (aL A)).testBit x = true <;> simp [z]
    rw [e]
    exact ih (x + 1) (by omega)
theorem m_shutMany (s : sM h) (i : IL (aL A)) (r : rm (mI h 607) A) {K : Int32 → AH → Prop} (k : K (nI (pc (gh (aL A)))) h) : wX10_shutMany 606 h K := ⟨gn (aL A) + 1, m_shutMany_l s i r k (gn (aL A)) 0 (by omega)⟩
theorem m_shuts (s : sM h) (i : IMs A) (r : rm (mI h 607) A) {x : Int32} {K : Int32 → AH → Prop} (k : mopK h (oShut A x) K) : wX10_shuts 606 x h K := by
  have h12 := i.1.1
  unfold wX10_shuts
  simp only [m_isBlock s i.1 r, s.o, true_and]
  unfold oShut at k
  refine iv_if (fun e => ?_) (fun b hb eb e => ?_) (by omega)
  · rw [e] at k; exact k.1 (Nat.succ_ne_zero _)
  rw [e] at k
  subst eb
  simp only at k
  have e1 := (r.2.1 b (by omega)).2.1
  have e2 := (r.2.2.2.2.1.1 b (by omega)).2
  have l2 := i.rs b
  have l1 : bitE (gh (aL A)) b ≤ 1 := by unfold bitE; by_cases z : (gh (aL A)).testBit b = true <;> simp [z]
  simp (disch := omega) only [nI_add, pk_mul, nI_clamp, nI_leI, nI_ltI, nI_eq, vp_in_nI, s.o, e1, e2, true_and, m_block s (show b < 12 by omega)]
  by_cases z1 : (gh (aL A)).testBit b = true
  · rw [if_pos (Or.inl z1)] at k
    have : bitE (gh (aL A)) b = 1 := if_pos z1
    exact ⟨fun _ => k.1 (Nat.succ_ne_zero _), fun z => absurd this z⟩
  have z2 : bitE (gh (aL A)) b = 0 := if_neg z1
  refine ⟨fun z => absurd z (by omega), fun _ => ?_⟩
  by_cases z3 : resv A b = true
  · rw [if_pos (Or.inr z3)] at k
    refine ⟨fun z => ?_, fun _ => k.1 (Nat.succ_ne_zero _)⟩
    rw [rs_z.mp (by omega)] at z3
    cases z3
  have z4 : rsE A b = 0 := rs_z.mpr (by simpa using z3)
  rw [if_neg (fun z => z.elim z1 z3)] at k
  refine ⟨fun _ => ?_, fun z => absurd (by omega) z⟩
  rw [m_puts s (show b < 12 by omega) (show 1 < 6 by decide)]
  have c : mf [607] [] h (uI h 607 (9 + 6 * b + 1) (nI 1)) := mf.ui (by decide) (by decide)
  have q : rm (mI (uI h 607 (9 + 6 * b + 1) (nI 1)) 607) (wL A (gShut (aL A) (gh (aL A) ||| 2 ^ b))) := by
    rw [mI_up]
    refine shut_rm i r (by omega) (v := 1) ?_ (fun y hy => ?_)
    · unfold bitE; rw [tb_or]; simp
    · rw [tb_or]; have : ¬ b = y := fun z => hy z.symm; simp [this]
  have il : IL (gShut (aL A) (gh (aL A) ||| 2 ^ b)) := by
    obtain ⟨i1, i2, i3, i4, i5, i6, i7, i8, i9, i10⟩ := i.1
    exact ⟨i1, i2, i3, i4, i5, i6, i7, or_lt i8 (p2_lt hb), i9, i10⟩
  refine ⟨(c.s s).o, m_shutMany (A := wL A (gShut (aL A) (gh (aL A) ||| 2 ^ b))) (c.s s) il q ⟨(c.s s).o, ?_⟩⟩
  exact k.end (c.s s) rfl (c.mo (by decide) (by decide)) q rfl
theorem m_opens (s : sM h) (i : IMs A) (r : rm (mI h 607) A) {x : Int32} {K : Int32 → AH → Prop} (k : mopK h (oOpen A x) K) : wX10_opens 606 x h K := by
  have h12 := i.1.1
  have hh : gh (aL A) < 2 ^ 32 := Nat.lt_of_lt_of_le i.1.2.2.2.2.2.2.2.1 (Nat.pow_le_pow_right (by decide) (by omega))
  unfold wX10_opens
  simp only [m_isBlock s i.1 r, s.o, true_and]
  unfold oOpen at k
  refine iv_if (fun e => ?_) (fun b hb eb e => ?_) (by omega)
  · rw [e] at k; exact k.1 (Nat.succ_ne_zero _)
  rw [e] at k
  subst eb
  simp only at k
  have e1 := (r.2.1 b (by omega)).2.1
  have l1 : bitE (gh (aL A)) b ≤ 1 := by unfold bitE; by_cases z : (gh (aL A)).testBit b = true <;> simp [z]
  simp (disch := omega) only [nI_add, pk_mul, nI_clamp, nI_leI, nI_ltI, nI_eq, vp_in_nI, s.o, e1, true_and, m_block s (show b < 12 by omega)]
  by_cases z9 : ¬ (gh (aL A)).testBit b = true
  · rw [if_neg z9] at k
    have : bitE (gh (aL A)) b = 0 := if_neg z9
    exact ⟨fun z => absurd this z, fun _ => k.1 (Nat.succ_ne_zero _)⟩
  have z1 : (gh (aL A)).testBit b = true := Classical.not_not.mp z9
  rw [if_pos z1] at k
  have z2 : bitE (gh (aL A)) b = 1 := if_pos z1
  refine ⟨fun _ => ?_, fun z => absurd z (by omega)⟩
  rw [m_puts s (show b < 12 by omega) (show 1 < 6 by decide)]
  have c : mf [607] [] h (uI h 607 (9 + 6 * b + 1) (nI 0)) := mf.ui (by decide) (by decide)
  have q : rm (mI (uI h 607 (9 + 6 * b + 1) (nI 0)) 607) (wL A (gShut (aL A) (clr (gh (aL A)) b))) := by
    rw [mI_up]
    refine shut_rm i r (by omega) (v := 0) ?_ (fun y hy => ?_)
    · unfold bitE; rw [clr_bit hh]; simp
    · rw [clr_bit hh]; have : ¬ b = y := fun z => hy z.symm; simp [this]
  have il : IL (gShut (aL A) (clr (gh (aL A)) b)) := by
    obtain ⟨i1, i2, i3, i4, i5, i6, i7, i8, i9, i10⟩ := i.1
    exact ⟨i1, i2, i3, i4, i5, i6, i7, Nat.lt_of_le_of_lt (clr_le _ _) i8, i9, i10⟩
  refine ⟨(c.s s).o, m_shutMany (A := wL A (gShut (aL A) (clr (gh (aL A)) b))) (c.s s) il q ⟨(c.s s).o, ?_⟩⟩
  exact k.end (c.s s) rfl (c.mo (by decide) (by decide)) q rfl
theorem side_rm (i : IMs A) (r : rm f A) {p y m v : Nat} (hp : (gp (aL A))[p]? = some y) (hv : v = bitE m y) (hm : ∀ c ∈ gp (aL A), c ≠ y → m.testBit c = (gd (aL A)).testBit c) : rm (ups f (81 + 5 * p + 3) (nI v)) (wL A (gSide (aL A) m)) := by
  obtain ⟨r1, r2, r3, r4, r5, r6⟩ := r
  have hq := i.2.2.1
  have h8 := i.1.2.2.2.2.1
  have hpl := (List.getElem?_eq_some_iff.mp hp).1
  have o : ∀ k, k ≠ 81 + 5 * p + 3 → ups f (81 + 5 * p + 3) (nI v) k = f k := fun k h1 => ups_o h1
  refine ⟨eH.cg (A := wL A (gSide (aL A) m)) r1 (fun k hk => o k (by omega)), eB.cg (G := gSide (aL A) m) r2 (fun b k hb hk => o _ (by omega)), fun p' hp' => ⟨fun y' hy' => ?_, fun z => ?_⟩, r4.cg (fun t ht => i.th ht) (fun i k hi hk => o _ (by omega)), eK.cg (A := wL A (gSide (aL A) m)) r5 (fun b hb => o _ (by omega)) (fun b hb => o _ (by omega)) (fun p hp8 => o _ (by omega)), r6.cg hq (fun i hi => o _ (by omega))⟩
  · have hy2 : (gp (aL A))[p']? = some y' := hy'
    obtain ⟨s1, s2, s3, s4⟩ := (r3 p' hp').1 y' hy2
    refine ⟨by rw [o _ (by omega)]; exact s1, by rw [o _ (by omega)]; exact s2, by rw [o _ (by omega)]; exact s3, ?_⟩
    show _ = nI (bitE m y')
    by_cases e : p' = p
    · subst e
      rw [hp] at hy2
      cases hy2
      rw [ups_s, hv]
    · rw [o _ (by omega), s4]
      unfold bitE
      rw [hm y' (List.mem_of_getElem? hy2) (fun z => e ((List.getElem?_inj (List.getElem?_eq_some_iff.mp hy2).1 i.1.2.2.2.1).mp (by rw [hy2, hp, z])))]
  · have z2 : (gp (aL A)).length ≤ p' := z
    rw [o _ (by omega)]; exact (r3 p' hp').2 z2
theorem m_throwsOver (s : sM h) (i : IMs A) (r : rm (mI h 607) A) {x : Int32} {K : Int32 → AH → Prop} (k : mopK h (oThrow A x) K) : wX10_throwsOver 606 x h K := by
  have h8 := i.1.2.2.2.2.1
  unfold wX10_throwsOver
  simp only [m_isPoint s i.1 r, s.o, true_and]
  unfold oThrow at k
  refine iv_if (fun e => ?_) (fun p hp ep e => ?_) (by omega)
  · rw [e] at k; exact k.1 (Nat.succ_ne_zero _)
  rw [e] at k
  subst ep
  have hy : (gp (aL A))[p]? = some (gp (aL A))[p] := List.getElem?_eq_getElem hp
  generalize (gp (aL A))[p] = y at hy
  simp only [hy] at k
  have e1 := r.2.2.2.2.1.2 p (by omega)
  have e2 := ((r.2.2.1 p (by omega)).1 y hy).2.2.2
  have l1 := i.lc p
  have l2 : bitE (gd (aL A)) y ≤ 1 := by unfold bitE; by_cases z : (gd (aL A)).testBit y = true <;> simp [z]
  have hl : lcE A p = toE (lkr A y) := by unfold lcE; rw [hy]; rfl
  simp (disch := omega) only [nI_add, pk_mul, nI_clamp, nI_leI, nI_ltI, nI_eq, vp_in_nI, s.o, s.r1, s.a7, s.l7, nz7, e1, e2, true_and, m_point s (show p < 8 by omega), forall_eq]
  by_cases z1 : (lkr A y).isSome = true
  · rw [if_pos z1] at k
    refine ⟨fun z => ?_, fun _ => k.1 (Nat.succ_ne_zero _)⟩
    rw [hl] at z
    have z5 : lkr A y = none := (toE_z _).mp (Nat.le_zero.mp z)
    rw [z5] at z1
    cases z1
  have z2 : lcE A p = 0 := by
    rw [hl, toE_z]
    cases hc : lkr A y with
    | none => rfl
    | some t => rw [hc] at z1; exact absurd rfl z1
  rw [if_neg z1] at k
  refine ⟨fun _ => ?_, fun z => absurd (by omega) z⟩
  rw [nI_sub (by omega)]
  have c : mf [607] [] h (uI h 607 (81 + 5 * p + 3) (nI (1 - bitE (gd (aL A)) y))) := mf.ui (by decide) (by decide)
  have e3 : mI (uI h 607 (81 + 5 * p + 3) (nI (1 - bitE (gd (aL A)) y))) 607 (81 + 5 * p + 3) = nI (1 - bitE (gd (aL A)) y) := by rw [mI_up, ups_s]
  rw [m_point (c.s s) (show p < 8 by omega) (show 3 < 5 by decide), e3, nI_sub (by omega)]
  refine ⟨(c.s s).o, k.end (c.s s) rfl (c.mo (by decide) (by decide)) ?_ ?_⟩
  · rw [mI_up]
    refine side_rm i r hy ?_ (fun y' _ hy' => ?_)
    · unfold bitE
      rw [Nat.testBit_xor, Nat.testBit_two_pow]
      by_cases z : (gd (aL A)).testBit y = true <;> simp [z]
    · rw [Nat.testBit_xor, Nat.testBit_two_pow]
      have : ¬ y = y' := fun z => hy' z.symm
      simp [this]
  · unfold bitE
    by_cases z : (gd (aL A)).testBit y = true <;> simp [z]
end SH
