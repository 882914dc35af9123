/-! THE MODEL'S QUESTIONS: running trains, the queue, refusals, errors -/
section MQ4
variable {h g : AH} {A : AG} {X : BG} {w : Nat} {K : Int32 → AH → Prop}
theorem m9_isPresent (q : RMb h X) (i : IMs (bA X)) {x : Int32} (kk : mqK h X (0, if (fnd (bA X) x).isSome then nI 1 else nI 0) K) : wX10_isPresent 606 x h K := by
  unfold wX10_isPresent
  refine ⟨q.1.o, fun g1 hg1 => ?_⟩
  have c : mf [614, 615, 616, 617, 618] [0, 20] h g1 := by rw [hg1]; exact mf.uf (by decide)
  have e0 : mI g1 606 0 = nI 0 := by rw [hg1, mI_uI, if_pos ⟨rfl, rfl⟩]
  refine m_placeOf (c.s q.1) i (q.2.1.fr c (by decide)) (fun hf => ⟨fun _ => ?_, fun z => absurd rfl z⟩) (fun j t ht hf hx => ⟨fun z => ?_, fun _ => ?_⟩)
  · rw [hf] at kk; exact kk.to q c e0
  · have := (i.j8 ht).1
    exact absurd z (by rw [nI_nem (by omega)]; exact id)
  · rw [hf] at kk; exact kk.to q c e0
theorem m9_isClear (q : RMb h X) (k : GK (bA X)) (hC : aC (bA X) ≤ 9000) {x : Int32} (kk : mqK h X (qT (fun t => if can (bA X) t = true then nI 1 else nI 0) (bA X) x) K) : wX10_isClear 606 x h K := by
  have i := k.ims hC
  unfold wX10_isClear
  unfold qT at kk
  refine ⟨q.1.o, m_placeOf q.1 i q.2.1 (fun hf => ⟨fun z => absurd rfl z, fun _ => ?_⟩) (fun j t ht hf hx => ?_)⟩
  · unfold wX10_isClear_J17
    refine ⟨q.1.o, fun g1 hg1 => ⟨q.1.o, ?_⟩⟩
    have c : mf [614, 615, 616, 617, 618] [0, 20] h g1 := by rw [hg1]; exact mf.uf (by decide)
    have e0 : mI g1 606 0 = nI 1 := by rw [hg1, mI_uI, if_pos ⟨rfl, rfl⟩]
    rw [e0]
    rw [hf] at kk
    exact ⟨fun _ => kk.to q c e0, fun z => absurd z (by decide)⟩
  · obtain ⟨j8, tm_⟩ := i.j8 ht
    refine ⟨fun _ => ?_, fun z => absurd z (by rw [nI_nem (by omega)]; exact id)⟩
    unfold wX10_isClear_J17
    refine ⟨q.1.o, fun g1 hg1 => ⟨q.1.o, ?_⟩⟩
    have c : mf [614, 615, 616, 617, 618] [0, 20] h g1 := by rw [hg1]; exact mf.uf (by decide)
    have e0 : mI g1 606 0 = nI 0 := by rw [hg1, mI_uI, if_pos ⟨rfl, rfl⟩]
    rw [e0]
    rw [hf] at kk
    refine ⟨fun z => absurd rfl z, fun _ => m_isFree (c.s q.1) i k.2.1 (q.2.1.fr c (by decide)) ht (k.2.2.2.1 t tm_).2.2.1 (fun g2 c2 => ?_)⟩
    have := kk.to q (c.tr (c2.mo (by decide) (by decide))) (by rw [c2.f (by decide)]; exact e0)
    by_cases z : can (bA X) t = true
    · rw [if_pos z]
      simp only [z, if_true] at this
      exact ⟨fun z => absurd z (by decide), fun _ => this⟩
    · rw [if_neg z]
      simp only [z, if_false] at this
      exact ⟨fun _ => this, fun z => absurd rfl z⟩
theorem m_isRunning (q : RMb h X) (i : IMs (bA X)) {x : Int32} (kN : (fnd (bA X) x = none ∨ ∃ t, fnd (bA X) x = some t ∧ tr t = []) → ∀ g, mf [614, 615, 616, 617, 618] [0, 20] h g → mI g 606 0 = nI 1 → K (nI 0) g) (kS : ∀ (j : Nat) (t : TG), (aT (bA X))[j]? = some t → fnd (bA X) x = some t → tr t ≠ [] → ∀ g, mf [614, 615, 616, 617, 618] [0, 20] h g → mI g 606 0 = nI 0 → K (nI 1) g) : wX10_isRunning 606 x h K := by
  have bad : (fnd (bA X) x = none ∨ ∃ t, fnd (bA X) x = some t ∧ tr t = []) → wX10_isRunning_J21 K 606 606 h := fun e => by
    unfold wX10_isRunning_J21 wX10_isRunning_J26
    refine ⟨q.1.o, fun g1 hg1 => ⟨q.1.o, ?_⟩⟩
    have c : mf [614, 615, 616, 617, 618] [0, 20] h g1 := by rw [hg1]; exact mf.uf (by decide)
    have e0 : mI g1 606 0 = nI 1 := by rw [hg1, mI_uI, if_pos ⟨rfl, rfl⟩]
    rw [e0]
    exact ⟨fun _ => kN e g1 c e0, fun z => absurd z (by decide)⟩
  unfold wX10_isRunning
  refine ⟨q.1.o, m_placeOf q.1 i q.2.1 (fun hf => ⟨fun _ => bad (Or.inl hf), fun z => absurd rfl z⟩) (fun j t ht hf hx => ?_)⟩
  obtain ⟨j8, tm_⟩ := i.j8 ht
  refine ⟨fun z => absurd z (by rw [nI_nem (by omega)]; exact id), fun _ => ⟨q.1.o, ?_⟩⟩
  rw [m_train q.1 j8 (show 3 < 19 by decide), (q.2.1.t j8 ht).2.2.2.1]
  by_cases hr : tr t = []
  · rw [if_pos hr]
    exact ⟨fun z => absurd rfl z, fun _ => bad (Or.inr ⟨t, hf, hr⟩)⟩
  · rw [if_neg hr]
    refine ⟨fun _ => ?_, fun z => absurd z (by decide)⟩
    unfold wX10_isRunning_J26
    refine ⟨q.1.o, fun g1 hg1 => ⟨q.1.o, ?_⟩⟩
    have c : mf [614, 615, 616, 617, 618] [0, 20] h g1 := by rw [hg1]; exact mf.uf (by decide)
    have e0 : mI g1 606 0 = nI 0 := by rw [hg1, mI_uI, if_pos ⟨rfl, rfl⟩]
    rw [e0]
    exact ⟨fun z => absurd rfl z, fun _ => kS j t ht hf hr g1 c e0⟩
theorem m9_minutesUntilNext (q : RMb h X) (k : GK (bA X)) (hC : aC (bA X) ≤ 9000) {x : Int32} (kk : mqK h X (qR (fun t => nI (tu t - aM (bA X))) (bA X) x) K) : wX10_minutesUntilNext 606 x h K := by
  have i := k.ims hC
  unfold wX10_minutesUntilNext
  unfold qR at kk
  refine ⟨q.1.o, m_isRunning q i (fun e g c e0 => ⟨fun _ => ?_, fun z => absurd rfl z⟩) (fun j t ht hf hr g c e0 => ⟨fun z => absurd z (by decide), fun _ => ?_⟩)⟩
  · rcases e with e | ⟨t, e, er⟩
    · rw [e] at kk; exact kk.to q c e0
    · rw [e] at kk
      simp only at kk
      rw [if_pos er] at kk; exact kk.to q c e0
  · have s' := c.s q.1
    have r' := q.2.1.fr c (by decide)
    rw [hf] at kk
    simp only at kk
    rw [if_neg hr] at kk
    refine ⟨s'.o, m_placeOf s' i r' (fun hn => by rw [hf] at hn; cases hn) (fun j2 t2 ht2 hf2 hx => ?_)⟩
    rw [hf] at hf2
    cases hf2
    obtain ⟨j8, tm_⟩ := i.j8 ht2
    have hdue := ((k.2.2.2.1 t tm_).2.2.2.2.2.2.1 hr).2.1
    have e6 := r'.1.2.2.2.2.2.2.1
    have et := (r'.t j8 ht2).2.2.2.2.1 hr
    simp (disch := omega) only [s'.o, s'.r1, s'.a7, s'.l7, m_train s' j8, et, e6, nI_add, pk_mul, nI_clamp, nI_leI, nI_ltI, nI_eq, vp_in_nI, true_and]
    rw [nI_sub (by omega)]
    exact kk.to q c e0
theorem m9_queued (q : RMb h X) (i : IMs (bA X)) {x : Int32} (kk : mqK h X (qQ (bA X) x) K) : wX10_queued 606 x h K := by
  have s := q.1
  have e5 := q.2.1.1.2.2.2.2.2.1
  have h8 := i.2.2.1
  unfold wX10_queued
  unfold qQ at kk
  simp (disch := omega) only [s.o, s.r1, s.a7, s.l7, nI_add, pk_mul, nI_clamp, nI_leI, nI_ltI, nI_eq, vp_in_nI, true_and, e5]
  rw [m_inS (by omega)]
  refine (iv_if (P := _) (Q := _) (fun e => ?_) (fun j hj ej e => ?_) (by omega)).symm
  · unfold wX10_queued_J22
    refine ⟨q.1.o, fun g1 hg1 => ⟨q.1.o, ?_⟩⟩
    have c : mf [614, 615, 616, 617, 618] [0, 20] h g1 := by rw [hg1]; exact mf.uf (by decide)
    have e0 : mI g1 606 0 = nI 1 := by rw [hg1, mI_uI, if_pos ⟨rfl, rfl⟩]
    rw [e0]
    rw [e] at kk
    exact ⟨fun z => absurd z (by decide), fun _ => kk.to q c e0⟩
  · unfold wX10_queued_J22
    refine ⟨q.1.o, fun g1 hg1 => ⟨q.1.o, ?_⟩⟩
    have c : mf [614, 615, 616, 617, 618] [0, 20] h g1 := by rw [hg1]; exact mf.uf (by decide)
    have e0 : mI g1 606 0 = nI 0 := by rw [hg1, mI_uI, if_pos ⟨rfl, rfl⟩]
    rw [e0]
    rw [e] at kk
    subst ej
    refine ⟨fun _ => ?_, fun z => absurd (by decide) z⟩
    have hc : (aQ (bA X))[j]? = some ((aQ (bA X)).getD j 0) := by
      rw [List.getD_eq_getElem?_getD, List.getElem?_eq_getElem hj]; rfl
    have e9 : mI g1 607 (273 + j) = nI ((aQ (bA X)).getD j 0) := by rw [c.c (by decide) (by decide)]; exact q.2.1.2.2.2.2.2 j _ hc
    simp (disch := omega) only [s.r1, s.a7, s.l7, nI_add, pk_mul, nI_clamp, nI_leI, nI_ltI, nI_eq, vp_in_nI, true_and, e9]
    exact kk.to q c e0
theorem m9_opt (q : RMb h X) {k : Nat} {o : Option Nat} (hk : k ≠ 0) (ho : ∀ b, o = some b → b < 2 ^ 31) (hv : mI h 606 k = oI o) (kk : mqK h X (qO o) K) : ∀ g, g = uI h 606 0 (nI 0) → (¬ mI g 606 k = (-1) → K (mI g 606 k) g) ∧ (mI g 606 k = (-1) → wX10_fails 606 (nI 1) g (fun r5 h4 => K r5 h4)) := by
  intro g hg
  have c : mf [614, 615, 616, 617, 618] [0, 20] h g := by rw [hg]; exact mf.uf (by decide)
  have e0 : mI g 606 0 = nI 0 := by rw [hg, mI_uI, if_pos ⟨rfl, rfl⟩]
  have ek : mI g 606 k = oI o := by rw [hg, mI_uI, if_neg (fun z => hk z.2)]; exact hv
  rw [ek]
  unfold qO at kk
  cases o with
  | none =>
    refine ⟨fun z => absurd rfl z, fun _ => ?_⟩
    unfold wX10_fails
    refine ⟨(c.s q.1).o, fun g2 hg2 => ?_⟩
    exact kk.to q (g := g2) (by rw [hg2]; exact c.tr (mf.uf (by decide))) (by rw [hg2, mI_uI, if_pos ⟨rfl, rfl⟩])
  | some b => exact ⟨fun _ => kk.to q c e0, fun z => absurd z (by rw [oI_some, nI_nem (ho b rfl)]; exact id)⟩
theorem m9_refusalBlock (q : RMb h X) (hb : ∀ b, bB X = some b → b < 2 ^ 31) (kk : mqK h X (qO (bB X)) K) : wX10_refusalBlock 606 h K := ⟨q.1.o, m9_opt q (by decide) hb q.2.2.2.2.2.2.2.1 kk⟩
theorem m9_errorPosition (q : RMb h X) (hb : ∀ b, bE X = some b → b < 2 ^ 31) (kk : mqK h X (qO (bE X)) K) : wX10_errorPosition 606 h K := ⟨q.1.o, m9_opt q (by decide) hb q.2.2.2.2.2.2.2.2.1 kk⟩
theorem m9_failedCommand (q : RMb h X) (hb : ∀ b, bX X = some b → b < 2 ^ 31) (kk : mqK h X (qO (bX X)) K) : wX10_failedCommand 606 h K := ⟨q.1.o, m9_opt q (by decide) hb q.2.2.2.2.2.2.2.2.2 kk⟩
theorem m9_refusalReason (q : RMb h X) (hy : bY X < 128) (kk : mqK h X (if bY X = 0 then (1, nI 0) else (0, nI (bY X))) K) : wX10_refusalReason 606 h K := by
  have e21 := q.2.2.2.2.2.2.1
  have h2 : ((nI (bY X)).toUInt32 % 65536).toInt32 = nI (bY X) := by
    have : ∀ m, m < 128 → ((nI m).toUInt32 % 65536).toInt32 = nI m := by decide +kernel
    exact this _ hy
  have h3 : narrow .char (.int (nI (bY X))) = .int (nI (bY X)) := by
    have : ∀ m, m < 128 → narrow .char (.int (nI m)) = .int (nI m) := by decide +kernel
    exact this _ hy
  have key : ∀ v : Nat, (if bY X = 0 then ((1, nI 0) : QA) else (0, nI (bY X))) = (v, nI (bY X)) → wX10_refusalReason_J13 K 606 606 (nI v) h := fun v hv => by
    rw [hv] at kk
    unfold wX10_refusalReason_J13
    refine ⟨q.1.o, fun g1 hg1 => ⟨q.1.o, ?_⟩⟩
    have c : mf [614, 615, 616, 617, 618] [0, 20] h g1 := by rw [hg1]; exact mf.uf (by decide)
    have e0 : mI g1 606 0 = nI v := by rw [hg1, mI_uI, if_pos ⟨rfl, rfl⟩]
    have e9 : mI g1 606 21 = nI (bY X) := by rw [c.f (by decide)]; exact e21
    rw [e9, h2]
    exact ⟨h3, kk.to q c e0⟩
  unfold wX10_refusalReason
  rw [e21, nI_z (by omega)]
  exact ⟨q.1.o, fun z => key 0 (by rw [if_neg z]), fun z => key 1 (by rw [if_pos z, z])⟩
end MQ4
