/-! THE MODEL'S CALLS that change: throwing over, passing, setting, undoing, saving, restoring, typing -/
section MB
variable {h g : AH} {A : AG} {X : BG} {w : Nat}
theorem m9_throwPoint (q : RMb h X) (k : GK (bA X)) (hC : aC (bA X) ≤ 9000) {x : Int32} {K : Int32 → AH → Prop} (kk : mcK h (oThrow (bA X) x) (cgd (oThrow (bA X) x) X) K) : wX10_throwPoint 606 x h K := by
  unfold wX10_throwPoint
  refine ⟨q.1.o, m_rem q.1 (fun h1 c e8 e0 => ?_)⟩
  obtain ⟨s1, r1⟩ := q.one c
  have kk' : mcK h (oThrow (bA X) x) (cgd (oThrow (bA X) x) X) (fun r6 h5 => ((¬ r6 = (nI 1) → K (nI 0) h5) ∧ (r6 = (nI 1) → K (nI 1) h5))) := by
    intro g c q e
    have := kk g c q e
    have hv : (if (oThrow (bA X) x).1 = 0 then (oThrow (bA X) x).2.1 else nI 0) = nI 0 ∨ (if (oThrow (bA X) x).1 = 0 then (oThrow (bA X) x).2.1 else nI 0) = nI 1 := by
      unfold oThrow
      cases h1 : iv (gp (aL (bA X))).length x with
      | none => exact Or.inl rfl
      | some p =>
        simp only
        cases (gp (aL (bA X)))[p]? with
        | none => exact Or.inl rfl
        | some y =>
          simp only
          by_cases z : (lkr (bA X) y).isSome = true
          · rw [if_pos z]; exact Or.inl rfl
          · rw [if_neg z]
            by_cases z2 : (gd (aL (bA X))).testBit y = true
            · right; simp [z2]
            · left; simp [z2]
    rcases hv with z | z
    · rw [z] at this ⊢
      exact ⟨fun _ => this, fun z => absurd z (by decide)⟩
    · rw [z] at this ⊢
      exact ⟨fun z => absurd rfl z, fun _ => this⟩
  refine ⟨s1.o, m_throwsOver s1 (k.ims hC) r1 (m_fin q c e8 e0 (Nat.le_trans (rg_throw x).1 (by decide)) (fun hr => ?_) kk')⟩
  unfold oThrow at hr ⊢
  cases h1 : iv (gp (aL (bA X))).length x with
  | none => rfl
  | some p =>
    rw [h1] at hr
    simp only at hr ⊢
    cases h2 : (gp (aL (bA X)))[p]? with
    | none => rfl
    | some y =>
      rw [h2] at hr
      simp only at hr ⊢
      split
      · rfl
      · rename_i h1; rw [if_neg h1] at hr; exact absurd rfl hr
theorem m_pass_l {n o0 : Nat} {K : Int32 → AH → Prop} (hn : n ≤ 240) : ∀ j x (B : AG) (g : AH), x + j = n → sM h → mf [607, 614, 615, 616] [20] h g → rm (mI g 607) B → (∀ k, k ≤ j → GK (mins k B) ∧ aC (mins k B) ≤ 9000 ∧ aM (mins k B) < 2 ^ 29) → o0 ≤ aO B → (∀ g, mf [607, 614, 615, 616] [20] h g → rm (mI g 607) (mins j B) → wX10_done 606 (nI (aO (mins j B) - o0)) g K) → wX10_passes_L23 K (j + 1) 606 (nI n) (nI o0) (nI x) g := by
  intro j
  induction j with
  | zero =>
    intro x B g hx s cg r hB ho kk
    have s' := cg.s s
    have e7 : mI g 607 7 = nI (aO B) := r.1.2.2.2.2.2.2.2.1
    rw [wX10_passes_L23]; dsimp only
    simp (disch := omega) only [s'.o, s'.r1, s'.a7, s'.l7, nI_add, pk_mul, nI_clamp, nI_leI, nI_ltI, nI_eq, vp_in_nI, true_and, e7]
    refine ⟨fun _ => ?_, fun z => absurd (Nat.le_of_eq hx.symm) z⟩
    rw [nI_sub ho]
    exact kk g cg r
  | succ j ih =>
    intro x B g hx s cg r hB ho kk
    have s' := cg.s s
    obtain ⟨b1, b2, b3⟩ := hB 0 (Nat.zero_le _)
    rw [wX10_passes_L23]; dsimp only
    simp (disch := omega) only [s'.o, nI_add, pk_mul, nI_clamp, nI_leI, nI_ltI, nI_eq, vp_in_nI, true_and]
    refine ⟨fun z => absurd z (by omega), fun _ => ?_⟩
    refine m_oneMinute b1 b2 b3 s' r (fun g2 c2 r2 => ?_)
    exact ih (x + 1) (min1 B) g2 (by omega) s (cg.tr c2) r2 (fun k hk => hB (k + 1) (by omega)) (Nat.le_trans ho (min1_o B)) kk
theorem m_passes (s : sM h) (hB : ∀ k, k ≤ 240 → GK (mins k A) ∧ aC (mins k A) ≤ 9000 ∧ aM (mins k A) < 2 ^ 29) (r : rm (mI h 607) A) {x : Int32} {K : Int32 → AH → Prop} (k : mopK h (oPass A x) K) : wX10_passes 606 x h K := by
  unfold wX10_passes
  rw [m_in]
  unfold oPass at k
  by_cases e1 : x < nI 1 ∨ nI 240 < x
  · rw [if_pos e1] at k ⊢
    exact ⟨fun z => absurd rfl z, fun _ => k.1 (Nat.succ_ne_zero _)⟩
  rw [if_neg e1] at k ⊢
  refine ⟨fun _ => ?_, fun z => absurd z (by decide)⟩
  obtain ⟨j, hj, hj1, rfl⟩ := nI_of1 (x := x) (fun z => e1 (Or.inl z))
  rw [nI_clamp (by omega)] at k
  have hj240 : j ≤ 240 := by
    by_cases z : j ≤ 240
    · exact z
    · exact absurd (Or.inr (by rw [nI_ltI (by decide) hj]; omega)) e1
  have e7 : mI h 607 7 = nI (aO A) := r.1.2.2.2.2.2.2.2.1
  simp (disch := omega) only [s.o, s.r1, s.a7, s.l7, nI_add, pk_mul, nI_clamp, nI_leI, nI_ltI, nI_eq, vp_in_nI, true_and, e7, forall_eq]
  refine ⟨j + 1, m_pass_l hj240 j 0 A h (by omega) s (mf.rf _ _ _) r (fun k hk => hB k (by omega)) (Nat.le_refl _) (fun g c r2 => ?_)⟩
  exact k.end (c.s s) rfl (c.mo (by decide) (by decide)) r2 rfl
theorem m9_pass (q : RMb h X) (k : GK (bA X)) (b : BW w (bA X)) (hw : w ≤ 6200) {x : Int32} {K : Int32 → AH → Prop} (kk : mcK h (oPass (bA X) x) (cgd (oPass (bA X) x) X) K) : wX10_pass 606 x h K := by
  unfold wX10_pass
  refine ⟨q.1.o, m_rem q.1 (fun h1 c e8 e0 => ?_)⟩
  obtain ⟨s1, r1⟩ := q.one c
  refine ⟨s1.o, m_passes s1 (fun j hj => ?_) r1 (m_fin q c e8 e0 (Nat.le_trans (rg_pass x k b hw).1 (by decide)) (fun hr => ?_) kk)⟩
  · obtain ⟨b1, b2, -, -⟩ := b.mins k hw hj
    obtain ⟨b3, b4, -⟩ := b2
    exact ⟨b1, by omega, by omega⟩
  · unfold oPass at hr ⊢
    split
    · rfl
    · rename_i h1; rw [if_neg h1] at hr; exact absurd rfl hr
theorem m9_setRoute (q : RMb h X) (k : GK (bA X)) (hC : aC (bA X) ≤ 9000) (hM : aM (bA X) < 2 ^ 30) {x : Int32} {K : Int32 → AH → Prop} (kk : mcK h (oSet (bA X) x) (cgS (bA X) x X) K) : wX10_setRoute 606 x h K := by
  unfold wX10_setRoute
  refine ⟨q.1.o, m_rem q.1 (fun h1 c e8 e0 => ?_)⟩
  obtain ⟨s1, r1⟩ := q.one c
  have hf : (oSet (bA X) x).1 ≠ 0 → (oSet (bA X) x).2.2 = bA X := fun hr => by
    unfold oSet at hr ⊢
    cases h1 : fnd (bA X) x with
    | none => rfl
    | some t =>
      rw [h1] at hr
      simp only at hr ⊢
      split
      · rfl
      · split
        · rename_i h1 h2; rw [if_neg h1, if_pos h2] at hr; exact absurd rfl hr
        · rfl
  have h3 := (rg_set x k).1
  have no3 : (oSet (bA X) x).1 ≠ 3 → cgS (bA X) x X = cgd (oSet (bA X) x) X := fun hn => by
    have : rfd (bA X) x X = X := by
      unfold rfd
      cases fnd (bA X) x with
      | none => rfl
      | some t => simp only; rw [if_neg hn]
    unfold cgS
    rw [this]
    rfl
  have fin : (oSet (bA X) x).1 ≠ 3 → mopK h1 (oSet (bA X) x) (fun v g => isO g 606 7 ∧ wX10_ends 606 v g K) := fun hn => by
    rw [no3 hn] at kk
    exact m_fin q c e8 e0 h3 hf kk
  refine ⟨s1.o, m_clears k (k.ims hC) hM s1 r1 (fun hr => (fin (by omega)).1 (by omega)) (fun t ht hr g c2 e21 e22 => ?_) (fun hr => (fin (by omega)).2 hr)⟩
  have s2 := c2.s s1
  refine ⟨s2.o, ?_⟩
  unfold wX10_ends wX10_fails
  simp only [s2.o, true_and, forall_eq]
  have hne : ¬ nI 3 = nI 0 := by decide
  refine ⟨fun _ => ?_, fun z => absurd z hne⟩
  obtain ⟨s, q1, q2, q3, q4, q5, q6⟩ := q
  have c3 : mf [608, 614, 615, 616] [0, 20, 21, 22] h (uI g 606 0 (nI 3)) := (c.mo (by decide) (by decide)).tr ((c2.mo (by decide) (by decide)).tr (mf.uf (by decide)))
  have hX : rfd (bA X) x X = (bA X, bH X, bS X, bO X, bF X, (why (bA X) t).1, (why (bA X) t).2, bE X, bX X) := by
    unfold rfd
    rw [ht]; simp only
    rw [if_pos hr]
  have := kk _ (mf_x c3 (by decide)) ⟨c3.s s, ?_, ?_, ?_, ?_, ?_, ?_⟩ (by rw [mI_uI, if_pos ⟨rfl, rfl⟩, hr])
  · rw [if_neg (by omega)] at this; exact this
  · show rm _ (oSet (bA X) x).2.2
    rw [hf (by omega)]
    exact q1.fr c3 (by decide)
  · show hsM _ (if (oSet (bA X) x).1 = 0 then _ else bH X)
    rw [if_neg (by omega)]
    exact q2.fr c3 (by decide) (by decide)
  · unfold cgS; rw [hX]; exact q3.fr c3 (by decide) (by decide)
  · unfold cgS; rw [hX]; exact q4.fr c3 (by decide) (by decide)
  · unfold cgS; rw [hX]; exact q5.fr c3 (by decide) (by decide)
  · unfold cgS; rw [hX]
    obtain ⟨-, -, a3, a4⟩ := q6
    refine ⟨?_, ?_, ?_, ?_⟩
    · show _ = nI (why (bA X) t).1
      rw [mI_uI, if_neg (by omega)]; exact e21
    · show _ = oI (why (bA X) t).2
      rw [mI_uI, if_neg (by omega)]; exact e22
    · rw [c3.f (by decide)]; exact a3
    · rw [c3.f (by decide)]; exact a4
end MB
