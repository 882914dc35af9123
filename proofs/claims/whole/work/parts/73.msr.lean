/-! THE MODEL'S MEASURES: the rounds; the way -/
def msr (h : AH) (G : LG) (to : Nat) : Prop := ∀ b, b < gn G → (ds G to b = none → mI h 614 b = nI 9999) ∧ ∀ d, ds G to b = some d → mI h 614 b = nI (sl G (rt G b to)) ∧ mI h 615 b = nI (rt G b to).length
section MR
variable {h g : AH} {A : AG} {G : LG} {to : Nat} {q : (Nat → Nat) × (Nat → Nat)}
theorem rm.fr (r : rm (mI h 607) A) {C F : List Nat} (c : mf C F h g) (h7 : 607 ∉ C) : rm (mI g 607) A := by rw [c.c (by decide) h7]; exact r
theorem bdd.mo {k k' : Nat} (u : bdd k q) (hk : k ≤ k') : bdd k' q := fun y hy => by have := u y hy; omega
theorem m_L60 (s : sM h) (i : IL (aL A)) (x : BT (aL A) to) (ht : to < gn (aL A)) (r : rm (mI h 607) A) {X : AH → Prop} {c : Nat → Int32 → Int32 → AH → Prop} {t : Nat} (htt : t < 12) {r' : Int32} : ∀ j b (q : (Nat → Nat) × (Nat → Nat)) g, b + j = gn (aL A) → mf [614, 615] [] h g → fs g q.1 q.2 → bFI (aL A) to t b (24 * t + 2 * b) q → (∀ g q, mf [614, 615] [] h g → fs g q.1 q.2 → bFI (aL A) to (t + 1) 0 (24 * (t + 1)) q → c 606 (nI to) r' g) → wX10_measures_L60 X c (j + 1) 606 (nI to) r' (nI b) g := by
  have h12 := i.1
  intro j
  induction j with
  | zero =>
    intro b q g hb cg f u kk
    have s' := cg.s s
    have e0 := (r.fr cg (by decide)).1.1
    rw [wX10_measures_L60]; dsimp only
    simp (disch := omega) only [s'.o, s'.r1, s'.a7, s'.l7, nI_add, pk_mul, nI_clamp, nI_leI, nI_ltI, nI_eq, vp_in_nI, e0, true_and]
    refine ⟨fun _ => ?_, fun z => absurd (Nat.le_of_eq hb.symm) z⟩
    refine kk g q cg f ⟨u.1, u.2.1.mo (by omega), fun y d hy hd hc => u.2.2 y d hy hd (by omega)⟩
  | succ j ih =>
    intro b q g hb cg f u kk
    have s' := cg.s s
    have r1 := r.fr cg (by decide)
    have e0 := r1.1.1
    rw [wX10_measures_L60]; dsimp only
    simp (disch := omega) only [s'.o, s'.r1, s'.a7, s'.l7, nI_add, pk_mul, nI_clamp, nI_leI, nI_ltI, nI_eq, vp_in_nI, e0, true_and]
    refine ⟨fun z => absurd z (by omega), fun _ => ⟨fun hbt => ?_, fun hbt => ?_⟩⟩
    · refine ⟨3, m_relax s' i r1 f (k := 24 * t + 2 * b) (by omega) u.2.1 (by omega) (by decide) (fun g1 c1 f1 => ?_)⟩
      have r2 := r1.fr c1 (by decide)
      refine m_relax (c1.s s') i r2 f1 (k := 24 * t + 2 * b + 1) (by omega) (rxl_bdd i (by omega) u.2.1 (by omega) (fun e he => xE_ex he)) (by omega) (by decide) (fun g2 c2 f2 => ?_)
      rw [wX10_measures_L81]; dsimp only
      simp (disch := omega) only [nI_add, pk_mul, nI_clamp, nI_leI, nI_ltI, nI_eq, vp_in_nI]
      refine ⟨fun _ => ?_, fun z => absurd (by decide) z⟩
      exact ih (b + 1) (rxl2 (aL A) q b) g2 (by omega) (cg.tr (c1.tr c2)) f2 (bFI.step (k := 24 * t + 2 * b) i x (by omega) (by omega) hbt u) kk
    · subst hbt
      have := ih (b + 1) q g (by omega) cg f ⟨(u.skip x).1, (u.skip x).2.1.mo (by omega), (u.skip x).2.2⟩ kk
      simpa (disch := omega) only [nI_add, pk_mul, nI_clamp, nI_leI, nI_ltI, nI_eq, vp_in_nI] using this
theorem m_L48 (s : sM h) (i : IL (aL A)) (x : BT (aL A) to) (ht : to < gn (aL A)) (r : rm (mI h 607) A) {X : AH → Prop} : ∀ j t (q : (Nat → Nat) × (Nat → Nat)) g, t + j = gn (aL A) → mf [614, 615] [] h g → fs g q.1 q.2 → bFI (aL A) to t 0 (24 * t) q → (∀ g q, mf [614, 615] [] h g → fs g q.1 q.2 → bFI (aL A) to (gn (aL A)) 0 (24 * gn (aL A)) q → X g) → wX10_measures_L48 X (j + 1) 606 (nI to) (nI t) g := by
  have h12 := i.1
  intro j
  induction j with
  | zero =>
    intro t q g hb cg f u kk
    have s' := cg.s s
    have e0 := (r.fr cg (by decide)).1.1
    rw [wX10_measures_L48]; dsimp only
    simp (disch := omega) only [s'.o, s'.r1, s'.a7, s'.l7, nI_add, pk_mul, nI_clamp, nI_leI, nI_ltI, nI_eq, vp_in_nI, e0, true_and]
    have hb' : t = gn (aL A) := hb
    exact ⟨fun _ => kk g q cg f (hb' ▸ u), fun z => absurd (Nat.le_of_eq hb.symm) z⟩
  | succ j ih =>
    intro t q g hb cg f u kk
    have s' := cg.s s
    have r1 := r.fr cg (by decide)
    have e0 := r1.1.1
    rw [wX10_measures_L48]; dsimp only
    simp (disch := omega) only [s'.o, s'.r1, s'.a7, s'.l7, nI_add, pk_mul, nI_clamp, nI_leI, nI_ltI, nI_eq, vp_in_nI, e0, true_and]
    refine ⟨fun z => absurd z (by omega), fun _ => ⟨gn (aL A) + 1, ?_⟩⟩
    refine m_L60 s' i x ht r1 (by omega) (gn (aL A)) 0 q g (by omega) (mf.rf _ _ _) f u (fun g2 q2 c2 f2 u2 => ?_)
    simp (disch := omega) only [nI_add, pk_mul, nI_clamp, nI_leI, nI_ltI, nI_eq, vp_in_nI]
    exact ih (t + 1) q2 g2 (by omega) (cg.tr c2) f2 u2 kk
theorem m_L2 (s : sM h) {X : AH → Prop} {c : Nat → Int32 → AH → Prop} {t' : Int32} : ∀ j b g, b + j = 12 → mf [614, 615] [] h g → (∀ y, y < b → mI g 614 y = nI 9999 ∧ mI g 615 y = nI 9999) → (∀ g, mf [614, 615] [] h g → fs g (fun _ => 9999) (fun _ => 9999) → c 606 t' g) → wX10_measures_L2 X c (j + 1) 606 t' (nI b) g := by
  intro j
  induction j with
  | zero =>
    intro b g hb cg f kk
    rw [wX10_measures_L2]; dsimp only
    simp (disch := omega) only [nI_add, pk_mul, nI_clamp, nI_leI, nI_ltI, nI_eq, vp_in_nI]
    exact ⟨fun _ => kk g cg (fun y hy => f y (by omega)), fun z => absurd (Nat.le_of_eq hb.symm) z⟩
  | succ j ih =>
    intro b g hb cg f kk
    have s' := cg.s s
    rw [wX10_measures_L2]; dsimp only
    simp (disch := omega) only [s'.o, s'.r10, s'.r11, s'.a14, s'.a15, s'.l14, s'.l15, nI_add, pk_mul, nI_clamp, nI_leI, nI_ltI, nI_eq, vp_in_nI, true_and, forall_eq, isO_uI, isA_uI, ln_uI, mR_uI, isO_uR, isA_uR, ln_uR, mI_uR, isO_uL, isA_uL, ln_uL, mR_uL, mI_uL, mL_uI, mL_uR, isO_uA, isA_uA, ln_uA, mR_uA, mL_uA, mS_uI, mS_uR, mS_uL, mS_uA]
    refine ⟨fun z => absurd z (by omega), fun _ => ⟨by decide, by decide, ?_⟩⟩
    refine ih (b + 1) _ (by omega) (cg.tr ((mf.ui (by decide) (by decide)).tr (mf.ui (by decide) (by decide)))) (fun y hy => ?_) kk
    simp only [mI_uI]
    by_cases e : y = b
    · subst e; simp
    · simp [e]; exact f y (by omega)
theorem rt_g9 (i : IL G) (x : BT G to) {b d : Nat} (hb : b < gn G) (hd : ds G to b = some d) : (rt G b to).length + 1 ≤ gn G := by
  obtain ⟨-, -, a1, a2, -⟩ := rt_all i x hb hd
  have := nodup_le (gn G) (b :: rt G b to) a2 (fun y hy => by
    rcases List.mem_cons.mp hy with rfl | hy
    · exact hb
    · exact a1 y hy)
  simpa using this
theorem m_measures (s : sM h) (i : IL (aL A)) (x : BT (aL A) to) (ht : to < gn (aL A)) (r : rm (mI h 607) A) {K : AH → Prop} (k : ∀ g, mf [614, 615] [] h g → msr g (aL A) to → K g) : wX10_measures 606 (nI to) h K := by
  have h12 := i.1
  unfold wX10_measures
  refine ⟨13, m_L2 s 12 0 h (by omega) (mf.rf _ _ _) (fun y hy => absurd hy (by omega)) (fun g c f => ?_)⟩
  have s' := c.s s
  simp (disch := omega) only [s'.o, s'.r10, s'.r11, s'.a14, s'.a15, s'.l14, s'.l15, nI_add, pk_mul, nI_clamp, nI_leI, nI_ltI, nI_eq, vp_in_nI, true_and, forall_eq, isO_uI, isA_uI, ln_uI, mR_uI, isO_uR, isA_uR, ln_uR, mI_uR, isO_uL, isA_uL, ln_uL, mR_uL, mI_uL, mL_uI, mL_uR, isO_uA, isA_uA, ln_uA, mR_uA, mL_uA, mS_uI, mS_uR, mS_uL, mS_uA]
  refine ⟨by decide, by decide, gn (aL A) + 1, ?_⟩
  have c2 : mf [614, 615] [] g (uI (uI g 614 to (nI 0)) 615 to (nI 0)) := (mf.ui (by decide) (by decide)).tr (mf.ui (by decide) (by decide))
  refine m_L48 (c2.s s') i x ht (r.fr (c.tr c2) (by decide)) (gn (aL A)) 0 (ups (fun _ => 9999) to 0, ups (fun _ => 9999) to 0) _ (by omega) (mf.rf _ _ _) (fun y hy => ?_) ⟨fun y hy hn => ?_, fun y hy => ?_, fun y d hy hd hc => ?_⟩ (fun g3 q3 c3 f3 u3 => k g3 (c.tr (c2.tr c3)) (fun b hb => ⟨fun hd => ?_, fun d hd => ?_⟩))
  · have fy := f y hy
    simp only [mI_uI]
    by_cases e : y = to
    · subst e; simp [ups]
    · simp [e, ups]; exact fy
  · simp only at hn
    by_cases e : y = to
    · subst e
      simp only [ups_s]
      exact ⟨0, x.1, Or.inr (by rw [rt_self x]; exact ⟨rfl, Nat.le_refl _⟩)⟩
    · rw [ups_o e] at hn
      exact absurd rfl hn
  · by_cases e : y = to
    · subst e; right; simp only [ups_s]; exact ⟨Nat.zero_le _, Nat.zero_le _⟩
    · left; simp only [ups_o e, and_self]
  · have hl : (rt (aL A) y to).length = 0 := by omega
    have hy0 : rt (aL A) y to = [] := List.eq_nil_of_length_eq_zero hl
    by_cases e : y = to
    · subst e
      unfold ext_
      simp only [ups_s]
      rw [hy0]
      exact ⟨rfl, rfl⟩
    · have := (nx_none x hy e).mp ((rt_ne x hy e).mp hy0)
      rw [hd] at this
      cases this
  · have f4 := f3 b (by omega)
    rw [f4.1]
    by_cases z : q3.1 b = 9999
    · rw [z]
    · obtain ⟨d, h1, -⟩ := u3.1 b hb z
      rw [hd] at h1
      cases h1
  · have f4 := f3 b (by omega)
    have := u3.2.2 b d hb hd (Or.inl (by have := rt_g9 i x hb hd; omega))
    rw [f4.1, f4.2, this.1, this.2]
    exact ⟨rfl, rfl⟩
end MR
