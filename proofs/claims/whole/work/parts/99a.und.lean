/-! THE MODEL'S CALLS: undoing, saving, restoring, typing -/
section UD
variable {h g : AH} {A : AG} {X : BG} {w : Nat}
theorem m_u30 (s : sM h) {n : Nat} (hn : n < 8) (e5 : mI h 606 5 = nI n) {X : Int32 → AH → Prop} (kk : ∀ g, mf [607] [] h g → (∀ k, k < 281 → mI g 607 k = mI h 610 (281 * n + k)) → X (nI n) g) : ∀ d x g, x + d = 281 → mf [607] [] h g → (∀ k, k < x → mI g 607 k = mI h 610 (281 * n + k)) → wX10_undo_L30 X (d + 1) 606 (nI x) g := by
  intro d
  induction d with
  | zero =>
    intro x g hx cg z
    have s' := cg.s s
    have e : x = 281 := hx
    have e6 : mI g 606 5 = nI n := (cg.f (by decide)).trans e5
    rw [wX10_undo_L30]; dsimp only
    simp (disch := omega) only [s'.o, nI_add, pk_mul, nI_clamp, nI_leI, nI_ltI, nI_eq, vp_in_nI, true_and, e6]
    exact ⟨fun _ => kk g cg (fun k hk => z k (by omega)), fun z => absurd (by omega) z⟩
  | succ d ih =>
    intro x g hx cg z
    have s' := cg.s s
    have e6 : mI g 606 5 = nI n := (cg.f (by decide)).trans e5
    have e10 : mI g 610 = mI h 610 := cg.c (by decide) (by decide)
    rw [wX10_undo_L30]; dsimp only
    simp (disch := omega) only [s'.o, s'.r4, s'.a10, s'.l10, s'.r1, s'.a7, s'.l7, nz7, nI_add, pk_mul, nI_clamp, nI_leI, nI_ltI, nI_eq, vp_in_nI, true_and, forall_eq, e6, e10]
    refine ⟨fun z => absurd z (by omega), fun _ => ?_⟩
    refine ih (x + 1) _ (by omega) (cg.tr (mf.ui (by decide) (by decide))) (fun k hk => ?_)
    rw [mI_up]
    by_cases e : k = x
    · rw [e, ups_s]
    · rw [ups_o (by omega)]; exact z k (by omega)
theorem m9_undo (q : RMb h X) (i : ∀ B H, bH X = B :: H → IMs B) {K : Int32 → AH → Prop} (k : ∀ B H, bH X = B :: H → ∀ g, chi 606 619 h g → RMb g (B, H, X.2.2) → mI g 606 0 = nI 0 → K (nI H.length) g) (kT : bH X = [] → ∀ g, chi 606 619 h g → RMb g X → mI g 606 0 = nI 1 → K (nI 0) g) : wX10_undo 606 h K := by
  obtain ⟨s, q1, q2, q3, q4, q5, q6⟩ := q
  obtain ⟨h5, h8, hs⟩ := q2
  unfold wX10_undo
  have e5 : mI (uI h 606 0 (nI 0)) 606 5 = nI (bH X).length := by rw [mI_uI, if_neg (by omega)]; exact h5
  refine ⟨s.o, fun g1 hg1 => ?_⟩
  subst hg1
  rw [e5]
  cases hb : bH X with
  | nil =>
    refine ⟨fun z => absurd rfl z, fun _ => ?_⟩
    unfold wX10_fails
    refine ⟨s.o, fun g2 hg2 => ?_⟩
    have c : mf [] [0] h g2 := by rw [hg2]; exact (mf.uf (by decide)).tr (mf.uf (by decide))
    exact kT hb g2 (mf_x c (by decide)) ⟨c.s s, q1.fr c (by decide), hsM.fr (h := h) (H := bH X) ⟨h5, h8, hs⟩ c (by decide) (by decide), q3.fr c (by decide) (by decide), q4.fr c (by decide) (by decide), q5.fr c (by decide) (by decide), q6.fr c (by decide) (by decide) (by decide) (by decide)⟩ (by rw [hg2, mI_uI, if_pos ⟨rfl, rfl⟩])
  | cons B H =>
    rw [hb] at h8 hs
    simp only [List.length_cons] at h8 hs ⊢
    refine ⟨fun _ g2 hg2 => ⟨282, ?_⟩, fun z => absurd z (by rw [nI_eq (by omega) (by decide)]; omega)⟩
    rw [nI_sub (by omega), Nat.add_sub_cancel] at hg2
    have c : mf [] [0, 5] h g2 := by rw [hg2]; exact (mf.uf (by decide)).tr (mf.uf (by decide))
    have s2 := c.s s
    have e6 : mI g2 606 5 = nI H.length := by rw [hg2, mI_uI, if_pos ⟨rfl, rfl⟩]
    have e0 : mI g2 606 0 = nI 0 := by rw [hg2, mI_uI, if_neg (by omega), mI_uI, if_pos ⟨rfl, rfl⟩]
    have e10 : mI g2 610 = mI h 610 := c.c (by decide) (by decide)
    refine m_u30 s2 (n := H.length) (by omega) e6 (fun g3 c3 z3 => ?_) 281 0 g2 (by omega) (mf.rf _ _ _) (fun k hk => absurd hk (by omega))
    have cc : mf [607] [0, 5] h g3 := (c.mo (by decide) (by decide)).tr (c3.mo (by decide) (by decide))
    refine k B H hb g3 (mf_x cc (by decide)) ⟨cc.s s, ?_, ⟨?_, by show H.length ≤ 8; omega, fun j C hC => ?_⟩, q3.fr cc (by decide) (by decide), q4.fr cc (by decide) (by decide), q5.fr cc (by decide) (by decide), q6.fr cc (by decide) (by decide) (by decide) (by decide)⟩ (by rw [c3.f (by decide)]; exact e0)
    · refine (((hs 0 B rfl).rm (i B H hb)).cg (i B H hb) (fun k' hk' => ?_))
      show _ = mI h 610 (281 * (H.length + 1 - 1 - 0) + k')
      rw [z3 k' hk', e10, Nat.add_sub_cancel, Nat.sub_zero]
    · rw [c3.f (by decide)]; exact e6
    · have hC' : H[j]? = some C := hC
      have hj := (List.getElem?_eq_some_iff.mp hC').1
      refine (hs (j + 1) C (by rw [List.getElem?_cons_succ]; exact hC')).cg (fun k' hk' => ?_)
      show mI g3 610 (281 * (H.length - 1 - j) + k') = mI h 610 (281 * (H.length + 1 - 1 - (j + 1)) + k')
      rw [c3.c (by decide) (by decide), e10, show H.length - 1 - j = H.length + 1 - 1 - (j + 1) by omega]
theorem m_s7 (s : sM h) {n : Nat} (e4 : mI h 607 4 = nI n) {X : Int32 → AH → Prop} (kk : ∀ g, mf [609] [6] h g → (∀ k, k < 281 → mI g 609 k = mI h 607 k) → mI g 606 6 = nI 1 → X (nI n) g) : ∀ d x g, x + d = 281 → mf [609] [6] h g → (∀ k, k < x → mI g 609 k = mI h 607 k) → wX10_save_L7 X (d + 1) 606 (nI x) g := by
  intro d
  induction d with
  | zero =>
    intro x g hx cg z
    have s' := cg.s s
    have e : x = 281 := hx
    have e7 : mI g 607 4 = nI n := by rw [cg.c (by decide) (by decide)]; exact e4
    have e7' : mI (uI g 606 6 (nI 1)) 607 = mI g 607 := mI_o (by decide)
    rw [wX10_save_L7]; dsimp only
    simp (disch := omega) only [s'.o, s'.r1, s'.a7, s'.l7, nI_add, pk_mul, nI_clamp, nI_leI, nI_ltI, nI_eq, vp_in_nI, true_and, forall_eq, e7', e7]
    exact ⟨fun _ => kk _ (cg.tr (mf.uf (by decide))) (fun k hk => by rw [mI_o (by decide)]; exact z k (by omega)) (by rw [mI_uI, if_pos ⟨rfl, rfl⟩]), fun z => absurd (by omega) z⟩
  | succ d ih =>
    intro x g hx cg z
    have s' := cg.s s
    have e7 : mI g 607 = mI h 607 := cg.c (by decide) (by decide)
    have nz9 : (nZ ≤ 609) = True := eq_true (by decide)
    rw [wX10_save_L7]; dsimp only
    simp (disch := omega) only [s'.o, s'.r3, s'.a9, s'.l9, s'.r1, s'.a7, s'.l7, nz9, nI_add, pk_mul, nI_clamp, nI_leI, nI_ltI, nI_eq, vp_in_nI, true_and, forall_eq, e7]
    refine ⟨fun z => absurd z (by omega), fun _ => ?_⟩
    refine ih (x + 1) _ (by omega) (cg.tr (mf.ui (by decide) (by decide))) (fun k hk => ?_)
    rw [mI_up]
    by_cases e : k = x
    · rw [e, ups_s]
    · rw [ups_o (by omega)]; exact z k (by omega)
theorem m9_save (q : RMb h X) {K : Int32 → AH → Prop} (k : ∀ g, chi 606 619 h g → RMb g (bA X, bH X, some (bA X), X.2.2.2) → mI g 606 0 = nI 0 → K (nI (aT (bA X)).length) g) : wX10_save 606 h K := by
  obtain ⟨s, q1, q2, q3, q4, q5, q6⟩ := q
  unfold wX10_save
  refine ⟨s.o, fun g1 hg1 => ⟨282, ?_⟩⟩
  have c : mf [] [0] h g1 := by rw [hg1]; exact mf.uf (by decide)
  have e7 : mI g1 607 = mI h 607 := c.c (by decide) (by decide)
  have e0 : mI g1 606 0 = nI 0 := by rw [hg1, mI_uI, if_pos ⟨rfl, rfl⟩]
  refine m_s7 (c.s s) (n := (aT (bA X)).length) (by rw [e7]; exact q1.1.2.2.2.2.1) (fun g3 c3 z3 e6 => ?_) 281 0 g1 (by omega) (mf.rf _ _ _) (fun k hk => absurd hk (by omega))
  have cc : mf [609] [0, 6] h g3 := (c.mo (by decide) (by decide)).tr (c3.mo (by decide) (by decide))
  exact k g3 (mf_x cc (by decide)) ⟨cc.s s, q1.fr cc (by decide), q2.fr cc (by decide) (by decide), ⟨e6, mI h 607, q1, fun k' hk' => by rw [z3 k' hk', e7]⟩, q4.fr cc (by decide) (by decide), q5.fr cc (by decide) (by decide), q6.fr cc (by decide) (by decide) (by decide) (by decide)⟩ (by rw [c3.f (by decide)]; exact e0)
theorem m_r20 (s : sM h) {n : Nat} (e4 : mI h 609 4 = nI n) {X : Int32 → AH → Prop} (kk : ∀ g, mf [607] [5] h g → (∀ k, k < 281 → mI g 607 k = mI h 609 k) → mI g 606 5 = nI 0 → X (nI n) g) : ∀ d x g, x + d = 281 → mf [607] [5] h g → (∀ k, k < x → mI g 607 k = mI h 609 k) → wX10_restore_L20 X (d + 1) 606 (nI x) g := by
  intro d
  induction d with
  | zero =>
    intro x g hx cg z
    have s' := cg.s s
    have e : x = 281 := hx
    have e7 : mI g 607 4 = nI n := by rw [z 4 (by omega)]; exact e4
    have e7' : mI (uI g 606 5 (nI 0)) 607 = mI g 607 := mI_o (by decide)
    rw [wX10_restore_L20]; dsimp only
    simp (disch := omega) only [s'.o, s'.r1, s'.a7, s'.l7, nI_add, pk_mul, nI_clamp, nI_leI, nI_ltI, nI_eq, vp_in_nI, true_and, forall_eq, e7', e7]
    exact ⟨fun _ => kk _ (cg.tr (mf.uf (by decide))) (fun k hk => by rw [mI_o (by decide)]; exact z k (by omega)) (by rw [mI_uI, if_pos ⟨rfl, rfl⟩]), fun z => absurd (by omega) z⟩
  | succ d ih =>
    intro x g hx cg z
    have s' := cg.s s
    have e9 : mI g 609 = mI h 609 := cg.c (by decide) (by decide)
    rw [wX10_restore_L20]; dsimp only
    simp (disch := omega) only [s'.o, s'.r3, s'.a9, s'.l9, s'.r1, s'.a7, s'.l7, nz7, nI_add, pk_mul, nI_clamp, nI_leI, nI_ltI, nI_eq, vp_in_nI, true_and, forall_eq, e9]
    refine ⟨fun z => absurd z (by omega), fun _ => ?_⟩
    refine ih (x + 1) _ (by omega) (cg.tr (mf.ui (by decide) (by decide))) (fun k hk => ?_)
    rw [mI_up]
    by_cases e : k = x
    · rw [e, ups_s]
    · rw [ups_o (by omega)]; exact z k (by omega)
theorem m9_restore (q : RMb h X) (i : ∀ B, bS X = some B → IMs B) {K : Int32 → AH → Prop} (k : ∀ B, bS X = some B → ∀ g, chi 606 619 h g → RMb g (B, [], X.2.2) → mI g 606 0 = nI 0 → K (nI (aT B).length) g) (kT : bS X = none → ∀ g, chi 606 619 h g → RMb g X → mI g 606 0 = nI 1 → K (nI 0) g) : wX10_restore 606 h K := by
  obtain ⟨s, q1, q2, q3, q4, q5, q6⟩ := q
  unfold wX10_restore
  refine ⟨s.o, fun g1 hg1 => ?_⟩
  have c : mf [] [0] h g1 := by rw [hg1]; exact mf.uf (by decide)
  have e6 : mI g1 606 6 = mI h 606 6 := c.f (by decide)
  have e0 : mI g1 606 0 = nI 0 := by rw [hg1, mI_uI, if_pos ⟨rfl, rfl⟩]
  rw [e6]
  have q3' := q3
  unfold svM at q3'
  cases hb : bS X with
  | none =>
    rw [hb] at q3'
    simp only at q3'
    rw [q3']
    refine ⟨fun z => absurd rfl z, fun _ => ?_⟩
    unfold wX10_fails
    refine ⟨(c.s s).o, fun g2 hg2 => ?_⟩
    have c : mf [] [0] h g2 := by rw [hg2]; exact c.tr (mf.uf (by decide))
    exact kT hb g2 (mf_x c (by decide)) ⟨c.s s, q1.fr c (by decide), q2.fr c (by decide) (by decide), q3.fr c (by decide) (by decide), q4.fr c (by decide) (by decide), q5.fr c (by decide) (by decide), q6.fr c (by decide) (by decide) (by decide) (by decide)⟩ (by rw [hg2, mI_uI, if_pos ⟨rfl, rfl⟩])
  | some B =>
    rw [hb] at q3'
    simp only at q3'
    rw [q3'.1]
    refine ⟨fun _ => ⟨282, ?_⟩, fun z => absurd z (by decide)⟩
    have e9 : mI g1 609 = mI h 609 := c.c (by decide) (by decide)
    have rB := q3'.2.rm (i B hb)
    refine m_r20 (c.s s) (n := (aT B).length) (by rw [e9]; exact rB.1.2.2.2.2.1) (fun g3 c3 z3 e5 => ?_) 281 0 g1 (by omega) (mf.rf _ _ _) (fun k hk => absurd hk (by omega))
    have cc : mf [607] [0, 5] h g3 := (c.mo (by decide) (by decide)).tr (c3.mo (by decide) (by decide))
    exact k B hb g3 (mf_x cc (by decide)) ⟨cc.s s, rB.cg (i B hb) (fun k' hk' => by rw [z3 k' hk', e9]), ⟨e5, Nat.zero_le _, fun j C hC => by cases hC⟩, q3.fr cc (by decide) (by decide), q4.fr cc (by decide) (by decide), q5.fr cc (by decide) (by decide), q6.fr cc (by decide) (by decide) (by decide) (by decide)⟩ (by rw [c3.f (by decide)]; exact e0)
end UD
