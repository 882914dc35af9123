/-! THE MODEL'S CHANGES: giving a route back; the run -/
section FQ
variable {h g : AH} {A : AG} {j : Nat}
theorem m_enqueues (s : sM h) {Q n : Nat} (hQ : n = Q) (h8 : n < 8) (e5 : mI h 607 5 = nI n) {v : Int32} {K : AH → Prop} (kk : K (uI (uI h 607 (273 + n) v) 607 5 (nI (n + 1)))) : wX10_enqueues 606 v h K := by
  unfold wX10_enqueues
  simp (disch := omega) only [isO_uI, isA_uI, ln_uI, mR_uI, isO_uR, isA_uR, ln_uR, mI_uR, isO_uL, isA_uL, ln_uL, mR_uL, mI_uL, mL_uI, mL_uR, isO_uA, isA_uA, ln_uA, mR_uA, mL_uA, mS_uI, mS_uR, mS_uL, mS_uA, s.o, s.r1, s.a7, s.l7, nz7, e5, true_and, nI_add, pk_mul, nI_clamp, nI_leI, nI_ltI, nI_eq, vp_in_nI, mI_up, ups_o, ups_s, forall_eq]
  exact kk
theorem m_L88 (s : sM h) (j8 : j < 8) {x v : Int32} {X : Int32 → AH → Prop} (kk : ∀ g, mf [607] [] h g → (∀ k, ¬ (121 + 19 * j + 6 ≤ k ∧ k < 140 + 19 * j) → mI g 607 k = mI h 607 k) → (∀ k, 6 ≤ k → k < 19 → mI g 607 (121 + 19 * j + k) = nI 0) → wX10_frees_L88 X 1 606 v (nI j) (nI 19) g) : ∀ n y g, y + n = 19 → 6 ≤ y → mf [607] [] h g → (∀ k, ¬ (121 + 19 * j + 6 ≤ k ∧ k < 140 + 19 * j) → mI g 607 k = mI h 607 k) → (∀ k, 6 ≤ k → k < y → mI g 607 (121 + 19 * j + k) = nI 0) → wX10_frees_L88 X (n + 1) 606 v (nI j) (nI y) g := by
  intro n
  induction n with
  | zero =>
    intro y g hy h6 cg o z
    have hy' : y = 19 := hy
    subst hy'
    exact kk g cg o z
  | succ n ih =>
    intro y g hy h6 cg o z
    have s' := cg.s s
    rw [wX10_frees_L88]; dsimp only
    simp (disch := omega) only [s'.o, nI_add, pk_mul, nI_clamp, nI_leI, nI_ltI, nI_eq, vp_in_nI, true_and, m_tells s' j8 (show y < 19 by omega)]
    refine ⟨fun z => absurd z (by omega), fun _ => ?_⟩
    refine ih (y + 1) _ (by omega) (by omega) (cg.tr (mf.ui (by decide) (by decide))) (fun k hk => ?_) (fun k h1 h2 => ?_)
    · rw [mI_up, ups_o (by omega)]; exact o k hk
    · rw [mI_up]
      by_cases e : k = y
      · rw [e, ups_s]
      · rw [ups_o (by omega)]; exact z k h1 (by omega)
theorem m_frees (k : GK A) (i : IMs A) (s : sM h) (r : rm (mI h 607) A) {x : Int32} {K : Int32 → AH → Prop} (kk : mopK h (oFree A x) K) : wX10_frees 606 x h K := by
  have h12 := i.1.1
  unfold wX10_frees
  refine ⟨s.o, m_placeOf s i r (fun hf => ?_) (fun j t ht hf hx => ?_)⟩
  · have e : oFree A x = (1, nI 0, A) := by unfold oFree; rw [hf]
    rw [e] at kk
    exact ⟨fun z => absurd rfl z, fun _ => kk.1 (Nat.succ_ne_zero _)⟩
  obtain ⟨j8, tm_⟩ := i.j8 ht
  have et := r.t j8 ht
  obtain ⟨⟨t1, t2, t3⟩, -⟩ := i.2.2.2.1 t tm_
  refine ⟨fun _ => ?_, fun z => absurd z (by rw [nI_nem (by omega)]; exact id)⟩
  simp (disch := omega) only [s.o, m_train s j8, et.2.2.2.1, true_and]
  by_cases hr : tr t = []
  · have e : oFree A x = (2, nI 0, A) := by
      unfold oFree; rw [hf]; simp only
      rw [if_pos hr]
    rw [e] at kk
    rw [if_pos hr]
    exact ⟨fun z => absurd rfl z, fun _ => kk.1 (Nat.succ_ne_zero _)⟩
  rw [if_neg hr]
  have e0 : oFree A x = (0, nI ((aQ A).length + 1), wQ (upT A (tn t) (fun u => (tn u, tb u, td u, [], tu u, tl u))) (aQ A ++ [tn t])) := by
    unfold oFree; rw [hf]; simp only
    rw [if_neg hr]
  rw [e0] at kk
  have hq8 : (aQ A).length < 8 := Nat.lt_of_lt_of_le (k.2.2.qlt tm_ hr) i.2.1
  refine ⟨fun _ => ⟨(th_ t).length + 1, ?_⟩, fun z => absurd z (by decide)⟩
  generalize hWd : th_ t = W
  have hWl : W.length = (tr t).length + 1 := by rw [← hWd]; rfl
  have hW12 : W.length ≤ 12 := by rw [← hWd]; exact i.th tm_
  have hwn : ∀ y ∈ W, y < gn (aL A) := fun y hy => by
    rw [← hWd] at hy
    rcases List.mem_cons.mp hy with rfl | hy
    · exact t1
    · exact t3 y hy
  have e6 : mI h 607 (121 + 19 * j + 6) = nI W.length := by
    rw [et.2.2.2.2.2.2.1, if_neg hr, hWl]
  refine m_L26 i r j8 e6 (fun k' c hk' => et.2.2.2.2.2.2.2 hr k' c (by rw [hWd]; exact hk')) hW12 hwn s (fun g1 c1 u1 => ⟨14, ?_⟩) W.length 0 h (by omega) (mf.rf _ _ _) ⟨fun _ _ _ => rfl, fun k' b _ hk => absurd hk (by omega), fun _ _ _ => rfl, fun k' y p hk => absurd hk (by omega), fun _ _ _ => rfl⟩
  have s1 := c1.s s
  refine m_L88 (x := x) s1 j8 (fun g2 c2 o2 z2 => ?_) 13 6 g1 (by omega) (by omega) (mf.rf _ _ _) (fun _ _ => rfl) (fun k' h1 h2 => absurd h1 (by omega))
  have s2 := c2.s s1
  rw [wX10_frees_L88]; dsimp only
  simp (disch := omega) only [s2.o, nI_add, pk_mul, nI_clamp, nI_leI, nI_ltI, nI_eq, vp_in_nI, true_and, m_tells s2 j8 (show 3 < 19 by decide)]
  refine ⟨fun _ => ?_, fun z => absurd (Nat.le_refl _) z⟩
  have d1 : mf [607] [] g2 (uI g2 607 (121 + 19 * j + 3) (nI 0)) := mf.ui (by decide) (by decide)
  refine ⟨(d1.s s2).o, ?_⟩
  rw [m_tells (d1.s s2) j8 (show 4 < 19 by decide)]
  generalize hg3 : uI (uI g2 607 (121 + 19 * j + 3) (nI 0)) 607 (121 + 19 * j + 4) (nI 0) = g3
  have d3 : mf [607] [] g2 g3 := by rw [← hg3]; exact d1.tr (mf.ui (by decide) (by decide))
  have s3 := d3.s s2
  have f3 : mI g3 607 = ups (ups (mI g2 607) (121 + 19 * j + 3) (nI 0)) (121 + 19 * j + 4) (nI 0) := by rw [← hg3, mI_up, mI_up]
  have e5 : mI g3 607 5 = nI (aQ A).length := by
    rw [f3, ups_o (by omega), ups_o (by omega), o2 5 (by omega), u1.1 5 (by omega) (by omega)]
    exact r.1.2.2.2.2.2.1
  refine ⟨s3.o, m_enqueues s3 rfl hq8 e5 ?_⟩
  generalize hg4 : uI (uI g3 607 (273 + (aQ A).length) x) 607 5 (nI ((aQ A).length + 1)) = g4
  have d4 : mf [607] [] h g4 := by
    rw [← hg4]
    exact (c1.tr (c2.tr d3)).tr ((mf.ui (by decide) (by decide)).tr (mf.ui (by decide) (by decide)))
  have s4 := d4.s s
  have f4 : mI g4 607 = ups (ups (mI g3 607) (273 + (aQ A).length) x) 5 (nI ((aQ A).length + 1)) := by rw [← hg4, mI_up, mI_up]
  have e9 : mI g4 607 5 = nI ((aQ A).length + 1) := by rw [f4, ups_s]
  simp (disch := omega) only [s4.o, s4.r1, s4.a7, s4.l7, nI_add, pk_mul, nI_clamp, nI_leI, nI_ltI, nI_eq, vp_in_nI, true_and, e9]
  refine kk.end s4 rfl (d4.mo (by decide) (by decide)) ?_ rfl
  refine free_rm k i r ht hr hq8 hWd.symm rfl u1 (fun q a1 a2 a3 a4 a5 => ?_) e9 ?_ ?_ ?_
  · rw [f4, ups_o a1, ups_o (by omega), f3, ups_o a5, ups_o a4, o2 q a3]
  · rw [f4, ups_o (by omega), ups_o (by omega), f3, ups_o (by omega), ups_s]
  · rw [f4, ups_o (by omega), ups_o (by omega), f3, ups_o (by omega), ups_o (by omega)]
    exact z2 6 (by omega) (by omega)
  · rw [f4, ups_o (by omega), ups_s]
    exact hx.symm
end FQ
