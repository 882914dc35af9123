/-! THE MODEL SETS A ROUTE: the contract; clears -/
section SC
variable {h g : AH} {A : AG} {j : Nat}
theorem eraseIdx_filter {v : Nat} : ∀ (Q : List Nat) (q : Nat), Q.Nodup → Q[q]? = some v → Q.eraseIdx q = Q.filter (fun q => decide (q ≠ v)) := by
  intro Q
  induction Q with
  | nil => intro q _ h; simp at h
  | cons a Q ih =>
    intro q hn hq
    obtain ⟨h1, h2⟩ := List.nodup_cons.mp hn
    cases q with
    | zero =>
      have : a = v := by simpa using hq
      subst this
      rw [List.eraseIdx_cons_zero, List.filter_cons, if_neg (by simp)]
      exact (List.filter_eq_self.mpr (fun x hx => by
        have : x ≠ a := fun z => h1 (z ▸ hx)
        simpa using this)).symm
    | succ q =>
      rw [List.getElem?_cons_succ] at hq
      have hne : a ≠ v := fun z => h1 (z ▸ List.mem_of_getElem? hq)
      rw [List.eraseIdx_cons_succ, List.filter_cons, if_pos (decide_eq_true hne), ih q h2 hq]
theorem cx_ex {G : LG} : ∀ (l : List Nat) (b : Nat), cx G b l → ∀ k x c, (b :: l)[k]? = some x → (b :: l)[k + 1]? = some c → ex G x c := by
  intro l
  induction l with
  | nil => intro b _ k x c _ h2; simp at h2
  | cons d l ih =>
    intro b hc k x c h1 h2
    cases k with
    | zero =>
      have e1 : b = x := by simpa using h1
      have e2 : d = c := by simpa using h2
      subst e1 e2
      exact hc.1
    | succ k => exact ih d hc.2 k x c (by rw [List.getElem?_cons_succ] at h1; exact h1) (by rw [List.getElem?_cons_succ] at h2; exact h2)
theorem m_sets (k : GK A) (i : IMs A) (hM : aM A < 2 ^ 30) (s : sM h) (r : rm (mI h 607) A) {t : TG} (ht : (aT A)[j]? = some t) (hc : can A t = true) {K : Int32 → AH → Prop} (kk : ∀ g, mf [607, 614, 615, 616] [20] h g → rm (mI g 607) (wQ (setT A t) ((aQ A).filter (fun q => decide (q ≠ tn t)))) → K (nI (sl (aL A) (rtT A t))) g) : wX10_sets 606 (nI j) h K := by
  obtain ⟨j8, tm_⟩ := i.j8 ht
  obtain ⟨q1, q2, q3, q4, q5, q6, q7⟩ := rt_in k tm_ hc
  have h12 := i.1.1
  obtain ⟨⟨t1, t2, -⟩, -⟩ := i.2.2.2.1 t tm_
  have hne : tb t ≠ td t := (k.2.2.2.1 t tm_).2.2.1
  have htn := i.tn tm_
  have x := k.2.1.b t2
  have e := r.t j8 ht
  unfold wX10_sets
  simp (disch := omega) only [s.o, m_train s j8, e.1, e.2.1, e.2.2.1, true_and]
  refine m_leads s i.1 x t2 r t1 (fun hd g c w => ?_) (fun d hd g c w => ?_)
  · have : rtT A t = [] := (rt_ne x t1 hne).mpr ((nx_none x t1 hne).mpr hd)
    exact absurd this q3
  have s1 := c.s s
  have r1 := r.fr c (by decide)
  have e1 := r1.t j8 ht
  have hlen := (rt_all i.1 x t1 hd).2.2.2.2
  have hr0 : rt (aL A) (tb t) (td t) = rtT A t := rfl
  rw [hr0] at w hlen
  generalize hWd : tb t :: rtT A t = W at w
  have hWl : W.length = (rtT A t).length + 1 := by rw [← hWd]; rfl
  have hwn : ∀ y ∈ W, y < gn (aL A) := fun y hy => by
    rw [← hWd] at hy
    rcases List.mem_cons.mp hy with rfl | hy
    · exact t1
    · exact q1 y hy
  simp (disch := omega) only [s1.o, m_train s1 j8, e1.1, true_and]
  refine ⟨W.length + 1, ?_⟩
  have hd12 : gd (aL A) < 2 ^ 12 := i.1.d12
  refine m_L27 (M := tms (aL A) (gd (aL A)) (tb t) (rtT A t)) i r1 j8 w (by omega) hwn (fun k' b c' h1 h2 => by rw [← hWd] at h1 h2; exact cx_ex _ _ q4 k' b c' h1 h2) htn s1 (fun g2 c2 u2 => ?_) W.length 0 (gd (aL A)) g (by omega) (mf.rf _ _ _) ⟨fun _ _ _ _ => rfl, fun k' c' hk => absurd hk (by omega), fun k' b _ hk => absurd hk (by omega), fun _ _ _ => rfl, fun p y hp => ((r1.2.2.1 p (Nat.lt_of_lt_of_le (List.getElem?_eq_some_iff.mp hp).1 i.1.2.2.2.2.1)).1 y hp).2.2.2, fun _ _ _ => rfl, fun k' y p hk => absurd hk (by omega), fun _ _ _ => rfl⟩ hd12 (by rw [List.drop_zero, ← hWd]; rfl)
  have s2 := c2.s s1
  have w1 : mI g2 606 20 = nI W.length := by rw [c2.f (by decide)]; exact w.1
  have hl0 : rtT A t = (rtT A t).headD 0 :: (rtT A t).tail := by
    cases hr : rtT A t with
    | nil => exact absurd hr q3
    | cons a l => rfl
  have hW1 : W[1]? = some ((rtT A t).headD 0) := by rw [← hWd, List.getElem?_cons_succ, hl0]; rfl
  have w2 : mI g2 616 1 = nI ((rtT A t).headD 0) := by rw [c2.c (by decide) (by decide)]; exact w.2 1 _ hW1
  have hcn := hwn _ (List.mem_of_getElem? hW1)
  generalize hcd : (rtT A t).headD 0 = c1 at w2 hcn hW1
  have h9 := (i.1.2.1 c1 hcn).2
  rw [wX10_sets_L27]; dsimp only
  simp (disch := omega) only [s2.o, w1, nI_add, pk_mul, nI_clamp, nI_leI, nI_ltI, nI_eq, vp_in_nI, true_and, m_tells s2 j8 (show 6 < 19 by decide)]
  refine ⟨fun _ => ?_, fun z => absurd (Nat.le_refl _) z⟩
  have d1 : mf [607] [] g2 (uI g2 607 (121 + 19 * j + 6) (nI W.length)) := mf.ui (by decide) (by decide)
  refine ⟨(d1.s s2).o, ?_⟩
  rw [m_tells (d1.s s2) j8 (show 3 < 19 by decide)]
  generalize hg3 : uI (uI g2 607 (121 + 19 * j + 6) (nI W.length)) 607 (121 + 19 * j + 3) (nI 1) = g3
  have d2 : mf [607] [] g2 g3 := by rw [← hg3]; exact d1.tr (mf.ui (by decide) (by decide))
  have s3 := d2.s s2
  have f3 : mI g3 607 = ups (ups (mI g2 607) (121 + 19 * j + 6) (nI W.length)) (121 + 19 * j + 3) (nI 1) := by rw [← hg3, mI_up, mI_up]
  have w3 : mI g3 616 1 = nI c1 := by rw [d2.c (by decide) (by decide)]; exact w2
  have e6 : mI g3 607 6 = nI (aM A) := by
    rw [f3, ups_o (by omega), ups_o (by omega), u2.1 6 (by omega) (by omega) (by omega)]
    exact r1.1.2.2.2.2.2.2.1
  have el : mI g3 607 (9 + 6 * c1 + 0) = nI (gl (aL A) c1) := by
    rw [f3, ups_o (by omega), ups_o (by omega), u2.1 _ (by omega) (by omega) (by omega)]
    exact (r1.2.1 c1 (by omega)).1 hcn
  simp (disch := omega) only [s3.o, s3.r1, s3.a7, s3.l7, s3.r12, s3.a16, s3.l16, w3, e6, nI_add, pk_mul, nI_clamp, nI_leI, nI_ltI, nI_eq, vp_in_nI, true_and, m_block s3 (show c1 < 12 by omega), el]
  rw [m_tells s3 j8 (show 4 < 19 by decide)]
  generalize hg4 : uI g3 607 (121 + 19 * j + 4) (nI (aM A + gl (aL A) c1)) = g4
  have d4 : mf [607] [] g2 g4 := by rw [← hg4]; exact d2.tr (mf.ui (by decide) (by decide))
  have s4 := d4.s s2
  have f4 : mI g4 607 = ups (ups (ups (mI g2 607) (121 + 19 * j + 6) (nI W.length)) (121 + 19 * j + 3) (nI 1)) (121 + 19 * j + 4) (nI (aM A + gl (aL A) c1)) := by rw [← hg4, mI_up, f3]
  refine ⟨s4.o, ?_⟩
  have hq : tn t ∈ aQ A := (k.2.2.2.2.2.2.1 (tn t)).mpr ⟨t, tm_, rfl, q7⟩
  have hqn := k.2.2.2.2.2.1
  obtain ⟨q, hq⟩ := List.mem_iff_getElem?.mp hq
  have hql := (List.getElem?_eq_some_iff.mp hq).1
  have hq8 := i.2.2.1
  have oq : ∀ k', k' < 8 → mI g4 607 (273 + k') = mI g 607 (273 + k') := fun k' hk' => by
    rw [f4, ups_o (by omega), ups_o (by omega), ups_o (by omega)]
    exact u2.1 _ (by omega) (by omega) (by omega)
  refine m_unqueues hq8 hq (fun c' hc' => ?_) (fun k' c' h1 h2 z => ?_) s4 ?_ (fun k' c' hk' => ?_) (fun g5 c5 u5 => ?_)
  · obtain ⟨t', ht', e9, -⟩ := (k.2.2.2.2.2.2.1 c').mp hc'
    have := i.tn ht'
    omega
  · have : k' = q := (List.getElem?_inj (List.getElem?_eq_some_iff.mp h2).1 hqn).mp (h2.trans (z ▸ hq.symm))
    omega
  · rw [f4, ups_o (by omega), ups_o (by omega), ups_o (by omega), u2.1 5 (by omega) (by omega) (by omega)]
    exact r1.1.2.2.2.2.2.1
  · have := (List.getElem?_eq_some_iff.mp hk').1
    rw [oq k' (by omega)]
    exact r1.2.2.2.2.2 k' c' hk'
  · rw [f4] at u5
    have cc : mf [607, 614, 615, 616] [20] h g5 := (c.mo (by decide) (by decide)).tr ((c2.mo (by decide) (by decide)).tr ((d4.mo (by decide) (by decide)).tr (c5.mo (by decide) (by decide))))
    refine kk g5 cc ?_
    rw [← eraseIdx_filter _ q hqn hq]
    exact set_rm k i r1 ht hc hWd.symm rfl rfl u2 (by rw [hcd]; exact u5)
end SC
