/-! THE MODEL'S QUESTIONS about routes, numbers, trains, the queue -/
section MQ3
variable {h g : AH} {A : AG} {X : BG} {w : Nat} {K : Int32 → AH → Prop}
theorem m9_routeLength (q : RMb h X) (k : GK (bA X)) {x y : Int32} (kk : mqK h X (qRL (bA X) x y) K) : wX10_routeLength 606 x y h K := by
  have h12 := k.1.1
  unfold wX10_routeLength
  unfold qRL at kk
  refine ⟨q.1.o, m_arePlaces q k (fun e g c e0 => ?_) (fun b t hb ht eb et e1 e2 g c e0 => ?_)⟩
  · refine ⟨fun z => absurd rfl z, fun _ => ?_⟩
    rcases e with e | e
    · rw [e] at kk
      exact kk.to q c e0
    · rw [e] at kk
      cases h1 : iv (gn (aL (bA X))) x with
      | none => rw [h1] at kk; exact kk.to q c e0
      | some b => rw [h1] at kk; exact kk.to q c e0
  rw [e1, e2] at kk
  simp only at kk
  subst eb et
  have s' := c.s q.1
  have r' := q.2.1.fr c (by decide)
  have xb := k.2.1.b ht
  refine ⟨fun _ => ⟨s'.o, m_leads s' k.1 xb ht r' hb (fun hd g2 c2 w2 => ?_) (fun d hd g2 c2 w2 => ?_)⟩, fun z => absurd z (by decide)⟩
  · have hne : b ≠ t := fun z => by
      rw [z, xb.1] at hd
      cases hd
    have hr : rt (aL (bA X)) b t = [] := (rt_ne xb hb hne).mpr ((nx_none xb hb hne).mpr hd)
    rw [if_pos ⟨hne, hr⟩] at kk
    have s2 := c2.s s'
    refine ⟨fun z => absurd rfl z, fun _ => ⟨s2.o, ?_⟩⟩
    unfold wX10_fails
    refine ⟨s2.o, fun g3 hg3 => ?_⟩
    exact kk.to q (g := g3) (by rw [hg3]; exact c.tr ((c2.mo (by decide) (by decide)).tr (mf.uf (by decide)))) (by rw [hg3, mI_uI, if_pos ⟨rfl, rfl⟩])
  · have hn : ¬ (b ≠ t ∧ rt (aL (bA X)) b t = []) := fun z => by
      have := (nx_none xb hb z.1).mp ((rt_ne xb hb z.1).mp z.2)
      rw [hd] at this
      cases this
    rw [if_neg hn] at kk
    have h99 := rt_sl k.1 xb hb hd
    refine ⟨fun _ => ?_, fun z => absurd z (by rw [nI_nem (by omega)]; exact id)⟩
    exact kk.to q (c.tr (c2.mo (by decide) (by decide))) (by rw [c2.f (by decide)]; exact e0)
theorem m9_routeLengthByPaths (q : RMb h X) (k : GK (bA X)) {x y : Int32} (kk : mqK h X (qRL (bA X) x y) K) : wX10_routeLengthByPaths 606 x y h K := by
  unfold wX10_routeLengthByPaths
  exact ⟨q.1.o, m9_routeLength q k kk⟩
theorem m9_routeBlock (q : RMb h X) (k : GK (bA X)) {x y z : Int32} (kk : mqK h X (qRB (bA X) x y z) K) : wX10_routeBlock 606 x y z h K := by
  have h12 := k.1.1
  unfold wX10_routeBlock
  unfold qRB at kk
  refine ⟨q.1.o, m_arePlaces q k (fun e g c e0 => ?_) (fun b t hb ht eb et e1 e2 g c e0 => ?_)⟩
  · refine ⟨fun z => absurd rfl z, fun _ => ?_⟩
    rcases e with e | e
    · rw [e] at kk
      exact kk.to q c e0
    · rw [e] at kk
      cases h1 : iv (gn (aL (bA X))) x with
      | none => rw [h1] at kk; exact kk.to q c e0
      | some b => rw [h1] at kk; exact kk.to q c e0
  rw [e1, e2] at kk
  simp only at kk
  subst eb et
  have s' := c.s q.1
  have r' := q.2.1.fr c (by decide)
  have xb := k.2.1.b ht
  have fails : ∀ g2, mf [614, 615, 616] [20] g g2 → mqK h X (2, nI 0) K → wX10_routeBlock_J39 K 606 g2 := fun g2 c2 kk => by
    have s2 := c2.s s'
    unfold wX10_routeBlock_J39 wX10_fails
    refine ⟨s2.o, s2.o, fun g3 hg3 => ?_⟩
    exact kk.to q (g := g3) (by rw [hg3]; exact c.tr ((c2.mo (by decide) (by decide)).tr (mf.uf (by decide)))) (by rw [hg3, mI_uI, if_pos ⟨rfl, rfl⟩])
  refine ⟨fun _ => ⟨s'.o, m_leads s' k.1 xb ht r' hb (fun hd g2 c2 w2 => ?_) (fun d hd g2 c2 w2 => ?_)⟩, fun z => absurd z (by decide)⟩
  · have hne : b ≠ t := fun z => by
      rw [z, xb.1] at hd
      cases hd
    have hr : rt (aL (bA X)) b t = [] := (rt_ne xb hb hne).mpr ((nx_none xb hb hne).mpr hd)
    rw [if_pos ⟨hne, hr⟩] at kk
    exact ⟨fun _ => fails g2 c2 kk, fun z => absurd rfl z⟩
  · have hn : ¬ (b ≠ t ∧ rt (aL (bA X)) b t = []) := fun z => by
      have := (nx_none xb hb z.1).mp ((rt_ne xb hb z.1).mp z.2)
      rw [hd] at this
      cases this
    rw [if_neg hn] at kk
    have h99 := rt_sl k.1 xb hb hd
    have hl11 := (rt_all k.1 xb hb hd).2.2.2.2
    have s2 := c2.s s'
    have w1 : mI g2 606 20 = nI ((rt (aL (bA X)) b t).length + 1) := w2.1
    refine ⟨fun z => absurd z (by rw [nI_nem (by omega)]; exact id), fun _ => ⟨s2.o, ?_⟩⟩
    rw [w1, m_inS (by omega)]
    refine iv_if (fun e => ?_) (fun j hj ej e => ?_) (by omega)
    · rw [show (rt (aL (bA X)) b t).length.succ = (rt (aL (bA X)) b t).length + 1 from rfl, e] at kk
      exact fails g2 c2 kk
    · rw [show (rt (aL (bA X)) b t).length.succ = (rt (aL (bA X)) b t).length + 1 from rfl, e] at kk
      subst ej
      have hc : (b :: rt (aL (bA X)) b t)[j]? = some ((b :: rt (aL (bA X)) b t).getD j 0) := by
        rw [List.getD_eq_getElem?_getD, List.getElem?_eq_getElem (by simpa using hj)]; rfl
      have w3 := w2.2 j _ hc
      simp (disch := omega) only [s2.o, s2.r12, s2.a16, s2.l16, nI_add, pk_mul, nI_clamp, nI_leI, nI_ltI, nI_eq, vp_in_nI, true_and, w3]
      exact kk.to q (c.tr (c2.mo (by decide) (by decide))) (by rw [c2.f (by decide)]; exact e0)
theorem m9_head (q : RMb h X) {k : Nat} {v : Int32} (hk : k < 9) (hv : mI h 607 k = v) (kk : mqK h X (0, v) K) : ∀ g, g = uI h 606 0 (nI 0) → isA h (mR h 606 1) 0 ∧ vp_in (nI k) (ln h (mR h 606 1)) ∧ K (mI g (mR h 606 1) (nI k).toNatClampNeg) g := by
  have s := q.1
  intro g hg
  simp (disch := omega) only [s.o, s.r1, s.a7, s.l7, nI_add, pk_mul, nI_clamp, nI_leI, nI_ltI, nI_eq, vp_in_nI, true_and]
  have : mI g 607 k = v := by rw [hg, mI_o (by decide)]; exact hv
  rw [this]
  exact kk.to q (g := g) (by rw [hg]; exact mf.uf (by decide)) (by rw [hg, mI_uI, if_pos ⟨rfl, rfl⟩])
theorem m9_blocks (q : RMb h X) (kk : mqK h X (0, nI (gn (aL (bA X)))) K) : wX10_blocks 606 h K := ⟨q.1.o, m9_head q (by decide) q.2.1.1.1 kk⟩
theorem m9_trains (q : RMb h X) (kk : mqK h X (0, nI (aT (bA X)).length) K) : wX10_trains 606 h K := ⟨q.1.o, m9_head q (by decide) q.2.1.1.2.2.2.2.1 kk⟩
theorem m9_time (q : RMb h X) (kk : mqK h X (0, nI (aM (bA X))) K) : wX10_time 606 h K := ⟨q.1.o, m9_head q (by decide) q.2.1.1.2.2.2.2.2.2.1 kk⟩
theorem m9_arrived (q : RMb h X) (kk : mqK h X (0, nI (aO (bA X))) K) : wX10_arrived 606 h K := ⟨q.1.o, m9_head q (by decide) q.2.1.1.2.2.2.2.2.2.2.1 kk⟩
theorem m_asked (q : RMb h X) (i : IMs (bA X)) {x : Int32} {k : Nat} (hk : k < 19) (kN : fnd (bA X) x = none → ∀ g, mf [614, 615, 616, 617, 618] [0, 20] h g → mI g 606 0 = nI 1 → K (nI 0) g) (kS : ∀ j t, (aT (bA X))[j]? = some t → fnd (bA X) x = some t → ∀ g, mf [614, 615, 616, 617, 618] [0, 20] h g → mI g 606 0 = nI 0 → K (mI h 607 (121 + 19 * j + k)) g) : wX10_asked 606 x (nI k) h K := by
  unfold wX10_asked
  refine ⟨q.1.o, m_placeOf q.1 i q.2.1 (fun hf => ⟨fun z => absurd rfl z, fun _ => ?_⟩) (fun j t ht hf hx => ?_)⟩
  · unfold wX10_asked_J17
    refine ⟨q.1.o, fun g1 hg1 => ⟨q.1.o, ?_⟩⟩
    have c : mf [614, 615, 616, 617, 618] [0, 20] h g1 := by rw [hg1]; exact mf.uf (by decide)
    have e0 : mI g1 606 0 = nI 1 := by rw [hg1, mI_uI, if_pos ⟨rfl, rfl⟩]
    rw [e0]
    exact ⟨fun z => absurd z (by decide), fun _ => kN hf g1 c e0⟩
  · obtain ⟨j8, tm_⟩ := i.j8 ht
    refine ⟨fun _ => ?_, fun z => absurd z (by rw [nI_nem (by omega)]; exact id)⟩
    unfold wX10_asked_J17
    refine ⟨q.1.o, fun g1 hg1 => ⟨q.1.o, ?_⟩⟩
    have c : mf [614, 615, 616, 617, 618] [0, 20] h g1 := by rw [hg1]; exact mf.uf (by decide)
    have e0 : mI g1 606 0 = nI 0 := by rw [hg1, mI_uI, if_pos ⟨rfl, rfl⟩]
    rw [e0]
    refine ⟨fun _ => ?_, fun z => absurd (by decide) z⟩
    rw [m_train (c.s q.1) j8 hk, c.c (by decide) (by decide)]
    exact kS j t ht hf g1 c e0
theorem m9_blockOf (q : RMb h X) (i : IMs (bA X)) {x : Int32} (kk : mqK h X (qT (fun t => nI (tb t)) (bA X) x) K) : wX10_blockOf 606 x h K := by
  unfold wX10_blockOf
  unfold qT at kk
  refine ⟨q.1.o, m_asked q i (by decide) (fun hf g c e0 => ?_) (fun j t ht hf g c e0 => ?_)⟩
  · rw [hf] at kk; exact kk.to q c e0
  · rw [hf] at kk
    rw [(q.2.1.t (i.j8 ht).1 ht).2.1]; exact kk.to q c e0
theorem m9_destination (q : RMb h X) (i : IMs (bA X)) {x : Int32} (kk : mqK h X (qT (fun t => nI (td t)) (bA X) x) K) : wX10_destination 606 x h K := by
  unfold wX10_destination
  unfold qT at kk
  refine ⟨q.1.o, m_asked q i (by decide) (fun hf g c e0 => ?_) (fun j t ht hf g c e0 => ?_)⟩
  · rw [hf] at kk; exact kk.to q c e0
  · rw [hf] at kk
    rw [(q.2.1.t (i.j8 ht).1 ht).2.2.1]; exact kk.to q c e0
theorem m9_delay (q : RMb h X) (i : IMs (bA X)) {x : Int32} (kk : mqK h X (qT (fun t => nI (tl t)) (bA X) x) K) : wX10_delay 606 x h K := by
  unfold wX10_delay
  unfold qT at kk
  refine ⟨q.1.o, m_asked q i (by decide) (fun hf g c e0 => ?_) (fun j t ht hf g c e0 => ?_)⟩
  · rw [hf] at kk; exact kk.to q c e0
  · rw [hf] at kk
    rw [(q.2.1.t (i.j8 ht).1 ht).2.2.2.2.2.1]; exact kk.to q c e0
theorem m9_hasRoute (q : RMb h X) (i : IMs (bA X)) {x : Int32} (kk : mqK h X (qT (fun t => if tr t = [] then nI 0 else nI 1) (bA X) x) K) : wX10_hasRoute 606 x h K := by
  unfold wX10_hasRoute
  unfold qT at kk
  refine ⟨q.1.o, m_asked q i (by decide) (fun hf g c e0 => ?_) (fun j t ht hf g c e0 => ?_)⟩
  · rw [hf] at kk; exact ⟨fun _ => kk.to q c e0, fun z => absurd z (by decide)⟩
  · rw [hf] at kk
    have := kk.to q c e0
    rw [(q.2.1.t (i.j8 ht).1 ht).2.2.2.1]
    by_cases z : tr t = []
    · rw [if_pos z]
      simp only [z, if_true] at this
      exact ⟨fun _ => this, fun z => absurd z (by decide)⟩
    · rw [if_neg z]
      simp only [z, if_false] at this
      exact ⟨fun z => absurd rfl z, fun _ => this⟩
end MQ3
