/-! THE MODEL'S CHANGES: setting a route -/
section CL
variable {h g : AH} {A : AG} {j : Nat}
theorem find_first {l : List Nat} {k c : Nat} {P : Nat → Bool} (h1 : l[k]? = some c) (h2 : P c = true) (h3 : ∀ y ∈ l.take k, P y = false) : l.find? P = some c := by
  obtain ⟨hk, hc⟩ := List.getElem?_eq_some_iff.mp h1
  rw [List.find?_eq_some_iff_getElem]
  refine ⟨h2, k, hk, hc, fun j hj => ?_⟩
  have := h3 l[j] (List.mem_take_iff_getElem.mpr ⟨j, by omega, rfl⟩)
  simp [this]
theorem m_clears (k : GK A) (i : IMs A) (hM : aM A < 2 ^ 30) (s : sM h) (r : rm (mI h 607) A) {x : Int32} {K : Int32 → AH → Prop} (k1 : (oSet A x).1 = 1 ∨ (oSet A x).1 = 2 → K (nI (oSet A x).1) h) (k3 : ∀ t, fnd A x = some t → (oSet A x).1 = 3 → ∀ g, mf [614, 615, 616] [20, 21, 22] h g → mI g 606 21 = nI (why A t).1 → mI g 606 22 = oI (why A t).2 → K (nI 3) g) (k0 : (oSet A x).1 = 0 → ∀ g, mf [607, 614, 615, 616] [19, 20] h g → rm (mI g 607) (oSet A x).2.2 → mI g 606 19 = (oSet A x).2.1 → K (nI 0) g) : wX10_clears 606 x h K := by
  have h12 := i.1.1
  unfold wX10_clears
  refine ⟨s.o, m_placeOf s i r (fun hf => ?_) (fun j t ht hf hx => ?_)⟩
  · have e : oSet A x = (1, nI 0, A) := by unfold oSet; rw [hf]
    rw [e] at k1
    exact ⟨fun z => absurd rfl z, fun _ => k1 (Or.inl rfl)⟩
  obtain ⟨j8, tm_⟩ := i.j8 ht
  have e3 := (r.t j8 ht).2.2.2.1
  obtain ⟨⟨t1, t2, -⟩, -⟩ := i.2.2.2.1 t tm_
  have hne : tb t ≠ td t := (k.2.2.2.1 t tm_).2.2.1
  refine ⟨fun _ => ?_, fun z => absurd z (by rw [nI_nem (by omega)]; exact id)⟩
  simp (disch := omega) only [s.o, m_train s j8, e3, true_and]
  by_cases hr : tr t ≠ []
  · have e : oSet A x = (2, nI 0, A) := by
      unfold oSet; rw [hf]; simp only
      rw [if_pos hr]
    rw [e] at k1
    rw [if_neg hr]
    exact ⟨fun z => absurd rfl z, fun _ => k1 (Or.inr rfl)⟩
  have hr' : tr t = [] := Classical.not_not.mp hr
  rw [if_pos hr']
  refine ⟨fun _ => ?_, fun z => absurd z (by decide)⟩
  have no3 : can A t = false → oSet A x = (3, nI 0, A) := fun hcan => by
    unfold oSet; rw [hf]; simp only
    rw [if_neg hr, hcan]; rfl
  have jump : ∀ (x3 : Int32) (g : AH) (v : Int32) (o : Option Nat), can A t = false → mf [614, 615, 616] [20] h g → v = nI (why A t).1 → (why A t).2 = o → (o = none → x3 = nI 0) → (∀ b, o = some b → ∃ k, k < 12 ∧ 1 ≤ k ∧ x3 = nI k ∧ mI g 616 k = nI b) → wX10_clears_J66 K 606 x3 606 v g := by
    intro x3 g v o hcan c hv ho h1 h2
    have s' := c.s s
    have k3' := k3 t hf (by rw [no3 hcan])
    unfold wX10_clears_J66
    refine ⟨s'.o, fun g1 hg1 => ?_⟩
    have c1 : mf [614, 615, 616] [20, 21, 22] h g1 := by rw [hg1]; exact (c.mo (by decide) (by decide)).tr (mf.uf (by decide))
    have s1 := c1.s s
    have fin : ∀ y, y = oI (why A t).2 → wX10_clears_J84 K 606 y g1 := fun y hy => by
      unfold wX10_clears_J84
      refine ⟨s1.o, fun g2 hg2 => ?_⟩
      refine k3' g2 (by rw [hg2]; exact c1.tr (mf.uf (by decide))) ?_ ?_
      · rw [hg2, mI_uI, if_neg (by omega), hg1, mI_uI, if_pos ⟨rfl, rfl⟩, hv]
      · rw [hg2, mI_uI, if_pos ⟨rfl, rfl⟩, hy]
    cases o with
    | none =>
      rw [h1 rfl]
      exact ⟨fun z => absurd rfl z, fun _ => fin _ (by rw [ho]; rfl)⟩
    | some b =>
      obtain ⟨k', hk, hk1, hk2, hk3⟩ := h2 b rfl
      rw [hk2]
      have e6 : mI g1 616 k' = nI b := by rw [hg1, mI_o (by decide)]; exact hk3
      simp (disch := omega) only [s'.o, s'.r12, s'.a16, s'.l16, nI_add, pk_mul, nI_clamp, nI_leI, nI_ltI, nI_eq, vp_in_nI, true_and, e6]
      exact ⟨fun _ => fin _ (by rw [ho]; rfl), fun z => absurd z (by omega)⟩
  refine m_hindered s i k.2.1 r ht hne (fun h1 g c => ?_) (fun h1 h2 g c w => ?_) (fun kk c' h1 h2 h3 g c w => ?_)
  · have hcan : can A t = false := by rw [can_def, h1]; simp
    have hw : why A t = (110, none) := by unfold why; rw [h1]; rfl
    refine ⟨fun _ => ⟨fun z => absurd rfl z, fun _ => ?_⟩, fun z => absurd z (by decide)⟩
    exact jump (nI 0) g (nI 110) none hcan c (by rw [hw]) (by rw [hw]) (fun _ => rfl) (fun b hb => by cases hb)
  · have hcan : can A t = true := by
      rw [can_def, List.all_eq_true.mpr h2]
      simp [hr', h1]
    have s1 := c.s s
    have e0 : oSet A x = (0, nI (sl (aL A) (rtT A t)), wQ (setT A t) ((aQ A).filter (fun q => decide (q ≠ tn t)))) := by
      unfold oSet; rw [hf]; simp only
      rw [if_neg hr, hcan]; rfl
    refine ⟨fun z => absurd rfl z, fun _ => ⟨s1.o, ?_⟩⟩
    refine m_sets k i hM s1 (r.fr c (by decide)) ht hcan (fun g2 c2 r2 => ?_)
    have s2 := c2.s s1
    refine ⟨s2.o, ?_⟩
    rw [m_done s2]
    refine k0 (by rw [e0]) _ ((c.mo (by decide) (by decide)).tr ((c2.mo (by decide) (by decide)).tr (mf.uf (by decide)))) ?_ ?_
    · rw [mI_o (by decide), e0]; exact r2
    · rw [mI_uI, if_pos ⟨rfl, rfl⟩, e0]
  · have hcan : can A t = false := by
      rw [can_def]
      have e3 : (rtT A t).all (fun b => fre A b) = false := by
        rw [List.all_eq_false]
        exact ⟨c', List.mem_of_getElem? h1, by rw [h2]; decide⟩
      rw [e3]; simp
    have hfd : (rtT A t).find? (fun b => !fre A b) = some c' := find_first h1 (by rw [h2]; rfl) (fun y hy => by rw [h3 y hy]; rfl)
    have hw : why A t = (stc A c', some c') := by unfold why; rw [hfd]
    have s1 := c.s s
    have hkl := (List.getElem?_eq_some_iff.mp h1).1
    have x' := k.2.1.b t2
    have hlen : (rtT A t).length ≤ 11 ∧ ∀ y ∈ rtT A t, y < gn (aL A) := by
      cases hd : ds (aL A) (td t) (tb t) with
      | none =>
        have : rtT A t = [] := (rt_ne x' t1 hne).mpr ((nx_none x' t1 hne).mpr hd)
        rw [this] at hkl
        exact absurd hkl (by simp)
      | some d =>
        have := rt_all i.1 x' t1 hd
        exact ⟨this.2.2.2.2, this.2.2.1⟩
    have hcn := hlen.2 c' (List.mem_of_getElem? h1)
    have w2 := w.2 (kk + 1) c' (by rw [List.getElem?_cons_succ]; exact h1)
    refine ⟨fun _ => ⟨fun _ => ?_, fun z => ?_⟩, fun z => absurd z (by rw [nI_nem (by omega)]; exact id)⟩
    · simp (disch := omega) only [s1.o, s1.r12, s1.a16, s1.l16, nI_add, pk_mul, nI_clamp, nI_leI, nI_ltI, nI_eq, vp_in_nI, true_and, w2, m_look s1 i (r.fr c (by decide)) (show c' < 12 by omega)]
      exact jump (nI (kk + 1)) g _ (some c') hcan c (by rw [hw]) (by rw [hw]) (fun z => by cases z) (fun b hb => by cases hb; exact ⟨kk + 1, by omega, by omega, rfl, w2⟩)
    · rw [nI_eq (by omega) (by decide)] at z
      omega
end CL
