/-! THE MODEL: WAITING -/
section MW
variable {h g : AH} {A : AG} {X : BG} {w : Nat} {K : Int32 → AH → Prop}
theorem ix_inj {T : List TG} (h : T.Pairwise (fun t u => tn t < tn u ∧ ∀ b ∈ th_ t, b ∉ th_ u)) {t u : TG} {j k : Nat} (ht : T[j]? = some t) (hu : T[k]? = some u) (e : tn t = tn u) : j = k := by
  obtain ⟨hj, e1⟩ := List.getElem?_eq_some_iff.mp ht
  obtain ⟨hk, e2⟩ := List.getElem?_eq_some_iff.mp hu
  have p := List.pairwise_iff_getElem.mp h
  rcases Nat.lt_trichotomy j k with z | z | z
  · have := (p j k hj hk z).1
    rw [e1, e2] at this
    omega
  · exact z
  · have := (p k j hk hj z).1
    rw [e1, e2] at this
    omega
theorem tn_eq (i : IMs A) {t u : TG} (ht : t ∈ aT A) (hu : u ∈ aT A) (e : tn t = tn u) : t = u := by
  obtain ⟨j, hj, rfl⟩ := List.mem_iff_getElem.mp ht
  obtain ⟨k, hk, rfl⟩ := List.mem_iff_getElem.mp hu
  have := ix_inj i.2.2.2.2 (List.getElem?_eq_getElem hj) (List.getElem?_eq_getElem hk) e
  subst this
  rfl
theorem oc_iff (i : IMs A) {u : TG} (hu : u ∈ aT A) {b : Nat} : ocE A b = tn u + 1 ↔ tb u = b := by
  constructor
  · intro z
    unfold ocE at z
    cases hf : (aT A).find? (fun t => decide (tb t = b)) with
    | none => rw [hf] at z; exact absurd z (by show ¬ 0 = _; omega)
    | some t =>
      rw [hf] at z
      have z : tn t + 1 = tn u + 1 := z
      have := tn_eq i (List.mem_of_find?_eq_some hf) hu (by omega)
      subst this
      have := List.find?_some hf
      exact of_decide_eq_true this
  · intro z
    refine toE_of hu (decide_eq_true z) (fun v hv y => ?_)
    have y := of_decide_eq_true y
    rw [pw_eq i.2.2.2.2 hv hu (show b ∈ th_ v by rw [← y]; exact List.mem_cons_self) (show b ∈ th_ u by rw [← z]; exact List.mem_cons_self)]
theorem rs_iff (i : IMs A) {u : TG} (hu : u ∈ aT A) {b : Nat} : rsE A b = tn u + 1 ↔ b ∈ tr u := by
  constructor
  · intro z
    unfold rsE at z
    cases hf : (aT A).find? (fun t => decide (b ∈ tr t)) with
    | none => rw [hf] at z; exact absurd z (by show ¬ 0 = _; omega)
    | some t =>
      rw [hf] at z
      have z : tn t + 1 = tn u + 1 := z
      have := tn_eq i (List.mem_of_find?_eq_some hf) hu (by omega)
      subst this
      have := List.find?_some hf
      exact of_decide_eq_true this
  · intro z
    refine toE_of hu (decide_eq_true z) (fun v hv y => ?_)
    have y := of_decide_eq_true y
    rw [pw_eq i.2.2.2.2 hv hu (List.mem_cons_of_mem _ y) (List.mem_cons_of_mem _ z)]
theorem m_L49 (s : sM h) (i : IMs A) (r : rm (mI h 607) A) {b : Nat} {l : List Nat} (hl : ∀ y ∈ l, y < gn (aL A)) (hl2 : l.length ≤ 11) (w : wyM h (b :: l)) {u : TG} (hu : u ∈ aT A) (kF : l.any (fun b => decide (b ∈ th_ u)) = false → K (nI 0) h) (kT : l.any (fun b => decide (b ∈ th_ u)) = true → K (nI 1) h) : ∀ n k, k + n = l.length → (∀ y ∈ l.take k, y ∉ th_ u) → wX10_isWaiting_L49 K (n + 1) 606 (nI (tn u + 1)) (nI (k + 1)) h := by
  have h12 := i.1.1
  have w1 := w.1
  rw [List.length_cons] at w1
  have htn := i.tn hu
  intro n
  induction n with
  | zero =>
    intro k hk hf
    have hk' : k = l.length := hk
    rw [wX10_isWaiting_L49]; dsimp only
    simp (disch := omega) only [s.o, w1, nI_add, pk_mul, nI_clamp, nI_leI, nI_ltI, nI_eq, vp_in_nI, true_and]
    refine ⟨fun _ => kF ?_, fun z => absurd (by omega) z⟩
    rw [hk', List.take_length] at hf
    rw [List.any_eq_false]
    intro y hy z
    exact hf y hy (of_decide_eq_true z)
  | succ n ih =>
    intro k hk hf
    have hkl : k < l.length := by omega
    have hc : l[k]? = some l[k] := List.getElem?_eq_getElem hkl
    have hm : l[k] ∈ l := List.getElem_mem hkl
    have hcl := hl _ hm
    have w2 := w.2 (k + 1) l[k] (by rw [List.getElem?_cons_succ]; exact hc)
    have e4 := (r.2.2.2.2.1.1 l[k] (by omega)).1
    have e5 := (r.2.2.2.2.1.1 l[k] (by omega)).2
    have l4 := i.oc l[k]
    have l5 := i.rs l[k]
    rw [wX10_isWaiting_L49]; dsimp only
    simp (disch := omega) only [s.o, s.r12, s.a16, s.l16, w1, w2, nI_add, pk_mul, nI_clamp, nI_leI, nI_ltI, nI_eq, vp_in_nI, true_and, m_block s (show l[k] < 12 by omega), e4, e5, oc_iff i hu, rs_iff i hu]
    refine ⟨fun z => absurd z (by omega), fun _ => ⟨fun z => kT ?_, fun z => ⟨fun z2 => ?_, fun z2 => kT ?_⟩⟩⟩
    · rw [List.any_eq_true]
      exact ⟨_, hm, decide_eq_true (by rw [← z]; exact List.mem_cons_self)⟩
    · refine ih (k + 1) (by omega) (fun y hy => ?_)
      rw [List.take_add_one, hc] at hy
      rcases List.mem_append.mp hy with hy | hy
      · exact hf y hy
      · have : y = l[k] := by simpa using hy
        rw [this]
        intro z3
        rcases List.mem_cons.mp z3 with z3 | z3
        · exact z z3.symm
        · exact z2 z3
    · rw [List.any_eq_true]
      exact ⟨_, hm, decide_eq_true (List.mem_cons_of_mem _ z2)⟩
theorem m_isWaiting (s : sM h) (i : IMs A) (bx : BX (aL A)) (r : rm (mI h 607) A) {a b : Nat} {t u : TG} (ht : (aT A)[a]? = some t) (hu : (aT A)[b]? = some u) (hne : tb t ≠ td t) (kk : ∀ g, mf [614, 615, 616] [20] h g → K (if a ≠ b ∧ wts A t u = true then nI 1 else nI 0) g) : wX10_isWaiting 606 (nI a) (nI b) h K := by
  obtain ⟨a8, tm⟩ := i.j8 ht
  obtain ⟨b8, um⟩ := i.j8 hu
  obtain ⟨⟨k1, k2, -⟩, -⟩ := i.2.2.2.1 t tm
  have h12 := i.1.1
  have e := r.t a8 ht
  have x := bx.b k2
  have htn := i.tn um
  unfold wX10_isWaiting
  rw [nI_eq (by omega) (by omega)]
  refine ⟨fun z => ?_, fun z => ⟨s.o, ?_⟩⟩
  · have := kk h (mf.rf _ _ _)
    rw [if_neg (fun y => y.1 z)] at this; exact this
  rw [m_train s a8 (show 3 < 19 by decide), e.2.2.2.1]
  by_cases hr : tr t = []
  · rw [if_pos hr]
    refine ⟨fun y => absurd y (by decide), fun _ => ⟨s.o, ?_⟩⟩
    rw [m_train s a8 (show 1 < 19 by decide), e.2.1]
    refine ⟨s.o, ?_⟩
    rw [m_train s a8 (show 2 < 19 by decide), e.2.2.1]
    refine ⟨s.o, m_leads s i.1 x k2 r k1 (fun hd g c w => ?_) (fun d hd g c w => ?_)⟩
    · refine ⟨fun y => absurd rfl y, fun _ => ?_⟩
      have he : rtT A t = [] := (rt_ne x k1 hne).mpr ((nx_none x k1 hne).mpr hd)
      have := kk g c
      rw [if_neg (fun y => by
        have y := y.2
        unfold wts at y
        rw [he] at y
        simp at y)] at this
      exact this
    · have h99 := rt_sl i.1 x k1 hd
      obtain ⟨-, -, a1, -, a2⟩ := rt_all i.1 x k1 hd
      have s' := c.s s
      have r' := r.fr c (by decide)
      refine ⟨fun _ => ⟨s'.o, ?_⟩, fun z => absurd z (by rw [nI_nem (by omega)]; exact id)⟩
      rw [m_train s' b8 (show 0 < 19 by decide), (r'.t b8 hu).1, nI_add]
      have := kk g c
      refine ⟨_, m_L49 s' i r' a1 a2 w um (fun hf => ?_) (fun hf => ?_) (rt (aL A) (tb t) (td t)).length 0 (by omega) (fun y hy => by simp at hy)⟩
      · rw [if_neg (fun y => by
          have y := y.2
          unfold wts rtT at y
          rw [hf] at y
          simp at y)] at this
        exact this
      · rw [if_pos ⟨z, by
          unfold wts rtT
          rw [hf, hr]
          rfl⟩] at this
        exact this
  · rw [if_neg hr]
    refine ⟨fun _ => ?_, fun y => absurd rfl y⟩
    have := kk h (mf.rf _ _ _)
    rw [if_neg (fun y => by
      have y := y.2
      unfold wts at y
      rw [decide_eq_false hr] at y
      cases y)] at this
    exact this
theorem m9_waitsFor (q : RMb h X) (k : GK (bA X)) (hC : aC (bA X) ≤ 9000) {x y : Int32} (kk : mqK h X (qW (bA X) x y) K) : wX10_waitsFor 606 x y h K := by
  have i := k.ims hC
  have bad : ∀ v w, mqK h X (1, nI 0) K → wX10_waitsFor_J25 K 606 v w 606 h := fun v w kk => by
    unfold wX10_waitsFor_J25 wX10_waitsFor_J30
    refine ⟨q.1.o, fun g1 hg1 => ⟨q.1.o, ?_⟩⟩
    have c : mf [614, 615, 616, 617, 618] [0, 20] h g1 := by rw [hg1]; exact mf.uf (by decide)
    have e0 : mI g1 606 0 = nI 1 := by rw [hg1, mI_uI, if_pos ⟨rfl, rfl⟩]
    rw [e0]
    exact ⟨fun _ => kk.to q c e0, fun z => absurd z (by decide)⟩
  unfold wX10_waitsFor
  unfold qW at kk
  refine ⟨q.1.o, m_placeOf q.1 i q.2.1 (fun hf => ⟨q.1.o, ?_⟩) (fun j t ht hf hx => ⟨q.1.o, ?_⟩)⟩
  · rw [hf] at kk
    refine m_placeOf q.1 i q.2.1 (fun hf2 => ⟨fun _ => bad _ _ kk, fun z => absurd rfl z⟩) (fun j2 u hu hf2 hx2 => ⟨fun _ => bad _ _ kk, fun z => absurd rfl z⟩)
  · obtain ⟨j8, tm_⟩ := i.j8 ht
    refine m_placeOf q.1 i q.2.1 (fun hf2 => ?_) (fun j2 u hu hf2 hx2 => ?_)
    · rw [hf, hf2] at kk
      exact ⟨fun z => absurd z (by rw [nI_nem (by omega)]; exact id), fun _ => ⟨fun z => absurd rfl z, fun _ => bad _ _ kk⟩⟩
    · rw [hf, hf2] at kk
      simp only at kk
      obtain ⟨j28, um_⟩ := i.j8 hu
      refine ⟨fun z => absurd z (by rw [nI_nem (by omega)]; exact id), fun _ => ⟨fun _ => ?_, fun z => absurd z (by rw [nI_nem (by omega)]; exact id)⟩⟩
      unfold wX10_waitsFor_J30
      refine ⟨q.1.o, fun g1 hg1 => ⟨q.1.o, ?_⟩⟩
      have c : mf [614, 615, 616, 617, 618] [0, 20] h g1 := by rw [hg1]; exact mf.uf (by decide)
      have e0 : mI g1 606 0 = nI 0 := by rw [hg1, mI_uI, if_pos ⟨rfl, rfl⟩]
      rw [e0]
      refine ⟨fun z => absurd rfl z, fun _ => m_isWaiting (c.s q.1) i k.2.1 (q.2.1.fr c (by decide)) ht hu (k.2.2.2.1 t tm_).2.2.1 (fun g2 c2 => ?_)⟩
      have := kk.to q (c.tr (c2.mo (by decide) (by decide))) (by rw [c2.f (by decide)]; exact e0)
      have hxy : j ≠ j2 ↔ x ≠ y := by
        rw [← hx, ← hx2]
        have b1 := i.tn tm_
        have b2 := i.tn um_
        refine not_congr ⟨fun z => ?_, fun z => ?_⟩
        · subst z
          rw [ht] at hu
          cases hu
          rfl
        · rw [nI_eq (by omega) (by omega)] at z
          exact ix_inj i.2.2.2.2 ht hu z
      by_cases z : j ≠ j2 ∧ wts (bA X) t u = true
      · rw [if_pos z]
        rw [if_pos ⟨hxy.mp z.1, z.2⟩] at this
        exact ⟨fun z => absurd z (by decide), fun _ => this⟩
      · rw [if_neg z]
        rw [if_neg (fun y => z ⟨hxy.mpr y.1, y.2⟩)] at this
        exact ⟨fun _ => this, fun z => absurd rfl z⟩
end MW
