/-! THE MODEL'S QUESTIONS about places, points, routes, trains -/
section MQ2
variable {h g : AH} {A : AG} {X : BG} {w : Nat} {K : Int32 → AH → Prop}
theorem hold_E (i : IMs A) (b : Nat) : toE (hold A b) = if ocE A b = 0 then rsE A b else ocE A b := by
  cases hf : hold A b with
  | none =>
    unfold hold at hf
    have hn := List.find?_eq_none.mp hf
    have h1 : ocE A b = 0 := toE_no (fun u hu => decide_eq_false (fun z => hn u hu (decide_eq_true (by rw [← z]; exact List.mem_cons_self))))
    have h2 : rsE A b = 0 := toE_no (fun u hu => decide_eq_false (fun z => hn u hu (decide_eq_true (List.mem_cons_of_mem _ z))))
    rw [h1, h2]; rfl
  | some t =>
    unfold hold at hf
    have ht := List.mem_of_find?_eq_some hf
    have hb : b ∈ th_ t := by
      have := List.find?_some hf
      exact of_decide_eq_true this
    by_cases e : b = tb t
    · have h1 : ocE A b = tn t + 1 := toE_of ht (decide_eq_true e.symm) (fun u hu z => by
        have z := of_decide_eq_true z
        rw [pw_eq i.2.2.2.2 hu ht (show b ∈ th_ u by rw [← z]; exact List.mem_cons_self) hb])
      rw [h1, if_neg (by omega)]; rfl
    · have hbr : b ∈ tr t := (List.mem_cons.mp hb).resolve_left e
      have h1 : ocE A b = 0 := toE_no (fun u hu => decide_eq_false (fun z => by
        have : u = t := pw_eq i.2.2.2.2 hu ht (show b ∈ th_ u by rw [← z]; exact List.mem_cons_self) hb
        exact e (by rw [← z, this])))
      have h2 : rsE A b = tn t + 1 := toE_of ht (decide_eq_true hbr) (fun u hu z => by
        have z := of_decide_eq_true z
        rw [pw_eq i.2.2.2.2 hu ht (List.mem_cons_of_mem _ z) hb])
      rw [h1, if_pos rfl, h2]; rfl
theorem m9_trainAt (q : RMb h X) (k : GK (bA X)) (hC : aC (bA X) ≤ 9000) {x : Int32} (kk : mqK h X (qAt (bA X) x) K) : wX10_trainAt 606 x h K := by
  have h12 := k.1.1
  have i := k.ims hC
  unfold wX10_trainAt
  unfold qAt at kk
  refine ⟨q.1.o, m_isAsked q k (fun e g c e0 => ?_) (fun b hb eb e g c e0 => ?_)⟩
  · rw [e] at kk
    exact ⟨fun z => absurd rfl z, fun _ => kk.to q c e0⟩
  rw [e] at kk
  have s' := c.s q.1
  have r' := q.2.1.fr c (by decide)
  subst eb
  have e4 := (r'.2.2.2.2.1.1 b (by omega)).1
  have e5 := (r'.2.2.2.2.1.1 b (by omega)).2
  have l4 := i.oc b
  have l5 := i.rs b
  have hE := hold_E i b
  simp only at kk
  have key : ∀ y, y = toE (hold (bA X) b) → wX10_trainAt_J34 K 606 (nI y) g := by
    intro y hy
    unfold wX10_trainAt_J34
    cases hh : hold (bA X) b with
    | none =>
      rw [hh] at kk hy
      have : y = 0 := hy
      subst this
      refine ⟨fun z => absurd rfl z, fun _ => ⟨s'.o, ?_⟩⟩
      unfold wX10_fails
      refine ⟨s'.o, fun g2 hg2 => ?_⟩
      exact kk.to q (g := g2) (by rw [hg2]; exact c.tr (mf.uf (by decide))) (by rw [hg2, mI_uI, if_pos ⟨rfl, rfl⟩])
    | some t =>
      rw [hh] at kk hy
      have : y = tn t + 1 := hy
      subst this
      have hm := List.mem_of_find?_eq_some hh
      have := i.tn hm
      rw [nI_sub (by omega), Nat.add_sub_cancel]
      exact ⟨fun _ => kk.to q c e0, fun z => absurd z (by rw [nI_eq (by omega) (by decide)]; omega)⟩
  refine ⟨fun _ => ?_, fun z => absurd z (by decide)⟩
  simp (disch := omega) only [s'.o, true_and, m_block s' (show b < 12 by omega), e4, e5, nI_add, pk_mul, nI_clamp, nI_leI, nI_ltI, nI_eq, vp_in_nI]
  refine ⟨fun z => key _ ?_, fun z => key _ ?_⟩
  · rw [hE, if_pos (by omega)]
  · rw [hE, if_neg (by omega)]
theorem m9_liesLeft (q : RMb h X) (k : GK (bA X)) {x : Int32} (kk : mqK h X (qLies (bA X) x) K) : wX10_liesLeft 606 x h K := by
  have h8 := k.1.2.2.2.2.1
  unfold wX10_liesLeft wX10_liesLeft_J14
  simp only [m_isPoint q.1 k.1 q.2.1, q.1.o, true_and]
  unfold qLies at kk
  refine (iv_if (P := _) (Q := _) (fun e => ?_) (fun p hp ep e => ?_) (by omega)).symm
  · intro g1 hg1
    rw [e] at kk
    have c : mf [614, 615, 616, 617, 618] [0, 20] h g1 := by rw [hg1]; exact mf.uf (by decide)
    have e0 : mI g1 606 0 = nI 1 := by rw [hg1, mI_uI, if_pos ⟨rfl, rfl⟩]
    rw [e0]
    exact ⟨fun _ => kk.to q c e0, fun z => absurd z (by decide)⟩
  · intro g1 hg1
    rw [e] at kk
    have c : mf [614, 615, 616, 617, 618] [0, 20] h g1 := by rw [hg1]; exact mf.uf (by decide)
    have e0 : mI g1 606 0 = nI 0 := by rw [hg1, mI_uI, if_pos ⟨rfl, rfl⟩]
    rw [e0]
    have hy : (gp (aL (bA X)))[p]? = some (gp (aL (bA X)))[p] := List.getElem?_eq_getElem hp
    generalize (gp (aL (bA X)))[p] = y at hy
    simp only [hy] at kk
    have s' := c.s q.1
    have r' := q.2.1.fr c (by decide)
    subst ep
    refine ⟨fun z => absurd rfl z, fun _ => ?_⟩
    rw [m_point s' (show p < 8 by omega) (show 3 < 5 by decide), ((r'.2.2.1 p (by omega)).1 y hy).2.2.2]
    have := kk.to q c e0
    unfold bitE
    by_cases z : (gd (aL (bA X))).testBit y = true
    · rw [if_pos z]
      simp only [z, if_true] at this
      exact ⟨fun _ => this, fun z => absurd z (by decide)⟩
    · rw [if_neg z]
      rw [if_neg z] at this
      exact ⟨fun z => absurd rfl z, fun _ => this⟩
theorem m9_lockedBy (q : RMb h X) (k : GK (bA X)) (hC : aC (bA X) ≤ 9000) {x : Int32} (kk : mqK h X (qLock (bA X) x) K) : wX10_lockedBy 606 x h K := by
  have h8 := k.1.2.2.2.2.1
  have i := k.ims hC
  unfold wX10_lockedBy wX10_lockedBy_J27
  simp only [m_isPoint q.1 k.1 q.2.1, q.1.o, true_and]
  unfold qLock at kk
  refine iv_if (fun e => ?_) (fun p hp ep e => ?_) (by omega)
  · intro g1 hg1
    rw [e] at kk
    have c : mf [614, 615, 616, 617, 618] [0, 20] h g1 := by rw [hg1]; exact mf.uf (by decide)
    have e0 : mI g1 606 0 = nI 1 := by rw [hg1, mI_uI, if_pos ⟨rfl, rfl⟩]
    rw [e0]
    exact ⟨fun z => absurd z (by decide), fun _ => kk.to q c e0⟩
  rw [e] at kk
  have hy : (gp (aL (bA X)))[p]? = some (gp (aL (bA X)))[p] := List.getElem?_eq_getElem hp
  generalize (gp (aL (bA X)))[p] = y at hy
  simp only [hy] at kk
  subst ep
  have e4 := q.2.1.2.2.2.2.1.2 p (by omega)
  have hl : lcE (bA X) p = toE (lkr (bA X) y) := by unfold lcE; rw [hy]; rfl
  have l4 := i.lc p
  rw [m_point q.1 (show p < 8 by omega) (show 4 < 5 by decide), e4]
  cases hk : lkr (bA X) y with
  | none =>
    rw [hk] at kk hl
    rw [hl]
    refine ⟨fun z => absurd rfl z, fun _ => ⟨q.1.o, fun g1 hg1 => ⟨q.1.o, ?_⟩⟩⟩
    have c : mf [614, 615, 616, 617, 618] [0, 20] h g1 := by rw [hg1]; exact mf.uf (by decide)
    have e0 : mI g1 606 0 = nI 2 := by rw [hg1, mI_uI, if_pos ⟨rfl, rfl⟩]
    rw [e0]
    exact ⟨fun z => absurd z (by decide), fun _ => kk.to q c e0⟩
  | some t =>
    rw [hk] at kk hl
    have hm := List.mem_of_find?_eq_some hk
    have htn := i.tn hm
    rw [hl]
    refine ⟨fun _ => ⟨q.1.o, fun g1 hg1 => ⟨q.1.o, ?_⟩⟩, fun z => absurd z (by rw [show toE (some t) = tn t + 1 from rfl, nI_eq (by omega) (by decide)]; omega)⟩
    have c : mf [614, 615, 616, 617, 618] [0, 20] h g1 := by rw [hg1]; exact mf.uf (by decide)
    have e0 : mI g1 606 0 = nI 0 := by rw [hg1, mI_uI, if_pos ⟨rfl, rfl⟩]
    have r' := q.2.1.fr c (by decide)
    rw [e0]
    refine ⟨fun _ => ?_, fun z => absurd (by decide) z⟩
    rw [m_point (c.s q.1) (show p < 8 by omega) (show 4 < 5 by decide), r'.2.2.2.2.1.2 p (by omega), hl, show toE (some t) = tn t + 1 from rfl, nI_sub (by omega), Nat.add_sub_cancel]
    exact kk.to q c e0
theorem m_arePlaces (q : RMb h X) (k : GK (bA X)) {x y : Int32} (kN : (iv (gn (aL (bA X))) x = none ∨ iv (gn (aL (bA X))) y = none) → ∀ g, mf [614, 615, 616, 617, 618] [0, 20] h g → mI g 606 0 = nI 1 → K (nI 0) g) (kS : ∀ b t, b < gn (aL (bA X)) → t < gn (aL (bA X)) → x = nI b → y = nI t → iv (gn (aL (bA X))) x = some b → iv (gn (aL (bA X))) y = some t → ∀ g, mf [614, 615, 616, 617, 618] [0, 20] h g → mI g 606 0 = nI 0 → K (nI 1) g) : wX10_arePlaces 606 x y h K := by
  have h12 := k.1.1
  have bad : (iv (gn (aL (bA X))) x = none ∨ iv (gn (aL (bA X))) y = none) → wX10_arePlaces_J21 K 606 606 h := fun e => by
    unfold wX10_arePlaces_J21 wX10_arePlaces_J22
    refine ⟨q.1.o, fun g1 hg1 => ⟨q.1.o, ?_⟩⟩
    have c : mf [614, 615, 616, 617, 618] [0, 20] h g1 := by rw [hg1]; exact mf.uf (by decide)
    have e0 : mI g1 606 0 = nI 1 := by rw [hg1, mI_uI, if_pos ⟨rfl, rfl⟩]
    rw [e0]
    exact ⟨fun _ => kN e g1 c e0, fun z => absurd z (by decide)⟩
  unfold wX10_arePlaces
  simp only [m_isBlock q.1 k.1 q.2.1, q.1.o, true_and]
  refine (iv_if (P := _) (Q := _) (fun e => bad (Or.inl e)) (fun b hb eb e => ?_) (by omega)).symm
  refine (iv_if (P := _) (Q := _) (fun e2 => bad (Or.inr e2)) (fun t ht et e2 => ?_) (by omega)).symm
  unfold wX10_arePlaces_J22
  refine ⟨q.1.o, fun g1 hg1 => ⟨q.1.o, ?_⟩⟩
  have c : mf [614, 615, 616, 617, 618] [0, 20] h g1 := by rw [hg1]; exact mf.uf (by decide)
  have e0 : mI g1 606 0 = nI 0 := by rw [hg1, mI_uI, if_pos ⟨rfl, rfl⟩]
  rw [e0]
  exact ⟨fun z => absurd rfl z, fun _ => kS b t hb ht eb et e e2 g1 c e0⟩
end MQ2
