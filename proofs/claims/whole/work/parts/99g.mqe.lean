/-! THE MODEL'S QUESTIONS: arrival, sums -/
section MQ5
variable {h g : AH} {A : AG} {X : BG} {w : Nat} {K : Int32 → AH → Prop}
theorem GK.tr12 (k : GK A) {t : TG} (ht : t ∈ aT A) : (tr t).length ≤ 11 ∧ (∀ y ∈ tr t, y < gn (aL A)) := by
  obtain ⟨k1, k2, k3, k4, k5, k6, k7, k8, k9⟩ := k.2.2.2.1 t ht
  have h1 := nd12 k.1 k8 (fun y hy => by
    rcases List.mem_cons.mp hy with rfl | hy
    · exact k1
    · exact k5 y hy)
  unfold th_ at h1
  rw [List.length_cons] at h1
  exact ⟨by omega, k5⟩
theorem m_mua_l (s : sM h) (k : GK A) (r : rm (mI h 607) A) {j : Nat} {t : TG} (hj : (aT A)[j]? = some t) (j8 : j < 8) (hr : tr t ≠ []) : ∀ n x v, 2 ≤ x → x + n = (tr t).length + 1 → K (nI (v + sl (aL A) ((tr t).drop (x - 1)))) h → wX10_minutesUntilArrival_L34 K (n + 1) 606 (nI j) (nI v) (nI x) h := by
  have h12 := k.1.1
  have e := r.t j8 hj
  have e6 := e.2.2.2.2.2.2.1
  rw [if_neg hr] at e6
  obtain ⟨hl, hm⟩ := k.tr12 (List.mem_of_getElem? hj)
  intro n
  induction n with
  | zero =>
    intro x v h2 hx kk
    have hx' : x - 1 = (tr t).length := by omega
    rw [hx', List.drop_length] at kk
    rw [wX10_minutesUntilArrival_L34]; dsimp only
    simp (disch := omega) only [s.o, m_train s j8, e6, nI_add, pk_mul, nI_clamp, nI_leI, nI_ltI, nI_eq, vp_in_nI, true_and]
    exact ⟨fun _ => kk, fun z => absurd (by omega) z⟩
  | succ n ih =>
    intro x v h2 hx kk
    have hxl : x - 1 < (tr t).length := by omega
    have hc : (th_ t)[x]? = some (tr t)[x - 1] := by
      obtain ⟨y, rfl⟩ : ∃ y, x = y + 1 := ⟨x - 1, by omega⟩
      show (tb t :: tr t)[y + 1]? = _
      rw [List.getElem?_cons_succ]
      exact List.getElem?_eq_getElem hxl
    have e7 := e.2.2.2.2.2.2.2 hr x _ hc
    have hb := hm _ (List.getElem_mem hxl)
    rw [List.drop_eq_getElem_cons hxl, show x - 1 + 1 = x + 1 - 1 by omega] at kk
    have e0 := (r.2.1 (tr t)[x - 1] (by omega)).1 hb
    rw [wX10_minutesUntilArrival_L34]; dsimp only
    simp (disch := omega) only [s.o, m_train s j8, e6, nI_add, pk_mul, nI_clamp, nI_leI, nI_ltI, nI_eq, vp_in_nI, true_and, e7, m_block s (show (tr t)[x - 1] < 12 by omega), e0]
    refine ⟨fun z => absurd z (by omega), fun _ => ih (x + 1) (v + gl (aL A) (tr t)[x - 1]) (by omega) (by omega) ?_⟩
    rw [Nat.add_assoc]
    exact kk
theorem m9_minutesUntilArrival (q : RMb h X) (k : GK (bA X)) (hC : aC (bA X) ≤ 9000) {x : Int32} (kk : mqK h X (qR (fun t => nI (rem (bA X) t)) (bA X) x) K) : wX10_minutesUntilArrival 606 x h K := by
  have i := k.ims hC
  unfold wX10_minutesUntilArrival
  unfold qR at kk
  refine ⟨q.1.o, m_isRunning q i (fun e g c e0 => ⟨fun z => absurd rfl z, fun _ => ?_⟩) (fun j t ht hf hr g c e0 => ⟨fun _ => ?_, fun z => absurd z (by decide)⟩)⟩
  · rcases e with e | ⟨t, e, er⟩
    · rw [e] at kk; exact kk.to q c e0
    · rw [e] at kk
      simp only at kk
      rw [if_pos er] at kk; exact kk.to q c e0
  · have s' := c.s q.1
    have r' := q.2.1.fr c (by decide)
    rw [hf] at kk
    simp only at kk
    rw [if_neg hr] at kk
    refine ⟨s'.o, m_placeOf s' i r' (fun hn => by rw [hf] at hn; cases hn) (fun j2 t2 ht2 hf2 hx => ?_)⟩
    rw [hf] at hf2
    cases hf2
    obtain ⟨j8, tm_⟩ := i.j8 ht2
    have hdue := ((k.2.2.2.1 t tm_).2.2.2.2.2.2.1 hr).2.1
    have e6 := r'.1.2.2.2.2.2.2.1
    have et := (r'.t j8 ht2).2.2.2.2.1 hr
    have hl1 : 1 ≤ (tr t).length := by
      cases hz : tr t with
      | nil => exact absurd hz hr
      | cons _ _ => exact Nat.succ_le_succ (Nat.zero_le _)
    simp (disch := omega) only [s'.o, s'.r1, s'.a7, s'.l7, m_train s' j8, et, e6, nI_add, pk_mul, nI_clamp, nI_leI, nI_ltI, nI_eq, vp_in_nI, true_and, forall_eq]
    rw [nI_sub (by omega)]
    refine ⟨(tr t).length - 1 + 1, m_mua_l s' k r' ht2 j8 hr _ 2 _ (by decide) (by omega) ?_⟩
    rw [show 2 - 1 = 1 from rfl, List.drop_one]
    exact kk.to q c e0
theorem m9_minutesUntilArrivalByPassing (q : RMb h X) (k : GK (bA X)) (hC : aC (bA X) ≤ 9000) {x : Int32} (kk : mqK h X (qR (fun t => nI (rem (bA X) t)) (bA X) x) K) : wX10_minutesUntilArrivalByPassing 606 x h K := by
  unfold wX10_minutesUntilArrivalByPassing
  exact ⟨q.1.o, m9_minutesUntilArrival q k hC kk⟩
theorem m9_isConsistent (q : RMb h X) (kk : mqK h X (0, nI 1) K) : wX10_isConsistent 606 h K := ⟨q.1.o, fun g hg => kk.to q (g := g) (by rw [hg]; exact mf.uf (by decide)) (by rw [hg, mI_uI, if_pos ⟨rfl, rfl⟩])⟩
theorem m9_totalDelay (q : RMb h X) (hd : aD (bA X) < 2 ^ 31) {K : Int64 → AH → Prop} (kk : ∀ g, chi 606 619 h g → RMb g X → K (lN (aD (bA X))) g) : wX10_totalDelay 606 h K := by
  have s := q.1
  refine ⟨s.o, fun g hg => ?_⟩
  have c : mf [614, 615, 616, 617, 618] [0, 20] h g := by rw [hg]; exact mf.uf (by decide)
  have e8 : mI g 607 8 = nI (aD (bA X)) := by rw [c.c (by decide) (by decide)]; exact q.2.1.1.2.2.2.2.2.2.2.2
  simp (disch := omega) only [s.r1, s.a7, s.l7, nI_add, pk_mul, nI_clamp, nI_leI, nI_ltI, nI_eq, vp_in_nI, true_and, e8]
  rw [nI_l hd]
  exact kk g (mf_x c (by decide)) (q.ask c)
theorem m9_meanDelay (q : RMb h X) (bn : BN (bA X)) {K : UInt64 → AH → Prop} (kk : aC (bA X) ≠ 0 → ∀ g, chi 606 619 h g → RMb g X → mI g 606 0 = nI 0 → K (FP.ddiv (FP.i2d (nI (aD (bA X)))) (FP.i2d (nI (aC (bA X))))) g) (kT : aC (bA X) = 0 → ∀ g, chi 606 619 h g → RMb g X → mI g 606 0 = nI 1 → K FP.dconst0 g) : wX10_meanDelay 606 h K := by
  have s := q.1
  obtain ⟨b1, b2, b3⟩ := bn
  have e3 : mI h 607 3 = nI (aC (bA X)) := q.2.1.1.2.2.2.1
  have e8 : mI h 607 8 = nI (aD (bA X)) := q.2.1.1.2.2.2.2.2.2.2.2
  unfold wX10_meanDelay
  simp (disch := omega) only [s.o, s.r1, s.a7, s.l7, nI_add, pk_mul, nI_clamp, nI_leI, nI_ltI, nI_eq, vp_in_nI, true_and, e3]
  refine ⟨fun z => ?_, fun z => ?_⟩
  · unfold wX10_meanDelay_J15
    refine ⟨s.o, fun g hg => ⟨s.o, ?_⟩⟩
    have c : mf [614, 615, 616, 617, 618] [0, 20] h g := by rw [hg]; exact mf.uf (by decide)
    have e0 : mI g 606 0 = nI 0 := by rw [hg, mI_uI, if_pos ⟨rfl, rfl⟩]
    have e7 : mI g 607 = mI h 607 := c.c (by decide) (by decide)
    rw [e0]
    refine ⟨fun _ => ?_, fun z => absurd (by decide) z⟩
    simp (disch := omega) only [s.r1, s.a7, s.l7, nI_add, pk_mul, nI_clamp, nI_leI, nI_ltI, nI_eq, vp_in_nI, true_and, e7, e3, e8]
    exact ⟨n64_of (dd_nn (by omega) (by omega)), kk z g (mf_x c (by decide)) (q.ask c) e0⟩
  · unfold wX10_meanDelay_J15
    refine ⟨s.o, fun g hg => ⟨s.o, ?_⟩⟩
    have c : mf [614, 615, 616, 617, 618] [0, 20] h g := by rw [hg]; exact mf.uf (by decide)
    have e0 : mI g 606 0 = nI 1 := by rw [hg, mI_uI, if_pos ⟨rfl, rfl⟩]
    rw [e0]
    exact ⟨fun z => absurd z (by decide), fun _ => kT z g (mf_x c (by decide)) (q.ask c) e0⟩
/-- how many of the blocks below x are held -/
theorem hb_cnt (i : IMs A) (x : Nat) : (if 0 < ocE A x + rsE A x then 1 else 0) = if (hbt (aT A)).testBit x = true then 1 else 0 := by
  have h1 := oc_z (A := A) (b := x)
  have h2 := rs_z (A := A) (b := x)
  rw [hbt_occ]
  cases ho : occ A x <;> cases hr : resv A x
  · rw [ho] at h1; rw [hr] at h2
    rw [if_neg (by have := h1.mpr rfl; have := h2.mpr rfl; omega)]; rfl
  · rw [hr] at h2
    have h3 : rsE A x ≠ 0 := fun z => by have := h2.mp z; cases this
    rw [if_pos (by omega)]; rfl
  · rw [ho] at h1
    have h3 : ocE A x ≠ 0 := fun z => by have := h1.mp z; cases this
    rw [if_pos (by omega)]; rfl
  · rw [ho] at h1
    have h3 : ocE A x ≠ 0 := fun z => by have := h1.mp z; cases this
    rw [if_pos (by omega)]; rfl
theorem m_us_l (s : sM h) (i : IMs A) (r : rm (mI h 607) A) (h0 : gn (aL A) ≠ 0) {K : UInt32 → AH → Prop} (kk : K (FP.fdiv (FP.i2f (nI ((List.range (gn (aL A))).countP (fun b => (hbt (aT A)).testBit b)))) (FP.i2f (nI (gn (aL A))))) h) : ∀ n x, x + n = gn (aL A) → wX10_usedShare_L31 K (n + 1) 606 (nI ((List.range x).countP (fun b => (hbt (aT A)).testBit b))) (nI x) h := by
  have h12 := i.1.1
  intro n
  induction n with
  | zero =>
    intro x hx
    have hx' : x = gn (aL A) := hx
    rw [wX10_usedShare_L31]; dsimp only
    simp (disch := omega) only [s.o, s.r1, s.a7, s.l7, nI_add, pk_mul, nI_clamp, nI_leI, nI_ltI, nI_eq, vp_in_nI, true_and, r.1.1]
    refine ⟨fun _ => ?_, fun z => absurd (by omega) z⟩
    rw [hx']
    have hc := List.countP_le_length (p := fun b => (hbt (aT A)).testBit b) (l := List.range (gn (aL A)))
    rw [List.length_range] at hc
    obtain ⟨m, hm⟩ : ∃ m, gn (aL A) = m + 1 := ⟨gn (aL A) - 1, by omega⟩
    have := ff_ok ((List.range (gn (aL A))).countP (fun b => (hbt (aT A)).testBit b)) (by omega) m (by omega)
    rw [← hm] at this
    exact ⟨this.1, kk⟩
  | succ n ih =>
    intro x hx
    have hxl : x < gn (aL A) := by omega
    have e4 := (r.2.2.2.2.1.1 x (by omega)).1
    have e5 := (r.2.2.2.2.1.1 x (by omega)).2
    have l4 := i.oc x
    have l5 := i.rs x
    have hE := hb_cnt i x
    have hcs : (List.range (x + 1)).countP (fun b => (hbt (aT A)).testBit b) = (List.range x).countP (fun b => (hbt (aT A)).testBit b) + if (hbt (aT A)).testBit x = true then 1 else 0 := by
      rw [List.range_succ, List.countP_append]
      simp [List.countP_cons]
    have := ih (x + 1) (by omega)
    rw [hcs, ← hE] at this
    rw [wX10_usedShare_L31]; dsimp only
    simp (disch := omega) only [s.o, s.r1, s.a7, s.l7, nI_add, pk_mul, nI_clamp, nI_leI, nI_ltI, nI_eq, vp_in_nI, true_and, r.1.1, m_block s (show x < 12 by omega), e4, e5]
    refine ⟨fun z => absurd z (by omega), fun _ => ⟨fun z => ?_, fun z => ?_⟩⟩
    · rw [if_neg (by omega)] at this; exact this
    · rw [if_pos (by omega)] at this; exact this
theorem us_pc (i : IMs A) : (List.range (gn (aL A))).countP (fun b => (hbt (aT A)).testBit b) = pc (hbt (aT A)) := by
  have h12 := i.1.1
  unfold pc
  have key : ∀ d x, x + d = 12 → gn (aL A) ≤ x → (List.range x).countP (fun b => (hbt (aT A)).testBit b) = (List.range 12).countP (fun b => (hbt (aT A)).testBit b) := by
    intro d
    induction d with
    | zero => intro x hx _; rw [show x = 12 from hx]
    | succ d ih =>
      intro x hx hg
      rw [← ih (x + 1) (by omega) (by omega), List.range_succ, List.countP_append]
      have hz : (hbt (aT A)).testBit x = false := by
        rw [hbt_tb, List.any_eq_false]
        intro t ht z
        have z := of_decide_eq_true z
        obtain ⟨k1, k2, k3⟩ := (i.2.2.2.1 t ht).1
        rcases List.mem_cons.mp z with rfl | z
        · omega
        · have := k3 x z; omega
      simp [List.countP_cons, hz]
  exact key (12 - gn (aL A)) (gn (aL A)) (by omega) (Nat.le_refl _)
theorem m9_usedShare (q : RMb h X) (i : IMs (bA X)) {K : UInt32 → AH → Prop} (kk : gn (aL (bA X)) ≠ 0 → ∀ g, chi 606 619 h g → RMb g X → mI g 606 0 = nI 0 → K (FP.fdiv (FP.i2f (nI (pc (hbt (aT (bA X)))))) (FP.i2f (nI (gn (aL (bA X)))))) g) (kT : gn (aL (bA X)) = 0 → ∀ g, chi 606 619 h g → RMb g X → mI g 606 0 = nI 1 → K FP.fconst0 g) : wX10_usedShare 606 h K := by
  have s := q.1
  have h12 := i.1.1
  have e1 : mI h 607 0 = nI (gn (aL (bA X))) := q.2.1.1.1
  unfold wX10_usedShare
  simp (disch := omega) only [s.o, s.r1, s.a7, s.l7, nI_add, pk_mul, nI_clamp, nI_leI, nI_ltI, nI_eq, vp_in_nI, true_and, e1]
  refine ⟨fun z => ?_, fun z => ?_⟩
  · unfold wX10_usedShare_J15
    refine ⟨s.o, fun g hg => ⟨s.o, ?_⟩⟩
    have c : mf [614, 615, 616, 617, 618] [0, 20] h g := by rw [hg]; exact mf.uf (by decide)
    have e0 : mI g 606 0 = nI 0 := by rw [hg, mI_uI, if_pos ⟨rfl, rfl⟩]
    rw [e0]
    refine ⟨fun _ => ⟨gn (aL (bA X)) + 1, ?_⟩, fun z => absurd (by decide) z⟩
    have := kk z g (mf_x c (by decide)) (q.ask c) e0
    rw [← us_pc i] at this
    exact m_us_l (c.s s) i (q.2.1.fr c (by decide)) z this (gn (aL (bA X))) 0 (by omega)
  · unfold wX10_usedShare_J15
    refine ⟨s.o, fun g hg => ⟨s.o, ?_⟩⟩
    have c : mf [614, 615, 616, 617, 618] [0, 20] h g := by rw [hg]; exact mf.uf (by decide)
    have e0 : mI g 606 0 = nI 1 := by rw [hg, mI_uI, if_pos ⟨rfl, rfl⟩]
    rw [e0]
    exact ⟨fun z => absurd z (by decide), fun _ => kT z g (mf_x c (by decide)) (q.ask c) e0⟩
end MQ5
