/-! THE MODEL'S TRAINS: places, ways that are free -/
section HI
variable {h g : AH} {A : AG} {G : LG} {to : Nat}
theorem rm.t (r : rm (mI h 607) A) {j : Nat} (hj : j < 8) {t : TG} (ht : (aT A)[j]? = some t) : eTr (mI h 607) j t := (r.2.2.2.1 j hj).1 t ht
theorem IMs.j8 (i : IMs A) {j : Nat} {t : TG} (ht : (aT A)[j]? = some t) : j < 8 ∧ t ∈ aT A := ⟨Nat.lt_of_lt_of_le (List.getElem?_eq_some_iff.mp ht).1 i.2.1, List.mem_of_getElem? ht⟩
theorem m_in {x : Int32} {a b : Nat} {K : Int32 → AH → Prop} : wX10_in x (nI a) (nI b) h K ↔ K (if x < nI a ∨ nI b < x then nI 0 else nI 1) h := by
  unfold wX10_in
  by_cases h1 : x < nI a <;> by_cases h2 : nI b < x <;> simp [h1, h2]
theorem m_inS {x : Int32} {n : Nat} (hn : n < 2 ^ 30) {K : Int32 → AH → Prop} : wX10_in x (nI 0) (nI n - nI 1) h K ↔ K (if (iv n x).isSome then nI 1 else nI 0) h := by
  unfold wX10_in
  rcases iv_cases n (by omega) x with ⟨e, h1⟩ | ⟨j, hj, rfl, e⟩
  · rw [e]
    by_cases z : x < nI 0
    · simp [z]
    · have z2 : nI n ≤ x := h1.resolve_left z
      have z3 : nI n - nI 1 < x := by
        rw [Int32.lt_iff_toInt_lt]
        rw [Int32.le_iff_toInt_le, nI_toInt (by omega)] at z2
        by_cases h0 : n = 0
        · subst h0
          have e2 : (nI 0 - nI 1).toInt = -1 := by decide
          rw [e2]
          omega
        · rw [nI_sub (by omega), nI_toInt (by omega)]
          omega
      simp [z, z3]
  · rw [e, nI_sub (by omega)]
    have z : ¬ nI j < nI 0 := by rw [lt0_f (by omega)]; simp
    have z2 : ¬ nI (n - 1) < nI j := by rw [nI_ltI (by omega) (by omega)]; omega
    simp [z, z2]
theorem nar_b {x : Int32} (hx : x = nI 0 ∨ x = nI 1) : narrow .boolean (.int x) = .int x := by
  rcases hx with rfl | rfl <;> rfl
theorem m_isBlock (s : sM h) (i : IL (aL A)) (r : rm (mI h 607) A) {x : Int32} {K : Int32 → AH → Prop} : wX10_isBlock 606 x h K ↔ K (if (iv (gn (aL A)) x).isSome then nI 1 else nI 0) h := by
  have h12 := i.1
  unfold wX10_isBlock
  simp (disch := omega) only [s.o, s.r1, s.a7, s.l7, nI_add, pk_mul, nI_clamp, nI_leI, nI_ltI, nI_eq, vp_in_nI, true_and, r.1.1]
  rw [m_inS (by omega)]
  constructor
  · exact fun z => z.2
  · refine fun z => ⟨nar_b ?_, z⟩
    by_cases e : (iv (gn (aL A)) x).isSome = true
    · rw [if_pos e]; exact Or.inr rfl
    · rw [if_neg e]; exact Or.inl rfl
theorem m_isPoint (s : sM h) (i : IL (aL A)) (r : rm (mI h 607) A) {x : Int32} {K : Int32 → AH → Prop} : wX10_isPoint 606 x h K ↔ K (if (iv (gp (aL A)).length x).isSome then nI 1 else nI 0) h := by
  have h8 := i.2.2.2.2.1
  unfold wX10_isPoint
  simp (disch := omega) only [s.o, s.r1, s.a7, s.l7, nI_add, pk_mul, nI_clamp, nI_leI, nI_ltI, nI_eq, vp_in_nI, true_and, r.1.2.1]
  rw [m_inS (by omega)]
  constructor
  · exact fun z => z.2
  · refine fun z => ⟨nar_b ?_, z⟩
    by_cases e : (iv (gp (aL A)).length x).isSome = true
    · rw [if_pos e]; exact Or.inr rfl
    · rw [if_neg e]; exact Or.inl rfl
theorem m_placeOf_l (s : sM h) (i : IMs A) (r : rm (mI h 607) A) {x : Int32} {K : Int32 → AH → Prop} (kN : fnd A x = none → K (-1) h) (kS : ∀ j t, (aT A)[j]? = some t → fnd A x = some t → nI (tn t) = x → K (nI j) h) : ∀ n j, j + n = (aT A).length → (∀ u ∈ (aT A).take j, nI (tn u) ≠ x) → wX10_placeOf_L2 K (n + 1) 606 x (nI j) h := by
  have h8 := i.2.1
  intro n
  induction n with
  | zero =>
    intro j hj hno
    have hj' : j = (aT A).length := hj
    rw [wX10_placeOf_L2]; dsimp only
    simp (disch := omega) only [s.o, s.r1, s.a7, s.l7, nI_add, pk_mul, nI_clamp, nI_leI, nI_ltI, nI_eq, vp_in_nI, true_and, r.1.2.2.2.2.1]
    refine ⟨fun _ => kN ?_, fun z => absurd (Nat.le_of_eq hj'.symm) z⟩
    rw [hj', List.take_length] at hno
    unfold fnd
    rw [List.find?_eq_none]
    intro u hu
    simpa using hno u hu
  | succ n ih =>
    intro j hj hno
    have hjl : j < (aT A).length := by omega
    have ht : (aT A)[j]? = some (aT A)[j] := List.getElem?_eq_getElem hjl
    have e := (r.t (by omega) ht).1
    rw [wX10_placeOf_L2]; dsimp only
    simp (disch := omega) only [s.o, s.r1, s.a7, s.l7, nI_add, pk_mul, nI_clamp, nI_leI, nI_ltI, nI_eq, vp_in_nI, true_and, r.1.2.2.2.2.1, m_train s (show j < 8 by omega), e]
    refine ⟨fun z => absurd z (by omega), fun _ => ⟨fun z => ?_, fun z => kS j _ ht ?_ z⟩⟩
    · refine ih (j + 1) (by omega) (fun u hu => ?_)
      rw [List.take_add_one, ht] at hu
      rcases List.mem_append.mp hu with hu | hu
      · exact hno u hu
      · have : u = (aT A)[j] := by simpa using hu
        rw [this]; exact z
    · unfold fnd
      rw [List.find?_eq_some_iff_getElem]
      refine ⟨decide_eq_true z, j, hjl, rfl, fun k hk => ?_⟩
      have := hno (aT A)[k] (List.mem_take_iff_getElem.mpr ⟨k, by omega, rfl⟩)
      simpa using this
theorem m_placeOf (s : sM h) (i : IMs A) (r : rm (mI h 607) A) {x : Int32} {K : Int32 → AH → Prop} (kN : fnd A x = none → K (-1) h) (kS : ∀ j t, (aT A)[j]? = some t → fnd A x = some t → nI (tn t) = x → K (nI j) h) : wX10_placeOf 606 x h K := by
  unfold wX10_placeOf
  exact ⟨(aT A).length + 1, m_placeOf_l s i r kN kS (aT A).length 0 (by omega) (fun u hu => by simp at hu)⟩
theorem fre_102 {b : Nat} : (nI (stc A b) = nI 102) = (fre A b = true) := by
  have hl := stc_le A b
  rw [nI_eq (by omega) (by decide)]
  unfold stc fre
  cases (gh (aL A)).testBit b <;> cases resv A b <;> cases occ A b <;> simp
theorem m_L24 (s : sM h) (i : IMs A) (r : rm (mI h 607) A) {b : Nat} {l : List Nat} (hl : ∀ y ∈ l, y < gn (aL A)) (hl2 : l.length ≤ 11) (w : wyM h (b :: l)) {K : Int32 → AH → Prop} (kF : (∀ y ∈ l, fre A y = true) → K (-1) h) (kB : ∀ k c, l[k]? = some c → fre A c = false → (∀ y ∈ l.take k, fre A y = true) → K (nI (k + 1)) h) : ∀ n k, k + n = l.length → (∀ y ∈ l.take k, fre A y = true) → wX10_hindered_L24 K (n + 1) 606 (nI (k + 1)) h := by
  have h12 := i.1.1
  have w1 := w.1
  rw [List.length_cons] at w1
  intro n
  induction n with
  | zero =>
    intro k hk hf
    have hk' : k = l.length := hk
    rw [wX10_hindered_L24]; dsimp only
    simp (disch := omega) only [s.o, w1, nI_add, pk_mul, nI_clamp, nI_leI, nI_ltI, nI_eq, vp_in_nI, true_and]
    exact ⟨fun _ => kF (by rw [hk', List.take_length] at hf; exact hf), fun z => absurd (by omega) z⟩
  | succ n ih =>
    intro k hk hf
    have hkl : k < l.length := by omega
    have hc : l[k]? = some l[k] := List.getElem?_eq_getElem hkl
    have hm : l[k] ∈ l := List.getElem_mem hkl
    have hcl := hl _ hm
    have w2 := w.2 (k + 1) l[k] (by rw [List.getElem?_cons_succ]; exact hc)
    rw [wX10_hindered_L24]; dsimp only
    simp (disch := omega) only [s.o, s.r12, s.a16, s.l16, w1, w2, nI_add, pk_mul, nI_clamp, nI_leI, nI_ltI, nI_eq, vp_in_nI, true_and, m_look s i r (show l[k] < 12 by omega), fre_102]
    refine ⟨fun z => absurd z (by omega), fun _ => ⟨fun z => ?_, fun z => kB k _ hc (by simpa using z) hf⟩⟩
    refine ih (k + 1) (by omega) (fun y hy => ?_)
    rw [List.take_add_one, hc] at hy
    rcases List.mem_append.mp hy with hy | hy
    · exact hf y hy
    · have : y = l[k] := by simpa using hy
      rw [this]; exact z
theorem m_hindered (s : sM h) (i : IMs A) (bx : BX (aL A)) (r : rm (mI h 607) A) {j : Nat} {t : TG} (ht : (aT A)[j]? = some t) (hne : tb t ≠ td t) {K : Int32 → AH → Prop} (kN : rtT A t = [] → ∀ g, mf [614, 615, 616] [20] h g → K (nI 0) g) (kF : rtT A t ≠ [] → (∀ y ∈ rtT A t, fre A y = true) → ∀ g, mf [614, 615, 616] [20] h g → wyM g (tb t :: rtT A t) → K (-1) g) (kB : ∀ k c, (rtT A t)[k]? = some c → fre A c = false → (∀ y ∈ (rtT A t).take k, fre A y = true) → ∀ g, mf [614, 615, 616] [20] h g → wyM g (tb t :: rtT A t) → K (nI (k + 1)) g) : wX10_hindered 606 (nI j) h K := by
  obtain ⟨j8, tm⟩ := i.j8 ht
  obtain ⟨⟨k1, k2, -⟩, -⟩ := i.2.2.2.1 t tm
  have h12 := i.1.1
  have e := r.t j8 ht
  have x := bx.b k2
  unfold wX10_hindered
  simp (disch := omega) only [s.o, m_train s j8, e.2.1, e.2.2.1, true_and]
  refine m_leads s i.1 x k2 r k1 (fun hd g c w => ?_) (fun d hd g c w => ?_)
  · refine ⟨fun z => absurd rfl z, fun _ => kN ?_ g c⟩
    exact (rt_ne x k1 hne).mpr ((nx_none x k1 hne).mpr hd)
  · have h99 := rt_sl i.1 x k1 hd
    obtain ⟨-, -, a1, -, a2⟩ := rt_all i.1 x k1 hd
    refine ⟨fun _ => ⟨(rt (aL A) (tb t) (td t)).length + 1, ?_⟩, fun z => absurd z (by rw [nI_nem (by omega)]; simp)⟩
    refine m_L24 (c.s s) i (r.fr c (by decide)) a1 a2 w (fun hf => kF (fun z => ?_) hf g c w) (fun k c' h1 h2 h3 => kB k c' h1 h2 h3 g c w) _ 0 (by omega) (fun y hy => by simp at hy)
    have := (nx_none x k1 hne).mp ((rt_ne x k1 hne).mp z)
    rw [hd] at this
    cases this
theorem can_def {t : TG} : can A t = (decide (tr t = []) && (!decide (rtT A t = []) && (rtT A t).all (fun b => fre A b))) := by
  unfold can
  rw [Bool.and_assoc]
theorem m_isFree (s : sM h) (i : IMs A) (bx : BX (aL A)) (r : rm (mI h 607) A) {j : Nat} {t : TG} (ht : (aT A)[j]? = some t) (hne : tb t ≠ td t) {K : Int32 → AH → Prop} (k : ∀ g, mf [614, 615, 616] [20] h g → K (if can A t = true then nI 1 else nI 0) g) : wX10_isFree 606 (nI j) h K := by
  obtain ⟨j8, tm⟩ := i.j8 ht
  have e := r.t j8 ht
  have n1 : ¬ nI 1 = nI 0 := by decide
  have n0 : nI 0 = nI 0 := rfl
  unfold wX10_isFree
  simp (disch := omega) only [s.o, m_train s j8, e.2.2.2.1, true_and]
  rw [can_def] at k
  by_cases hr : tr t = []
  · rw [if_pos hr]
    refine ⟨fun z => absurd rfl z, fun _ => m_hindered s i bx r ht hne (fun h1 g c => ?_) (fun h1 h2 g c w => ?_) (fun kk c' h1 h2 h3 g c w => ?_)⟩
    · have := k g c
      rw [h1] at this
      simp only [decide_true, Bool.not_true, Bool.false_and, Bool.and_false] at this
      exact ⟨fun _ => by simpa using this, fun z => absurd z (by decide)⟩
    · have := k g c
      have e3 : (rtT A t).all (fun b => fre A b) = true := List.all_eq_true.mpr h2
      rw [e3] at this
      simp only [hr, decide_true, h1, decide_false, Bool.not_false, Bool.and_true, if_true] at this
      exact ⟨fun z => absurd rfl z, fun _ => this⟩
    · have := k g c
      have e3 : (rtT A t).all (fun b => fre A b) = false := by
        rw [List.all_eq_false]
        exact ⟨c', List.mem_of_getElem? h1, by rw [h2]; decide⟩
      rw [e3] at this
      simp only [Bool.and_false] at this
      have hk := (List.getElem?_eq_some_iff.mp h1).1
      refine ⟨fun _ => by simpa using this, fun z => absurd z ?_⟩
      obtain ⟨⟨k1, k2, -⟩, -⟩ := i.2.2.2.1 t tm
      have x := bx.b k2
      rw [nI_nem ?_]; exact id
      cases hd : ds (aL A) (td t) (tb t) with
      | none =>
        have : rtT A t = [] := (rt_ne x k1 hne).mpr ((nx_none x k1 hne).mpr hd)
        rw [this] at hk
        simp at hk
      | some d =>
        have := (rt_all i.1 x k1 hd).2.2.2.2
        have e4 : rtT A t = rt (aL A) (tb t) (td t) := rfl
        rw [e4] at hk
        omega
  · rw [if_neg hr]
    have := k h (mf.rf _ _ _)
    simp only [hr, decide_false, Bool.false_and] at this
    exact ⟨fun _ => by simpa using this, fun z => absurd z n1⟩
end HI
