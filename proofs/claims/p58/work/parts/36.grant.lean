/-! THE CLASS'S ROUTES: granted, refused, withdrawn -/
section GR
variable {h : AH} {S a : Nat} {A : AG} {G : LG}
theorem nd_sub : ∀ (l m : List Nat), l.Nodup → (∀ q ∈ l, q ∈ m) → l.length ≤ m.length := by
  intro l
  induction l with
  | nil => intro m _ _; exact Nat.zero_le _
  | cons x l ih =>
    intro m hn hm
    have hx := hm x List.mem_cons_self
    have := ih (m.erase x) (List.nodup_cons.mp hn).2 (fun q hq => by
      have hne : q ≠ x := fun z => (List.nodup_cons.mp hn).1 (z ▸ hq)
      exact (List.mem_erase_of_ne hne).mpr (hm q (List.mem_cons_of_mem _ hq)))
    rw [List.length_erase_of_mem hx] at this
    have h2 : 0 < m.length := List.length_pos_of_mem hx
    simp only [List.length_cons]
    omega
theorem IP.ix (i : IP A) {j k : Nat} {t u : TG} (hj : (aT A)[j]? = some t) (hk : (aT A)[k]? = some u) (e : tn u = tn t) : k = j := by
  have hp := List.pairwise_iff_getElem.mp i.2.2.1
  obtain ⟨h1, e1⟩ := List.getElem?_eq_some_iff.mp hj
  obtain ⟨h2, e2⟩ := List.getElem?_eq_some_iff.mp hk
  rcases Nat.lt_trichotomy j k with z | z | z
  · have := (hp j k h1 h2 z).1
    rw [e1, e2] at this
    omega
  · exact z.symm
  · have := (hp k j h2 h1 z).1
    rw [e1, e2] at this
    omega
theorem IP.tu (i : IP A) {t u : TG} (ht : t ∈ aT A) (hu : u ∈ aT A) (e : tn u = tn t) : u = t := by
  obtain ⟨j, hj⟩ := List.getElem?_of_mem ht
  obtain ⟨k, hk⟩ := List.getElem?_of_mem hu
  have := i.ix hj hk e
  subst this
  rw [hj] at hk
  cases hk
  rfl
theorem IP.qlt (i : IP A) {t : TG} (ht : t ∈ aT A) (hr : tr t ≠ []) : (aQ A).length < (aT A).length := by
  have i5 := i.2.2.2.2.1
  have hn : tn t ∉ aQ A := fun z => by
    obtain ⟨u, hu, e, e2⟩ := (i5 _).mp z
    have := i.tu ht hu e
    subst this
    exact hr e2
  have := nd_sub (tn t :: aQ A) ((aT A).map tn) (List.nodup_cons.mpr ⟨hn, i.2.2.2.1⟩) (fun q hq => by
    rcases List.mem_cons.mp hq with rfl | hq
    · exact List.mem_map.mpr ⟨t, ht, rfl⟩
    · obtain ⟨u, hu, e, -⟩ := (i5 q).mp hq
      exact List.mem_map.mpr ⟨u, hu, e⟩)
  rw [List.length_map, List.length_cons] at this
  omega
theorem fnd_mem {x : Int32} {t : TG} (hf : fnd A x = some t) : t ∈ aT A ∧ nI (tn t) = x := ⟨List.mem_of_find?_eq_some hf, by
  have := List.find?_some (p := fun t => decide (nI (tn t) = x)) hf
  exact of_decide_eq_true this⟩
/-- the lengths of the blocks of a set -/
def bs (G : LG) (m : Nat) : Nat → Nat
  | 0 => 0
  | k + 1 => bs G m k + if m.testBit k = true then gl G k else 0
theorem bs_hi {b m : Nat} : ∀ n, n ≤ b → bs G (2 ^ b ||| m) n = bs G m n := by
  intro n
  induction n with
  | zero => intro _; rfl
  | succ n ih =>
    intro hn
    simp only [bs, ih (by omega), Nat.testBit_or, Nat.testBit_two_pow, show ¬ b = n by omega, decide_false, Bool.false_or]
theorem bs_in {b m : Nat} (hm : m.testBit b = false) : ∀ n, b < n → bs G (2 ^ b ||| m) n = gl G b + bs G m n := by
  intro n
  induction n with
  | zero => intro z; omega
  | succ n ih =>
    intro hn
    by_cases e : b = n
    · subst e
      simp only [bs, bs_hi b (Nat.le_refl _), Nat.testBit_or, Nat.testBit_two_pow, hm]
      simp
      omega
    · simp only [bs, ih (by omega), Nat.testBit_or, Nat.testBit_two_pow, e, decide_false, Bool.false_or]
      omega
theorem bs_bts {n : Nat} : ∀ l : List Nat, l.Nodup → (∀ y ∈ l, y < n) → bs G (bts l) n = sl G l := by
  intro l
  induction l with
  | nil =>
    intro _ _
    have : ∀ k, bs G 0 k = 0 := fun k => by
      induction k with
      | zero => rfl
      | succ k ih => simp [bs, ih]
    exact this n
  | cons b l ih =>
    intro hn hl
    have hn' := List.nodup_cons.mp hn
    show bs G (bts l ||| 2 ^ b) n = gl G b + sl G l
    rw [Nat.or_comm, bs_in (by rw [bts_tb]; exact decide_eq_false hn'.1) n (hl b List.mem_cons_self), ih hn'.2 (fun y hy => hl y (List.mem_cons_of_mem _ hy))]
theorem total_l (r : rpW h a G) {m : Nat} (hm : m < 2 ^ 31) {K : Int32 → AH → Prop} (k : K (nI (bs G m (gn G))) h) : ∀ j x, x + j = gn G → wX4_totalLength_L4 K (j + 1) a (nI m) (nI (bs G m x)) (nI x) h := by
  have h12 := r.n12
  intro j
  induction j with
  | zero =>
    intro x hx
    have hx' : x = gn G := by omega
    subst hx'
    rw [wX4_totalLength_L4]; dsimp only; rw [r.2.1.1]
    exact ⟨r.1.o, fun _ => k, fun z => absurd (nI_le (Nat.le_refl _) (by omega)) z⟩
  | succ j ih =>
    intro x hx
    have hxl : x < gn G := by omega
    rw [wX4_totalLength_L4]; dsimp only; rw [r.2.1.1]
    refine ⟨r.1.o, fun z => absurd z (nI_ge hxl (by omega)), fun _ => ?_⟩
    have := ih (x + 1) (by omega)
    simp only [bs] at this
    simp (disch := omega) only [c_con hm (show x < 31 by omega), r.1.o, r.1.m5, r.1.m6, r.1.m7, r.1.m8, r.1.m9, r.1.m10, r.1.m11, r.1.a1, r.1.a2, r.1.a3, r.1.a4, r.1.a5, r.1.a18, r.1.a31, r.1.l1, r.1.l2, r.1.l3, r.1.l4, r.1.l5, r.1.l18, r.1.l31, r.1.z, r.1.r5, r.1.r18, r.1.a6, r.1.l6, r.1.a19, r.1.l19, nI_add, pk_mul, nI_clamp, nI_leI, nI_ltI, nI_eq, vp_in_nI, r.le hxl, forall_eq, true_and]
    cases hc : m.testBit x with
    | true =>
      rw [hc] at this
      simp only [if_true] at this ⊢
      simp only [n0_eq, n1_ne, Nat.one_ne_zero, not_false_eq_true, false_implies, true_and, forall_const]
      exact this
    | false =>
      rw [hc] at this
      simp only [Bool.false_eq_true, if_false, Nat.add_zero] at this ⊢
      simp only [not_true_eq_false, false_implies, and_true, forall_const]
      exact this
theorem c_totalLength (r : rpW h a G) {l : List Nat} (hn : l.Nodup) (hl : ∀ y ∈ l, y < gn G) {K : Int32 → AH → Prop} (k : K (nI (sl G l)) h) : wX4_totalLength a (nI (bts l)) h K := by
  have h12 := r.n12
  have hb : bts l < 2 ^ 12 := bts_lt fun y hy => by have := hl y hy; omega
  refine ⟨gn G + 1, ?_⟩
  have := total_l r (show bts l < 2 ^ 31 by omega) (K := K) (by rw [bs_bts l hn hl]; exact k) (gn G) 0 (by omega)
  exact this
theorem leave_l (p : rpS h S A) {num : Nat} (hnum : num < 2 ^ 31) (hq : ∀ q ∈ aQ A, q < 2 ^ 31) {K : AH → Prop} (k : ∀ g, chi (S + 34) (S + 35) h g → (∀ i q, ((aQ A).filter (fun q => decide (q ≠ num)))[i]? = some q → mI g (S + 34) i = nI q) → K (uI g S 4 (nI ((aQ A).filter (fun q => decide (q ≠ num))).length))) : ∀ j x g, x + j = (aQ A).length → chi (S + 34) (S + 35) h g → (∀ i q, (((aQ A).take x).filter (fun q => decide (q ≠ num)))[i]? = some q → mI g (S + 34) i = nI q) → (∀ i q, x ≤ i → (aQ A)[i]? = some q → mI g (S + 34) i = nI q) → wX7_leaveQueue_L4 K (j + 1) S (nI num) (nI (((aQ A).take x).filter (fun q => decide (q ≠ num))).length) (nI x) g := by
  have h8 : (aQ A).length ≤ 8 := p.2.2.2.2.2.2.2.2.2.2.2
  intro j
  induction j with
  | zero =>
    intro x g hx c h1 h2
    have hx' : x = (aQ A).length := by omega
    subst hx'
    have e0 : mI g S = mI h S := c.2.2.2.2 S (by omega)
    rw [wX7_leaveQueue_L4]; dsimp only; rw [e0, p.2.2.2.1]
    rw [List.take_length] at h1 ⊢
    have hO : isO g S 5 := (p.1.ch c).o
    refine ⟨hO, fun _ h3 e => ?_, fun z => absurd (nI_le (Nat.le_refl _) (by omega)) z⟩
    rw [e]
    exact k g c h1
  | succ j ih =>
    intro x g hx c h1 h2
    have hxl : x < (aQ A).length := by omega
    have e0 : mI g S = mI h S := c.2.2.2.2 S (by omega)
    have s := p.1.ch c
    obtain ⟨q, hxq⟩ : ∃ q, (aQ A)[x]? = some q := ⟨_, List.getElem?_eq_getElem hxl⟩
    have hqm := hq q (List.mem_of_getElem? hxq)
    have e1 := h2 x q (Nat.le_refl _) hxq
    have hy : (((aQ A).take x).filter (fun q => decide (q ≠ num))).length ≤ x := Nat.le_trans (List.length_filter_le _ _) (by rw [List.length_take]; omega)
    rw [wX7_leaveQueue_L4]; dsimp only; rw [e0, p.2.2.2.1]
    refine ⟨s.o, fun z => absurd z (nI_ge hxl (by omega)), fun _ => ?_⟩
    simp (disch := omega) only [s.o, s.m0, s.m1, s.m2, s.a33, s.l33, s.a34, s.l34, s.lg.o, nI_clamp, vp_in_nI, e1, nI_eq, nI_add, true_and, forall_eq]
    have hsn := take_s hxq
    by_cases e : q = num
    · have ef : ((aQ A).take (x + 1)).filter (fun q => decide (q ≠ num)) = ((aQ A).take x).filter (fun q => decide (q ≠ num)) := by
        rw [hsn, List.filter_append, List.filter_cons_of_neg (by simp [e]), List.filter_nil, List.append_nil]
      simp only [e, not_true_eq_false, false_implies, and_true, forall_const]
      have := ih (x + 1) g (by omega) c (by rw [ef]; exact h1) (fun i q hi => h2 i q (by omega))
      rw [ef] at this
      exact this
    · have ef : ((aQ A).take (x + 1)).filter (fun q => decide (q ≠ num)) = ((aQ A).take x).filter (fun q => decide (q ≠ num)) ++ [q] := by
        rw [hsn, List.filter_append, List.filter_cons_of_pos (by simp [e]), List.filter_nil]
      simp only [e, not_false_eq_true, false_implies, true_and, forall_const]
      refine ⟨s.z 34 (by decide), ?_⟩
      have := ih (x + 1) (uI g (S + 34) (((aQ A).take x).filter (fun q => decide (q ≠ num))).length (nI q)) (by omega) (c.tr (chi.uI (by omega) (by omega))) (fun i z hi => ?_) (fun i z hi hz => ?_)
      · rw [ef, List.length_append, List.length_singleton] at this
        exact this
      · rw [ef] at hi
        by_cases e9 : i = (((aQ A).take x).filter (fun q => decide (q ≠ num))).length
        · subst e9
          rw [List.getElem?_append_right (Nat.le_refl _), Nat.sub_self] at hi
          cases hi
          simp [mI_uI]
        · have hlt : i < (((aQ A).take x).filter (fun q => decide (q ≠ num))).length := by
            have := (List.getElem?_eq_some_iff.mp hi).1
            rw [List.length_append, List.length_singleton] at this
            omega
          rw [List.getElem?_append_left hlt] at hi
          simp only [mI_uI, e9, and_false, if_false]
          exact h1 i z hi
      · have : ¬ i = (((aQ A).take x).filter (fun q => decide (q ≠ num))).length := by omega
        simp only [mI_uI, this, and_false, if_false]
        exact h2 i z (by omega) hz
theorem c_leaveQueue (p : rpS h S A) {num : Nat} (hnum : num < 2 ^ 31) (hq : ∀ q ∈ aQ A, q < 2 ^ 31) {K : AH → Prop} (k : ∀ h', chi S (S + 43) h h' → (∀ i, S + 35 ≤ i → mI h' i = mI h i) → rpS h' S (wQ A ((aQ A).filter (fun q => decide (q ≠ num)))) → K h') : wX7_leaveQueue S (nI num) h K := by
  have h8 : (aQ A).length ≤ 8 := p.2.2.2.2.2.2.2.2.2.2.2
  refine ⟨(aQ A).length + 1, ?_⟩
  have := leave_l p hnum hq (K := K) (fun g c h1 => ?_) (aQ A).length 0 h (by omega) (chi.rf _ _ h) (fun i q hi => by simp at hi) (fun i q _ hi => p.q hi)
  · exact this
  · refine k _ ((c.mo (by omega) (by omega)).tr (chi.uI (by omega) (by omega))) (fun i hi => ?_) (p.que c (Nat.le_trans (List.length_filter_le _ _) h8) h1)
    rw [mI_o (by omega), c.2.2.2.2 i (by omega)]
end GR
