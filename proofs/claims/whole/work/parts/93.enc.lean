/-! THE MODEL'S MINUTE: the run of entering and of leaving -/
section EC
variable {h g : AH} {A : AG} {G : LG} {j : Nat} {t : TG}
theorem m_unl (s : sM h) (r2 : ∀ b, b < 12 → mI h 607 (9 + 6 * b + 3) = nI (stE G b)) (i : IL G) {b : Nat} (hb : b < 12) {K : AH → Prop} (kk : ∀ g, mf [607] [] h g → (∀ q, (∀ p, (gp G)[p]? = some b → q ≠ 81 + 5 * p + 4) → mI g 607 q = mI h 607 q) → (∀ p, (gp G)[p]? = some b → mI g 607 (81 + 5 * p + 4) = nI 0) → K g) : wX10_unlocks 606 (nI b) h K := by
  refine m_unlocks s r2 i hb (fun hp => kk h (mf.rf _ _ _) (fun _ _ => rfl) (fun p hpp => absurd (List.mem_of_getElem? hpp) hp)) (fun p p1 p2 => kk _ (mf.ui (by decide) (by decide)) (fun q hq => ?_) (fun p' hp' => ?_))
  · rw [mI_up, ups_o (hq p p2)]
  · have : p' = p := (List.getElem?_inj (List.getElem?_eq_some_iff.mp hp').1 i.2.2.2.1).mp (hp'.trans p2.symm)
    rw [this, mI_up, ups_s]
theorem m_L70 (s : sM h) (j8 : j < 8) {W : List Nat} (hW : W.length ≤ 12) (h6 : mI h 607 (121 + 19 * j + 6) = nI W.length) (hw : ∀ k c, W[k]? = some c → mI h 607 (121 + 19 * j + (7 + k)) = nI c) {X : Int32 → AH → Prop} (kk : ∀ g, mf [607] [] h g → (∀ q, ¬ (128 + 19 * j ≤ q ∧ q < 140 + 19 * j) → mI g 607 q = mI h 607 q) → (∀ k c, W[k + 1]? = some c → mI g 607 (121 + 19 * j + (7 + k)) = nI c) → wX10_enters_L70 X 1 606 (nI j) (nI (W.length - 1)) g) : ∀ n x g, x + n + 1 = W.length → mf [607] [] h g → (∀ q, ¬ (128 + 19 * j ≤ q ∧ q < 128 + 19 * j + x) → mI g 607 q = mI h 607 q) → (∀ k c, k < x → W[k + 1]? = some c → mI g 607 (121 + 19 * j + (7 + k)) = nI c) → wX10_enters_L70 X (n + 1) 606 (nI j) (nI x) g := by
  intro n
  induction n with
  | zero =>
    intro x g hx cg o z
    have e : x = W.length - 1 := by omega
    rw [e]
    refine kk g cg (fun q hq => o q (by omega)) (fun k c hk => z k c ?_ hk)
    have := (List.getElem?_eq_some_iff.mp hk).1
    omega
  | succ n ih =>
    intro x g hx cg o z
    have s' := cg.s s
    have e6 : mI g 607 (121 + 19 * j + 6) = nI W.length := (o _ (by omega)).trans h6
    have hc : W[x + 1]? = some W[x + 1] := List.getElem?_eq_getElem (by omega)
    generalize W[x + 1] = c at hc
    have e7 : mI g 607 (121 + 19 * j + (7 + x + 1)) = nI c := by
      rw [o _ (by omega)]
      exact hw (x + 1) c hc
    rw [wX10_enters_L70]; dsimp only
    simp (disch := omega) only [s'.o, m_train s' j8, e6, nI_add, pk_mul, nI_clamp, nI_leI, nI_ltI, nI_eq, vp_in_nI, true_and, e7, m_tells s' j8 (show 7 + x < 19 by omega)]
    refine ⟨fun z => absurd z (by omega), fun _ => ?_⟩
    refine ih (x + 1) _ (by omega) (cg.tr (mf.ui (by decide) (by decide))) (fun q hq => ?_) (fun k c' hk hc' => ?_)
    · rw [mI_up, ups_o (by omega)]; exact o q (by omega)
    · rw [mI_up]
      by_cases e : k = x
      · subst e
        rw [ups_s]
        rw [hc] at hc'
        cases hc'
        rfl
      · rw [ups_o (by omega)]; exact z k c' (by omega) hc'
theorem m_enters (i : IMm A) (hM : aM A < 2 ^ 30) (s : sM h) (r : rm (mI h 607) A) (ht : (aT A)[j]? = some t) (hr : tr t ≠ []) {K : Int32 → AH → Prop} (k0 : ∀ c e l, tr t = c :: e :: l → ∀ g, mf [607] [] h g → enF (mI h 607) (mI g 607) A j (tb t) c e l (tn t) → K (nI 0) g) (k1 : tr t = [td t] → ∀ g, mf [607] [] h g → (∀ q, q ≠ 9 + 6 * tb t + 4 → q ≠ 9 + 6 * td t + 5 → (∀ p, (gp (aL A))[p]? = some (tb t) → q ≠ 81 + 5 * p + 4) → mI g 607 q = mI h 607 q) → mI g 607 (9 + 6 * tb t + 4) = nI 0 → mI g 607 (9 + 6 * td t + 5) = nI 0 → (∀ p, (gp (aL A))[p]? = some (tb t) → mI g 607 (81 + 5 * p + 4) = nI 0) → K (nI 1) g) : wX10_enters 606 (nI j) h K := by
  obtain ⟨i0, im⟩ := i
  obtain ⟨j8, tm_⟩ := i0.j8 ht
  obtain ⟨⟨t1, t2, t3⟩, nd, htn⟩ := i0.2.2.2.1 t tm_
  have hlast := (im t tm_).2 hr
  have h12 := i0.1.1
  have h8 := i0.1.2.2.2.2.1
  have et := r.t j8 ht
  have p8 : ∀ p y, (gp (aL A))[p]? = some y → p < 8 := fun p y hp => Nat.lt_of_lt_of_le (List.getElem?_eq_some_iff.mp hp).1 h8
  obtain ⟨c, l0, hcl⟩ : ∃ c l0, tr t = c :: l0 := by
    cases hz : tr t with
    | nil => exact absurd hz hr
    | cons c l => exact ⟨c, l, rfl⟩
  have hcn : c < gn (aL A) := t3 c (by rw [hcl]; exact List.mem_cons_self)
  have hth : th_ t = tb t :: c :: l0 := by unfold th_; rw [hcl]
  have hWl := i0.th tm_
  rw [hth] at hWl nd
  have hcb : c ≠ tb t := fun z => (List.nodup_cons.mp nd).1 (by rw [z]; exact List.mem_cons_self)
  have e8 : mI h 607 (121 + 19 * j + 8) = nI c := et.2.2.2.2.2.2.2 hr 1 c (by rw [hth]; rfl)
  unfold wX10_enters
  simp (disch := omega) only [s.o, m_train s j8, et.2.1, e8, true_and]
  rw [m_puts s (show tb t < 12 by omega) (show 4 < 6 by decide)]
  generalize hg1 : uI h 607 (9 + 6 * tb t + 4) (nI 0) = g1
  have c1 : mf [607] [] h g1 := by rw [← hg1]; exact mf.ui (by decide) (by decide)
  have s1 := c1.s s
  have f1 : mI g1 607 = ups (mI h 607) (9 + 6 * tb t + 4) (nI 0) := by rw [← hg1, mI_up]
  refine ⟨s1.o, m_unl s1 (fun b hb => by rw [f1, ups_o (by omega)]; exact (r.2.1 b hb).2.2.2) i0.1 (by omega) (fun g2 c2 o2 l2 => ?_)⟩
  have s2 := c2.s s1
  refine ⟨s2.o, ?_⟩
  rw [m_puts s2 (show c < 12 by omega) (show 5 < 6 by decide)]
  generalize hg3 : uI g2 607 (9 + 6 * c + 5) (nI 0) = g3
  have c3 : mf [607] [] g2 g3 := by rw [← hg3]; exact mf.ui (by decide) (by decide)
  have s3 := c3.s s2
  have f3 : mI g3 607 = ups (mI g2 607) (9 + 6 * c + 5) (nI 0) := by rw [← hg3, mI_up]
  have c13 : mf [607] [] h g3 := c1.tr (c2.tr c3)
  have o3 : ∀ q, q ≠ 9 + 6 * tb t + 4 → q ≠ 9 + 6 * c + 5 → (∀ p, (gp (aL A))[p]? = some (tb t) → q ≠ 81 + 5 * p + 4) → mI g3 607 q = mI h 607 q := fun q a1 a2 a3 => by rw [f3, ups_o a2, o2 q a3, f1, ups_o a1]
  have z1 : mI g3 607 (9 + 6 * tb t + 4) = nI 0 := by
    rw [f3, ups_o (by omega), o2 _ (fun p hp => by have := p8 p _ hp; omega), f1, ups_s]
  have z2 : mI g3 607 (9 + 6 * c + 5) = nI 0 := by rw [f3, ups_s]
  have z3 : ∀ p, (gp (aL A))[p]? = some (tb t) → mI g3 607 (81 + 5 * p + 4) = nI 0 := fun p hp => by
    rw [f3, ups_o (by omega)]; exact l2 p hp
  have row : ∀ k, k < 19 → mI g3 607 (121 + 19 * j + k) = mI h 607 (121 + 19 * j + k) := fun k hk => o3 _ (by omega) (by omega) (fun p hp => by have := p8 p _ hp; omega)
  have b2 : mI g3 607 (121 + 19 * j + 2) = nI (td t) := (row 2 (by decide)).trans et.2.2.1
  have b0 : mI g3 607 (121 + 19 * j + 0) = nI (tn t) := (row 0 (by decide)).trans et.1
  simp (disch := omega) only [s3.o, m_train s3 j8, b2, b0, nI_add, pk_mul, nI_clamp, nI_leI, nI_ltI, nI_eq, vp_in_nI, true_and]
  cases hl : l0 with
  | nil =>
    rw [hl] at hcl
    rw [hcl] at hlast
    have ec : c = td t := by simpa using hlast
    refine ⟨fun z => absurd ec z, fun _ => ?_⟩
    rw [← ec] at k1
    exact k1 hcl g3 c13 o3 z1 z2 z3
  | cons e l =>
    rw [hl] at hcl hth nd hWl
    have hcd : c ≠ td t := fun z => by
      rw [hcl, List.getLast?_cons_cons] at hlast
      have := List.mem_of_getLast? hlast
      rw [← z] at this
      exact (List.nodup_cons.mp (List.nodup_cons.mp nd).2).1 this
    refine ⟨fun _ => ?_, fun z => absurd z hcd⟩
    rw [m_puts s3 (show c < 12 by omega) (show 4 < 6 by decide)]
    generalize hg4 : uI g3 607 (9 + 6 * c + 4) (nI (tn t + 1)) = g4
    have c4 : mf [607] [] g3 g4 := by rw [← hg4]; exact mf.ui (by decide) (by decide)
    have s4 := c4.s s3
    have f4 : mI g4 607 = ups (mI g3 607) (9 + 6 * c + 4) (nI (tn t + 1)) := by rw [← hg4, mI_up]
    refine ⟨s4.o, ?_⟩
    rw [m_tells s4 j8 (show 1 < 19 by decide)]
    generalize hg5 : uI g4 607 (121 + 19 * j + 1) (nI c) = g5
    have c5 : mf [607] [] g3 g5 := by rw [← hg5]; exact c4.tr (mf.ui (by decide) (by decide))
    have s5 := c5.s s3
    have f5 : mI g5 607 = ups (ups (mI g3 607) (9 + 6 * c + 4) (nI (tn t + 1))) (121 + 19 * j + 1) (nI c) := by rw [← hg5, mI_up, f4]
    have row5 : ∀ k, k < 19 → k ≠ 1 → mI g5 607 (121 + 19 * j + k) = mI h 607 (121 + 19 * j + k) := fun k hk h1 => by rw [f5, ups_o (by omega), ups_o (by omega)]; exact row k hk
    have hlen : (tb t :: c :: e :: l).length = l.length + 3 := rfl
    refine ⟨(tb t :: c :: e :: l).length - 1 + 1, ?_⟩
    refine m_L70 (W := tb t :: c :: e :: l) s5 j8 hWl ?_ (fun k x hk => ?_) (fun g6 c6 o6 w6 => ?_) ((tb t :: c :: e :: l).length - 1) 0 g5 (by omega) (mf.rf _ _ _) (fun _ _ => rfl) (fun k x hk => absurd hk (by omega))
    · rw [row5 6 (by decide) (by decide), et.2.2.2.2.2.2.1, if_neg hr, hcl]
      rfl
    · have := (List.getElem?_eq_some_iff.mp hk).1
      rw [row5 (7 + k) (by omega) (by omega)]
      exact et.2.2.2.2.2.2.2 hr k x (by rw [hth]; exact hk)
    · have s6 := c6.s s5
      have a6 : mI g6 607 (121 + 19 * j + 6) = nI (l.length + 3) := by
        rw [o6 _ (by omega), row5 6 (by decide) (by decide), et.2.2.2.2.2.2.1, if_neg hr, hcl]
        rfl
      rw [hlen, wX10_enters_L70]; dsimp only
      simp (disch := omega) only [s6.o, m_train s6 j8, a6, nI_add, pk_mul, nI_clamp, nI_leI, nI_ltI, nI_eq, vp_in_nI, true_and, m_tells s6 j8 (show 6 < 19 by decide)]
      refine ⟨fun _ => ?_, fun z => absurd (by omega) z⟩
      rw [nI_sub (by omega), show l.length + 3 - 1 = l.length + 2 by omega]
      generalize hg7 : uI g6 607 (121 + 19 * j + 6) (nI (l.length + 2)) = g7
      have c7 : mf [607] [] g6 g7 := by rw [← hg7]; exact mf.ui (by decide) (by decide)
      have s7 := c7.s s6
      have f7 : mI g7 607 = ups (mI g6 607) (121 + 19 * j + 6) (nI (l.length + 2)) := by rw [← hg7, mI_up]
      have hen : e < gn (aL A) := t3 e (by rw [hcl]; simp)
      have h9 := (i0.1.2.1 e hen).2
      have lo : ∀ q, q ≠ 9 + 6 * tb t + 4 → q ≠ 9 + 6 * c + 4 → q ≠ 9 + 6 * c + 5 → (∀ p, (gp (aL A))[p]? = some (tb t) → q ≠ 81 + 5 * p + 4) → q ≠ 121 + 19 * j + 1 → q ≠ 121 + 19 * j + 6 → ¬ (128 + 19 * j ≤ q ∧ q < 140 + 19 * j) → mI g7 607 q = mI h 607 q := fun q a1 a2 a3 a4 a5 a6 a7 => by
        rw [f7, ups_o a6, o6 q a7, f5, ups_o a5, ups_o a2]; exact o3 q a1 a3 a4
      have y6 : mI g7 607 6 = nI (aM A) := (lo 6 (by omega) (by omega) (by omega) (fun p hp => by omega) (by omega) (by omega) (by omega)).trans r.1.2.2.2.2.2.2.1
      have y8 : mI g7 607 (121 + 19 * j + 8) = nI e := by
        rw [f7, ups_o (by omega)]
        exact w6 1 e rfl
      have yl : mI g7 607 (9 + 6 * e + 0) = nI (gl (aL A) e) := (lo _ (by omega) (by omega) (by omega) (fun p hp => by omega) (by omega) (by omega) (by omega)).trans ((r.2.1 e (by omega)).1 hen)
      simp (disch := omega) only [s7.o, s7.r1, s7.a7, s7.l7, m_train s7 j8, y6, y8, yl, nI_add, pk_mul, nI_clamp, nI_leI, nI_ltI, nI_eq, vp_in_nI, true_and, m_block s7 (show e < 12 by omega), m_tells s7 j8 (show 4 < 19 by decide)]
      have c8 : mf [607] [] g7 (uI g7 607 (121 + 19 * j + 4) (nI (aM A + gl (aL A) e))) := mf.ui (by decide) (by decide)
      refine k0 c e l hcl _ (c13.tr (c5.tr (c6.tr (c7.tr c8)))) ⟨fun q a0 a1 a2 a3 a4 a5 a6 a7 a8 => ?_, ?_, ?_, ?_, fun p hp => ?_, ?_, ?_, ?_, fun k x hk => ?_⟩
      · rw [mI_up, ups_o a6]; exact lo q a1 a2 a3 a4 a5 a7 a8
      · rw [mI_up, ups_o (by omega), f7, ups_o (by omega), o6 _ (by omega), f5, ups_o (by omega), ups_o (by omega)]; exact z1
      · rw [mI_up, ups_o (by omega), f7, ups_o (by omega), o6 _ (by omega), f5, ups_o (by omega), ups_s]
      · rw [mI_up, ups_o (by omega), f7, ups_o (by omega), o6 _ (by omega), f5, ups_o (by omega), ups_o (by omega)]; exact z2
      · have := p8 p _ hp
        rw [mI_up, ups_o (by omega), f7, ups_o (by omega), o6 _ (by omega), f5, ups_o (by omega), ups_o (by omega)]; exact z3 p hp
      · rw [mI_up, ups_o (by omega), f7, ups_o (by omega), o6 _ (by omega), f5, ups_s]
      · rw [mI_up, ups_s]
      · rw [mI_up, ups_o (by omega), f7, ups_s]
      · have := (List.getElem?_eq_some_iff.mp hk).1
        rw [mI_up, ups_o (by omega), f7, ups_o (by omega)]
        exact w6 k x (by rw [List.getElem?_cons_succ]; exact hk)
end EC
