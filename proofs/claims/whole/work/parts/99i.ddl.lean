/-! THE MODEL: CIRCLES -/
section MDL
variable {h0 h g : AH} {A : AG} {X : BG} {n : Nat} {Q : Nat → Nat → Bool} {K : Int32 → AH → Prop}
abbrev mw (h g : AH) : Prop := mf [614, 615, 616, 617, 618] [0, 20] h g
/-- the rows of the waiting below x are whole, row x goes up to y -/
def WRi (h0 : AH) (n : Nat) (Q : Nat → Nat → Bool) (x y : Nat) (g : AH) : Prop := mw h0 g ∧ mI g 606 0 = nI 0 ∧ (∀ i, i < x → mI g 617 i = nI (msk (Q i) n)) ∧ mI g 617 x = nI (msk (Q x) y)
theorem m_ddl_in (s : sM h0) (i : IMs A) (bx : BX (aL A)) (hne : ∀ t ∈ aT A, tb t ≠ td t) (r : rm (mI h0 607) A) {x : Nat} (hx : x < (aT A).length) {C : Nat → Int32 → Int32 → AH → Prop} (k : ∀ g, WRi h0 (aT A).length (prl (wts A) (aT A)) x (aT A).length g → C 606 (nI (aT A).length) (nI x) g) : ∀ j y g, y + j = (aT A).length → WRi h0 (aT A).length (prl (wts A) (aT A)) x y g → wX10_deadlocked_L28 K C (j + 1) 606 (nI (aT A).length) (nI x) (nI y) g := by
  have h8 := i.2.1
  have nz17 : (nZ ≤ 617) = True := eq_true (by decide)
  intro j
  induction j with
  | zero =>
    intro y g hy q
    have hy' : y = (aT A).length := hy
    rw [wX10_deadlocked_L28]; dsimp only
    simp (disch := omega) only [nI_add, pk_mul, nI_clamp, nI_leI, nI_ltI, nI_eq, vp_in_nI]
    subst hy'
    exact ⟨fun _ => k g q, fun z => absurd (Nat.le_refl _) z⟩
  | succ j ih =>
    intro y g hy q
    have s' := q.1.s s
    obtain ⟨t, ht, tm⟩ := T_get hx
    obtain ⟨u, hu, um⟩ := T_get (show y < (aT A).length by omega)
    have eP : prl (wts A) (aT A) x y = (decide (x ≠ y) && wts A t u) := by
      unfold prl
      rw [ht, hu]
    have hml := msk_lt (prl (wts A) (aT A) x) y
    have e17 := q.2.2.2
    rw [wX10_deadlocked_L28]; dsimp only
    simp (disch := omega) only [s'.o, s'.r13, s'.a17, s'.l17, nI_add, pk_mul, nI_clamp, nI_leI, nI_ltI, nI_eq, vp_in_nI, true_and, e17]
    refine ⟨fun z => absurd z (by omega), fun _ => m_isWaiting s' i bx (r.fr q.1 (by decide)) ht hu (hne t tm) (fun g2 c2 => ?_)⟩
    have s2 := c2.s s'
    have put : ∀ v m, v = nI m → msk (prl (wts A) (aT A) x) (y + 1) = msk (prl (wts A) (aT A) x) y ||| m → wX10_deadlocked_J56 K (wX10_deadlocked_L28 K C (j + 1)) 606 (nI (aT A).length) (nI x) (nI y) 617 (nI x) (nI (msk (prl (wts A) (aT A) x) y)) v g2 := fun v m hv hm => by
      subst hv
      unfold wX10_deadlocked_J56
      simp (disch := omega) only [s2.a17, s2.l17, nz17, nI_add, pk_mul, nI_clamp, nI_leI, nI_ltI, nI_eq, vp_in_nI, true_and, forall_eq, n_or]
      have c3 : mw g2 (uI g2 617 x (nI (msk (prl (wts A) (aT A) x) y ||| m))) := mf.ui (by decide) (by decide)
      refine ih (y + 1) _ (by omega) ⟨q.1.tr ((c2.mo (by decide) (by decide)).tr c3), ?_, fun a ha => ?_, ?_⟩
      · rw [mI_o (by decide), c2.f (by decide)]; exact q.2.1
      · rw [mI_uI, if_neg (by omega), c2.c (by decide) (by decide)]; exact q.2.2.1 a ha
      · rw [mI_uI, if_pos ⟨rfl, rfl⟩, hm]
    by_cases z : x ≠ y ∧ wts A t u = true
    · rw [if_pos z]
      refine ⟨fun z => absurd z (by decide), fun _ => put _ (2 ^ y) (n_shl y (by omega)) ?_⟩
      rw [msk, if_pos (by rw [eP, decide_eq_true z.1, z.2]; rfl)]
    · rw [if_neg z]
      refine ⟨fun _ => put _ 0 rfl ?_, fun z => absurd rfl z⟩
      rw [msk, if_neg (by
        rw [eP]
        intro y2
        rw [Bool.and_eq_true] at y2
        exact z ⟨of_decide_eq_true y2.1, y2.2⟩), Nat.or_zero]
theorem m_ddl_out (s : sM h0) (i : IMs A) (bx : BX (aL A)) (hne : ∀ t ∈ aT A, tb t ≠ td t) (r : rm (mI h0 607) A) {C : Nat → Int32 → AH → Prop} (k : ∀ g, mw h0 g → mI g 606 0 = nI 0 → (∀ a, a < (aT A).length → mI g 617 a = nI (msk (prl (wts A) (aT A) a) (aT A).length)) → C 606 (nI (aT A).length) g) : ∀ j x g, x + j = (aT A).length → mw h0 g → mI g 606 0 = nI 0 → (∀ a, a < x → mI g 617 a = nI (msk (prl (wts A) (aT A) a) (aT A).length)) → wX10_deadlocked_L14 K C (j + 1) 606 (nI (aT A).length) (nI x) g := by
  have h8 := i.2.1
  have nz17 : (nZ ≤ 617) = True := eq_true (by decide)
  intro j
  induction j with
  | zero =>
    intro x g hx c e0 q
    have hx' : x = (aT A).length := hx
    subst hx'
    rw [wX10_deadlocked_L14]; dsimp only
    simp (disch := omega) only [nI_add, pk_mul, nI_clamp, nI_leI, nI_ltI, nI_eq, vp_in_nI]
    exact ⟨fun _ => k g c e0 q, fun z => absurd (Nat.le_refl _) z⟩
  | succ j ih =>
    intro x g hx c e0 q
    have s' := c.s s
    rw [wX10_deadlocked_L14]; dsimp only
    simp (disch := omega) only [s'.o, s'.r13, s'.a17, s'.l17, nz17, nI_add, pk_mul, nI_clamp, nI_leI, nI_ltI, nI_eq, vp_in_nI, true_and, forall_eq]
    refine ⟨fun z => absurd z (by omega), fun _ => ⟨(aT A).length + 1, ?_⟩⟩
    have c3 : mw g (uI g 617 x (nI 0)) := mf.ui (by decide) (by decide)
    refine m_ddl_in s i bx hne r (show x < (aT A).length by omega) (fun g2 q2 => ?_) (aT A).length 0 _ (by omega) ⟨c.tr c3, ?_, fun a ha => ?_, ?_⟩
    · rw [nI_add]
      refine ih (x + 1) g2 (by omega) q2.1 q2.2.1 (fun a ha => ?_)
      by_cases z : a = x
      · rw [z]; exact q2.2.2.2
      · exact q2.2.2.1 a (by omega)
    · rw [mI_o (by decide)]; exact e0
    · rw [mI_uI, if_neg (by omega)]; exact q a ha
    · rw [mI_uI, if_pos ⟨rfl, rfl⟩]; rfl
/-- the rows are M -/
def WRm (h0 : AH) (n : Nat) (M : Nat → Nat) (g : AH) : Prop := mw h0 g ∧ mI g 606 0 = nI 0 ∧ ∀ i, i < n → mI g 617 i = nI (M i)
theorem m_war_in {M : Nat → Nat} (s : sM h0) (hn : n ≤ 8) {m : Nat} (hm : m < n) (hM : ∀ y, y ≤ n → ∀ i, i < n → wI M m y i < 2 ^ 8) {C : Nat → Int32 → Int32 → AH → Prop} (k : ∀ g, WRm h0 n (wI M m n) g → C 606 (nI n) (nI m) g) : ∀ j y g, y + j = n → WRm h0 n (wI M m y) g → wX10_deadlocked_L79 K C (j + 1) 606 (nI n) (nI m) (nI y) g := by
  have nz17 : (nZ ≤ 617) = True := eq_true (by decide)
  intro j
  induction j with
  | zero =>
    intro y g hy q
    have hy' : y = n := hy
    subst hy'
    rw [wX10_deadlocked_L79]; dsimp only
    simp (disch := omega) only [nI_add, pk_mul, nI_clamp, nI_leI, nI_ltI, nI_eq, vp_in_nI]
    exact ⟨fun _ => k g q, fun z => absurd (Nat.le_refl _) z⟩
  | succ j ih =>
    intro y g hy q
    have s' := q.1.s s
    have hyn : y < n := by omega
    have h1 := hM y (by omega) y hyn
    have h2 := hM y (by omega) m hm
    have ey := q.2.2 y hyn
    have em := q.2.2 m hm
    have put : ∀ v, v = wI M m (y + 1) y → wX10_deadlocked_J115 K (wX10_deadlocked_L79 K C (j + 1)) 606 (nI n) (nI m) (nI y) 617 (nI y) (nI 0) (nI v) g := fun v hv => by
      unfold wX10_deadlocked_J115
      have : nI 0 ||| nI v = nI v := by rw [n_or, Nat.zero_or]
      simp (disch := omega) only [s'.a17, s'.l17, nz17, nI_add, pk_mul, nI_clamp, nI_leI, nI_ltI, nI_eq, vp_in_nI, true_and, forall_eq, this]
      have c3 : mw g (uI g 617 y (nI v)) := mf.ui (by decide) (by decide)
      refine ih (y + 1) _ (by omega) ⟨q.1.tr c3, by rw [mI_o (by decide)]; exact q.2.1, fun a ha => ?_⟩
      rw [mI_uI]
      by_cases z : a = y
      · rw [if_pos ⟨rfl, z⟩, hv, z]
      · rw [if_neg (fun z2 => z z2.2), q.2.2 a ha]
        show _ = nI (if a = y then (if (wI M m y y).testBit m = true then wI M m y y ||| wI M m y m else wI M m y y) else wI M m y a)
        rw [if_neg z]
    have put2 : ∀ v w, v ||| w = wI M m (y + 1) y → wX10_deadlocked_J115 K (wX10_deadlocked_L79 K C (j + 1)) 606 (nI n) (nI m) (nI y) 617 (nI y) (nI v) (nI w) g := fun v w hv => by
      have := put (v ||| w) hv
      unfold wX10_deadlocked_J115 at this ⊢
      rw [n_or, Nat.zero_or] at this
      rw [n_or]
      exact this
    have hw : wI M m (y + 1) y = if (wI M m y y).testBit m = true then wI M m y y ||| wI M m y m else wI M m y y := by
      show (if y = y then (if (wI M m y y).testBit m = true then wI M m y y ||| wI M m y m else wI M m y y) else wI M m y y) = _
      rw [if_pos rfl]
    rw [wX10_deadlocked_L79]; dsimp only
    simp (disch := omega) only [s'.o, s'.r13, s'.a17, s'.l17, nI_add, pk_mul, nI_clamp, nI_leI, nI_ltI, nI_eq, vp_in_nI, true_and, ey, em]
    rw [shr_b (by omega) (by omega)]
    refine ⟨fun z => absurd z (by omega), fun _ => ?_⟩
    by_cases e : (wI M m y y).testBit m = true
    · rw [if_pos e] at hw ⊢
      exact ⟨fun z => absurd rfl z, fun _ => put2 _ _ hw.symm⟩
    · rw [if_neg e] at hw ⊢
      exact ⟨fun _ => put2 _ _ (by rw [Nat.or_zero]; exact hw.symm), fun z => absurd z (by decide)⟩
theorem m_war_out {M : Nat → Nat} (s : sM h0) (hn : n ≤ 8) (hM : ∀ i, i < n → M i < 2 ^ 8) {C : Nat → Int32 → AH → Prop} (k : ∀ g, WRm h0 n (wO M n n) g → C 606 (nI n) g) : ∀ j x g, x + j = n → WRm h0 n (wO M n x) g → wX10_deadlocked_L72 K C (j + 1) 606 (nI n) (nI x) g := by
  intro j
  induction j with
  | zero =>
    intro x g hx q
    have hx' : x = n := hx
    subst hx'
    rw [wX10_deadlocked_L72]; dsimp only
    simp (disch := omega) only [nI_add, pk_mul, nI_clamp, nI_leI, nI_ltI, nI_eq, vp_in_nI]
    exact ⟨fun _ => k g q, fun z => absurd (Nat.le_refl _) z⟩
  | succ j ih =>
    intro x g hx q
    have hxn : x < n := by omega
    rw [wX10_deadlocked_L72]; dsimp only
    simp (disch := omega) only [nI_add, pk_mul, nI_clamp, nI_leI, nI_ltI, nI_eq, vp_in_nI]
    refine ⟨fun z => absurd z (by omega), fun _ => ⟨n + 1, m_war_in (M := wO M n x) s hn hxn (fun y hy i hi => ?_) (fun g' q' => ?_) n 0 g (by omega) q⟩⟩
    · have hO := wO_lt hM x (by omega)
      rw [wI_i]
      split
      · exact or_lt (hO i hi) (hO x hxn)
      · exact hO i hi
    · rw [nI_add]
      exact ih (x + 1) g' (by omega) q'
theorem m_war_c {M : Nat → Nat} (s : sM h0) (hn : n ≤ 8) (hM : ∀ i, i < n → M i < 2 ^ 8) (q : WRm h0 n M g) (k : K (nI ((List.range n).countP (fun i => (M i).testBit i))) g) : ∀ j x, x + j = n → wX10_deadlocked_L133 K (j + 1) 606 (nI n) (nI ((List.range x).countP (fun i => (M i).testBit i))) (nI x) g := by
  have s' := q.1.s s
  intro j
  induction j with
  | zero =>
    intro x hx
    have hx' : x = n := hx
    subst hx'
    rw [wX10_deadlocked_L133]; dsimp only
    simp (disch := omega) only [nI_add, pk_mul, nI_clamp, nI_leI, nI_ltI, nI_eq, vp_in_nI]
    exact ⟨fun _ => k, fun z => absurd (Nat.le_refl _) z⟩
  | succ j ih =>
    intro x hx
    have hxn : x < n := by omega
    have h1 := hM x hxn
    have hcs : (List.range (x + 1)).countP (fun i => (M i).testBit i) = (List.range x).countP (fun i => (M i).testBit i) + if (M x).testBit x = true then 1 else 0 := by
      rw [List.range_succ, List.countP_append]
      simp [List.countP_cons]
    have := ih (x + 1) (by omega)
    rw [hcs] at this
    have ex_ := q.2.2 x hxn
    rw [wX10_deadlocked_L133]; dsimp only
    simp (disch := omega) only [s'.o, s'.r13, s'.a17, s'.l17, nI_add, pk_mul, nI_clamp, nI_leI, nI_ltI, nI_eq, vp_in_nI, true_and, ex_, shr_b, forall_eq]
    exact ⟨fun z => absurd z (by omega), fun _ => this⟩
theorem m9_deadlocked (q : RMb h X) (k : GK (bA X)) (hC : aC (bA X) ≤ 9000) (kk : mqK h X (0, nI (ded (bA X))) K) : wX10_deadlocked 606 h K := by
  have i := k.ims hC
  have h8 := i.2.1
  have s := q.1
  have hne : ∀ t ∈ aT (bA X), tb t ≠ td t := fun t ht => (k.2.2.2.1 t ht).2.2.1
  have hM : ∀ a, a < (aT (bA X)).length → msk (prl (wts (bA X)) (aT (bA X)) a) (aT (bA X)).length < 2 ^ 8 := fun a _ => Nat.lt_of_lt_of_le (msk_lt _ _) (Nat.pow_le_pow_right (by decide) h8)
  have hc : (List.range (aT (bA X)).length).countP (fun i => (wO (fun i => msk (prl (wts (bA X)) (aT (bA X)) i) (aT (bA X)).length) (aT (bA X)).length (aT (bA X)).length i).testBit i) = ded (bA X) := wO_cnt (fun i j hi hj => by rw [msk_tb]; simp [hj])
  refine ⟨s.o, fun g hg => ?_⟩
  have c : mw h g := by rw [hg]; exact mf.uf (by decide)
  have e0 : mI g 606 0 = nI 0 := by rw [hg, mI_uI, if_pos ⟨rfl, rfl⟩]
  have e4 : mI g 607 4 = nI (aT (bA X)).length := by rw [c.c (by decide) (by decide)]; exact q.2.1.1.2.2.2.2.1
  simp (disch := omega) only [s.r1, s.a7, s.l7, nI_add, pk_mul, nI_clamp, nI_leI, nI_ltI, nI_eq, vp_in_nI, true_and, e4, forall_eq]
  refine ⟨(aT (bA X)).length + 1, m_ddl_out s i k.2.1 hne q.2.1 (fun g2 c2 e2 r2 => ⟨(aT (bA X)).length + 1, m_war_out (M := fun a => msk (prl (wts (bA X)) (aT (bA X)) a) (aT (bA X)).length) s h8 hM (fun g3 q3 => ⟨(aT (bA X)).length + 1, ?_⟩) (aT (bA X)).length 0 g2 (by omega) ⟨c2, e2, r2⟩⟩) (aT (bA X)).length 0 g (by omega) c e0 (fun a ha => absurd ha (Nat.not_lt_zero a))⟩
  refine m_war_c s h8 (wO_lt hM _ (Nat.le_refl _)) q3 ?_ (aT (bA X)).length 0 (by omega)
  rw [hc]
  exact kk.to q q3.1 q3.2.1
theorem m9_deadlockedByPairs (q : RMb h X) (k : GK (bA X)) (hC : aC (bA X) ≤ 9000) (kk : mqK h X (0, nI (ded (bA X))) K) : wX10_deadlockedByPairs 606 h K := by
  unfold wX10_deadlockedByPairs
  exact ⟨q.1.o, m9_deadlocked q k hC kk⟩
end MDL
