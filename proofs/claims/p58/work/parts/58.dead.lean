/-! CIRCLES AND SETS: the class's answers -/
section DE
variable {h0 h g : AH} {p w n : Nat} {X : BG} {Q : Nat → Nat → Bool} {K : Int32 → AH → Prop}
theorem circ_l (r : RBp h0 p X) (hn : n ≤ 8) (hi0 : ∀ i, Q i i = false) (k : ∀ g, chi 583 587 h0 g → K (nI (ccl Q n)) g) : ∀ j x g f P vis c, x + j = n → TI n Q [] f P vis c → TH h0 n Q f P vis c g → (∀ i, i < x → f i ≠ 0) → wX6_inCircles_L25 K (j + 1) 583 (nI x) g := by
  intro j
  induction j with
  | zero =>
    intro x g f P vis c hx t th hf
    have hx' : x = n := by omega
    subst hx'
    have s := (th.rb r).1
    rw [wX6_inCircles_L25]; dsimp only
    rw [th.2.1, th.2.2.2.2.2.2]
    have hc : c = ccl Q x := by
      obtain ⟨i1, i2, i3, i4, i5, i6, i7, i8, i9, i10, i11⟩ := t
      rw [i10]
      unfold ccl
      refine List.countP_congr (fun i hi => ?_)
      have hi := List.mem_range.mp hi
      have hP : P i = false := by
        cases hz : P i with
        | false => rfl
        | true =>
          obtain ⟨g, g1, -⟩ := i9 i hi hz
          exact absurd g1 List.not_mem_nil
      simp [hf i hi, hP]
    rw [hc]
    exact ⟨s.eo, fun _ => k g th.1, fun z => absurd (nI_le (Nat.le_refl _) (by omega)) z⟩
  | succ j ih =>
    intro x g f P vis c hx t th hf
    have s := (th.rb r).1
    have hxn : x < n := by omega
    have hfx := t.1 x hxn
    have hvis := t.vn
    rw [wX6_inCircles_L25]; dsimp only
    rw [th.2.1, s.e2, s.el2, nI_clamp (by omega), th.2.2.2.1 x hxn, nI_z (by omega), nI_add]
    refine ⟨s.eo, fun z => absurd z (nI_ge hxn (by omega)), fun _ => ⟨s.ea2, vp_in_nI (by omega) (by decide), fun z => ?_, fun z => ?_⟩⟩
    · exact ih (x + 1) g f P vis c (by omega) t th (fun i hi => by
        by_cases y : i = x
        · rw [y]; exact z
        · exact hf i (by omega))
    · refine search_s r hn hi0 10 [] x f P vis c g _ (by decide) t th hxn z (fun y hy => absurd hy List.not_mem_nil) (fun g' f' P' vis' c' L th' _ tq => ?_)
      refine ih (x + 1) g' f' P' vis' c' (by omega) tq.1 th' (fun i hi => ?_)
      by_cases y : i = x
      · rw [y]; exact tq.2.2.2.2.1
      · have h1 := hf i (by omega)
        rw [(tq.2.1 i (by omega) h1).1]
        exact h1
theorem c_inCircles (r : RBp h0 p X) (q : RRo h0 n Q g) (hn : n ≤ 8) (hi0 : ∀ i, Q i i = false) (k : ∀ g, chi 583 587 h0 g → K (nI (ccl Q n)) g) : wX6_inCircles 583 g K := by
  have s := (q.rb r).1
  unfold wX6_inCircles
  rw [s.e2]
  refine ⟨s.eo, w_fill s.ea2 (by decide) s.el2 (by decide) (fun g1 c1 e1 => ?_)⟩
  have o1 : isO g1 583 4 := by unfold isO; rw [c1.2.1]; exact s.eo
  refine ⟨o1, fun g2 e2 g3 e3 g4 e4 => ?_⟩
  have f2 : chi 583 587 g1 g2 := by rw [e2]; exact chi.uI (by omega) (by omega)
  have f3 : chi 583 587 g2 g3 := by rw [e3]; exact chi.uI (by omega) (by omega)
  have f4 : chi 583 587 g3 g4 := by rw [e4]; exact chi.uI (by omega) (by omega)
  refine ⟨n + 1, circ_l r hn hi0 k n 0 g4 (fun _ => 0) (fun _ => false) 0 0 (by omega) ⟨fun _ _ => Nat.le_refl 0, fun i j _ _ h => absurd rfl h, List.nodup_nil, fun _ h => absurd h List.not_mem_nil, fun _ _ h => (by cases h), fun _ _ _ _ h => absurd rfl h, fun _ _ _ _ h => absurd rfl h, fun _ _ h => absurd h List.not_mem_nil, fun _ _ h => (by cases h), ?_, ?_⟩ ⟨((((q.1.mo (by omega) (by omega)).tr (c1.mo (by omega) (by omega))).tr f2).tr f3).tr f4, ?_, fun i hi => ?_, fun i hi => ?_, ?_, ?_, ?_⟩ (fun i hi => absurd hi (Nat.not_lt_zero i))⟩
  · symm; rw [List.countP_eq_zero]; intro i _; simp
  · symm; rw [List.countP_eq_zero]; intro i _; simp
  · rw [e4, mI_uI, if_neg (by omega), e3, mI_uI, if_neg (by omega), e2, mI_uI, if_neg (by omega), c1.2.2.2.2 583 (by omega)]; exact q.2.1
  · rw [e4, mI_o (by omega), e3, mI_o (by omega), e2, mI_o (by omega), c1.2.2.2.2 584 (by omega)]; exact q.2.2 i hi
  · rw [e4, mI_o (by omega), e3, mI_o (by omega), e2, mI_o (by omega)]; exact e1 i (by omega)
  · rw [e4, mI_uI, if_neg (by omega), e3, mI_uI, if_neg (by omega), e2, mI_uI, if_pos ⟨rfl, rfl⟩]
  · rw [e4, mI_uI, if_neg (by omega), e3, mI_uI, if_pos ⟨rfl, rfl⟩]
    have : ∀ n, msk (fun _ => false) n = 0 := fun n => by
      induction n with
      | zero => rfl
      | succ n ih => rw [msk, if_neg (by decide), ih]
    rw [this]
  · rw [e4, mI_uI, if_pos ⟨rfl, rfl⟩]
theorem prl_ii (P : TG → TG → Bool) (T : List TG) (i : Nat) : prl P T i i = false := by
  unfold prl
  simp
theorem chi.fcl (c : chi 583 587 h g) : fcl h g := c.chg.fcl (by omega) (by omega)
/-- how many trains stand in circles of waiting -/
noncomputable def ded (A : AG) : Nat := ccl (prl (wts A) (aT A)) (aT A).length
theorem c9_deadlocked (r : RBc h X) (i : IP (bA X)) (k : ∀ g, fcl h g → RBc g X → K (nI (ded (bA X))) g) : wX9_deadlocked 64 h K := by
  obtain ⟨p, r⟩ := r
  have s := r.2.2.1
  unfold wX9_deadlocked
  rw [r.1.f0, r.1.f4]
  refine ⟨r.1.o, s.1.o, c_relateWaiting r i (fun g q => ?_)⟩
  have r1 := q.rb r
  rw [r1.1.f4]
  exact ⟨r1.1.o, r1.1.eo, c_inCircles r q i.1 (prl_ii _ _) (fun g2 c2 => k g2 c2.fcl ⟨p, r.rel c2⟩)⟩
/-- the rows of a relation are M -/
def RRm (h0 : AH) (n : Nat) (M : Nat → Nat) (g : AH) : Prop := chi 583 585 h0 g ∧ mI g 583 0 = nI n ∧ ∀ i, i < n → mI g 584 i = nI (M i)
theorem RRm.rb {M : Nat → Nat} (q : RRm h0 n M g) (r : RBp h0 p X) : RBp g p X := r.rel (q.1.mo (by omega) (by omega))
theorem war_in {M : Nat → Nat} (r : RBp h0 p X) (hn : n ≤ 8) {m : Nat} (hm : m < n) (hM : ∀ y, y ≤ n → ∀ i, i < n → wI M m y i < 2 ^ 8) {C : Nat → Int32 → AH → Prop} (k : ∀ g, RRm h0 n (wI M m n) g → C 583 (nI m) g) : ∀ j y g, y + j = n → RRm h0 n (wI M m y) g → wX6_inCirclesByPairs_L12 K C (j + 1) 583 (nI m) (nI y) g := by
  intro j
  induction j with
  | zero =>
    intro y g hy q
    have hy' : y = n := by omega
    subst hy'
    have s := (q.rb r).1
    rw [wX6_inCirclesByPairs_L12]; dsimp only
    rw [q.2.1]
    exact ⟨s.eo, fun _ => k g q, fun z => absurd (nI_le (Nat.le_refl _) (by omega)) z⟩
  | succ j ih =>
    intro y g hy q
    have s := (q.rb r).1
    have hyn : y < n := by omega
    have h1 := hM y (by omega) y hyn
    have h2 := hM y (by omega) m hm
    rw [wX6_inCirclesByPairs_L12]; dsimp only
    rw [q.2.1, s.e1, s.el1, nI_clamp (by omega), nI_clamp (by omega), q.2.2 y hyn, c_con (by omega) (by omega), s.e1, s.el1, q.2.2 y hyn, q.2.2 m hm, nI_add, n_or]
    refine ⟨s.eo, fun z => absurd z (nI_ge hyn (by omega)), fun _ => ⟨s.ea1, vp_in_nI (by omega) (by decide), ?_⟩⟩
    by_cases e : (wI M m y y).testBit m = true
    · rw [if_pos e]
      refine ⟨fun z => absurd z (by rw [n1_ne]; exact id), fun _ => ⟨s.eo, s.ea1, vp_in_nI (by omega) (by decide), vp_in_nI (by omega) (by decide), by decide, fun g1 e1 => ?_⟩⟩
      refine ih (y + 1) g1 (by omega) ⟨q.1.tr (by rw [e1]; exact chi.uI (by omega) (by omega)), by rw [e1, mI_uI, if_neg (by omega)]; exact q.2.1, fun i hi => ?_⟩
      rw [e1, mI_uI]
      show _ = nI (if i = y then (if (wI M m y y).testBit m = true then wI M m y y ||| wI M m y m else wI M m y y) else wI M m y i)
      by_cases z : i = y
      · rw [if_pos ⟨rfl, z⟩, if_pos z, if_pos e]
      · rw [if_neg (fun u => z u.2), if_neg z]; exact q.2.2 i hi
    · rw [if_neg e]
      refine ⟨fun _ => ih (y + 1) g (by omega) ⟨q.1, q.2.1, fun i hi => ?_⟩, fun z => absurd rfl z⟩
      show _ = nI (if i = y then (if (wI M m y y).testBit m = true then wI M m y y ||| wI M m y m else wI M m y y) else wI M m y i)
      by_cases z : i = y
      · rw [if_pos z, if_neg e, z]; exact q.2.2 y hyn
      · rw [if_neg z]; exact q.2.2 i hi
theorem war_out {M : Nat → Nat} (r : RBp h0 p X) (hn : n ≤ 8) (hM : ∀ i, i < n → M i < 2 ^ 8) {C : Nat → AH → Prop} (k : ∀ g, RRm h0 n (wO M n n) g → C 583 g) : ∀ j x g, x + j = n → RRm h0 n (wO M n x) g → wX6_inCirclesByPairs_L2 K C (j + 1) 583 (nI x) g := by
  intro j
  induction j with
  | zero =>
    intro x g hx q
    have hx' : x = n := by omega
    subst hx'
    have s := (q.rb r).1
    rw [wX6_inCirclesByPairs_L2]; dsimp only
    rw [q.2.1]
    exact ⟨s.eo, fun _ => k g q, fun z => absurd (nI_le (Nat.le_refl _) (by omega)) z⟩
  | succ j ih =>
    intro x g hx q
    have s := (q.rb r).1
    have hxn : x < n := by omega
    rw [wX6_inCirclesByPairs_L2]; dsimp only
    rw [q.2.1]
    refine ⟨s.eo, fun z => absurd z (nI_ge hxn (by omega)), fun _ => ⟨n + 1, war_in (M := wO M n x) r hn hxn (fun y hy i hi => ?_) (fun g' q' => ?_) n 0 g (by omega) q⟩⟩
    · have hO := wO_lt hM x (by omega)
      rw [wI_i]
      split
      · exact or_lt (hO i hi) (hO x hxn)
      · exact hO i hi
    · rw [nI_add]
      exact ih (x + 1) g' (by omega) q'
theorem war_c {M : Nat → Nat} (r : RBp h0 p X) (hn : n ≤ 8) (hM : ∀ i, i < n → M i < 2 ^ 8) (q : RRm h0 n M g) (k : K (nI ((List.range n).countP (fun i => (M i).testBit i))) g) : ∀ j x, x + j = n → wX6_inCirclesByPairs_L64 K (j + 1) 583 (nI ((List.range x).countP (fun i => (M i).testBit i))) (nI x) g := by
  have s := (q.rb r).1
  intro j
  induction j with
  | zero =>
    intro x hx
    have hx' : x = n := by omega
    subst hx'
    rw [wX6_inCirclesByPairs_L64]; dsimp only
    rw [q.2.1]
    exact ⟨s.eo, fun _ => k, fun z => absurd (nI_le (Nat.le_refl _) (by omega)) z⟩
  | succ j ih =>
    intro x hx
    have hxn : x < n := by omega
    have h1 := hM x hxn
    have hcs : (List.range (x + 1)).countP (fun i => (M i).testBit i) = (List.range x).countP (fun i => (M i).testBit i) + if (M x).testBit x = true then 1 else 0 := by
      rw [List.range_succ, List.countP_append]
      simp [List.countP_cons]
    have := ih (x + 1) (by omega)
    rw [hcs] at this
    rw [wX6_inCirclesByPairs_L64]; dsimp only
    rw [q.2.1, s.e1, s.el1, nI_clamp (by omega), q.2.2 x hxn, c_con (by omega) (by omega), nI_add, nI_add]
    refine ⟨s.eo, fun z => absurd z (nI_ge hxn (by omega)), fun _ => ⟨s.ea1, vp_in_nI (by omega) (by decide), ?_⟩⟩
    by_cases e : (M x).testBit x = true
    · rw [if_pos e] at this ⊢
      exact ⟨fun z => absurd z (by rw [n1_ne]; exact id), fun _ => this⟩
    · rw [if_neg e] at this ⊢
      exact ⟨fun _ => this, fun z => absurd rfl z⟩
theorem c_byPairs (r : RBp h0 p X) (q : RRo h0 n Q g) (hn : n ≤ 8) (k : ∀ g, chi 583 585 h0 g → K (nI (ccl Q n)) g) : wX6_inCirclesByPairs 583 g K := by
  have hM : ∀ i, i < n → msk (Q i) n < 2 ^ 8 := fun i _ => Nat.lt_of_lt_of_le (msk_lt (Q i) n) (Nat.pow_le_pow_right (by decide) hn)
  have hc : (List.range n).countP (fun i => (wO (fun i => msk (Q i) n) n n i).testBit i) = ccl Q n := wO_cnt (fun i j hi hj => by rw [msk_tb]; simp [hj])
  refine ⟨n + 1, war_out (M := fun i => msk (Q i) n) r hn hM (fun g' q' => ⟨n + 1, war_c r hn (wO_lt hM n (Nat.le_refl n)) q' ?_ n 0 (by omega)⟩) n 0 g (by omega) q⟩
  rw [hc]
  exact k g' q'.1
theorem c9_deadlockedByPairs (r : RBc h X) (i : IP (bA X)) (k : ∀ g, fcl h g → RBc g X → K (nI (ded (bA X))) g) : wX9_deadlockedByPairs 64 h K := by
  obtain ⟨p, r⟩ := r
  have s := r.2.2.1
  unfold wX9_deadlockedByPairs
  rw [r.1.f0, r.1.f4]
  refine ⟨r.1.o, s.1.o, c_relateWaiting r i (fun g q => ?_)⟩
  have r1 := q.rb r
  rw [r1.1.f4]
  exact ⟨r1.1.o, r1.1.eo, c_byPairs r q i.1 (fun g2 c2 => k g2 (c2.mo (by omega) (by omega)).fcl ⟨p, r.rel (c2.mo (by omega) (by omega))⟩)⟩
end DE
