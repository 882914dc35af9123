/-! SETS WITHOUT CONFLICT -/
/-- no two of a set are related -/
def ind (Q : Nat → Nat → Bool) (n S : Nat) : Bool := (List.range n).all (fun i => !S.testBit i || decide (msk (Q i) n &&& S = 0))
def mxs (f : Nat → Nat) : Nat → Nat
  | 0 => 0
  | s + 1 => max (mxs f s) (f s)
def isz (Q : Nat → Nat → Bool) (n S : Nat) : Nat := if ind Q n S = true then pc S else 0
def tol (Q : Nat → Nat → Bool) (n : Nat) : Nat → Nat → Nat → Nat
  | 0, _, _ => 0
  | j + 1, x, T => if msk (Q x) n &&& T = 0 then max (tol Q n j (x + 1) T) (1 + tol Q n j (x + 1) (T ||| 2 ^ x)) else tol Q n j (x + 1) T
section SE
variable {h0 h g : AH} {p w n : Nat} {X : BG} {Q : Nat → Nat → Bool} {K : Int32 → AH → Prop}
theorem ind_iff {S : Nat} : ind Q n S = true ↔ ∀ i j, i < n → j < n → S.testBit i = true → S.testBit j = true → Q i j = false := by
  unfold ind
  rw [List.all_eq_true]
  constructor
  · intro h i j hi hj h1 h2
    have := h i (List.mem_range.mpr hi)
    rw [h1] at this
    simp only [Bool.not_true, Bool.false_or, decide_eq_true_eq] at this
    have h3 := (and_z _ _).mp this j
    rw [msk_tb, h2] at h3
    cases hq : Q i j with
    | false => rfl
    | true => rw [hq] at h3; simp [hj] at h3
  · intro h i hi
    have hi := List.mem_range.mp hi
    cases h1 : S.testBit i with
    | false => rfl
    | true =>
      simp only [Bool.not_true, Bool.false_or, decide_eq_true_eq]
      rw [and_z]
      rintro j ⟨h2, h3⟩
      rw [msk_tb, Bool.and_eq_true, decide_eq_true_eq] at h2
      rw [h i j hi h2.1 h1 h3] at h2
      cases h2.2
theorem mxs_ge (f : Nat → Nat) : ∀ N s, s < N → f s ≤ mxs f N := by
  intro N
  induction N with
  | zero => intro s h; omega
  | succ N ih =>
    intro s h
    show f s ≤ max (mxs f N) (f N)
    by_cases e : s = N
    · subst e; exact Nat.le_max_right _ _
    · exact Nat.le_trans (ih s (by omega)) (Nat.le_max_left _ _)
theorem mxs_le {f : Nat → Nat} {m : Nat} : ∀ N, (∀ s, s < N → f s ≤ m) → mxs f N ≤ m := by
  intro N
  induction N with
  | zero => intro _; exact Nat.zero_le _
  | succ N ih =>
    intro h
    exact Nat.max_le.mpr ⟨ih (fun s hs => h s (by omega)), h N (by omega)⟩
theorem pc_set {T x : Nat} (hx : x < 12) (h : T.testBit x = false) : pc (T ||| 2 ^ x) = pc T + 1 := by
  unfold pc
  refine cnt_up (v := x) h (by rw [tb_or]; simp) (fun i hi => ?_) 12 hx
  have : ¬ x = i := fun z => hi z.symm
  rw [tb_or]; simp [this]
theorem low_x {T x : Nat} (h : T < 2 ^ x) : T.testBit x = false := Nat.testBit_lt_two_pow h
/-- no set with a given lower part is larger than what is taken, and one is as large -/
theorem tol_s (hn : n ≤ 8) (hs : ∀ i j, Q i j = Q j i) (hi0 : ∀ i, Q i i = false) : ∀ j x T, x + j = n → T < 2 ^ x → ind Q n T = true →
    (∀ S, S < 2 ^ n → ind Q n S = true → (∀ i, i < x → S.testBit i = T.testBit i) → pc S ≤ pc T + tol Q n j x T) ∧ (∃ S, S < 2 ^ n ∧ ind Q n S = true ∧ (∀ i, i < x → S.testBit i = T.testBit i) ∧ pc S = pc T + tol Q n j x T) := by
  intro j
  induction j with
  | zero =>
    intro x T hx hT hI
    have hx' : x = n := by omega
    subst hx'
    refine ⟨fun S hS _ hl => ?_, T, hT, hI, fun _ _ => rfl, rfl⟩
    have : S = T := by
      apply Nat.eq_of_testBit_eq
      intro i
      by_cases z : i < x
      · exact hl i z
      · rw [Nat.testBit_lt_two_pow (Nat.lt_of_lt_of_le hS (Nat.pow_le_pow_right (by decide) (by omega))), Nat.testBit_lt_two_pow (Nat.lt_of_lt_of_le hT (Nat.pow_le_pow_right (by decide) (by omega)))]
    rw [this]
    exact Nat.le_refl _
  | succ j ih =>
    intro x T hx hT hI
    have hxn : x < n := by omega
    have hT2 : T < 2 ^ (x + 1) := Nat.lt_of_lt_of_le hT (Nat.pow_le_pow_right (by decide) (Nat.le_succ x))
    have hTx : T ||| 2 ^ x < 2 ^ (x + 1) := or_lt hT2 (p2_lt (Nat.lt_succ_self x))
    have hpc := pc_set (T := T) (x := x) (by omega) (low_x hT)
    obtain ⟨a1, S0, a2, a3, a4, a5⟩ := ih (x + 1) T (by omega) hT2 hI
    have hrow : msk (Q x) n &&& T = 0 ↔ ∀ i, i < n → T.testBit i = true → Q x i = false := by
      rw [and_z]
      constructor
      · intro h i hi ht
        cases hq : Q x i with
        | false => rfl
        | true => exact absurd ⟨by rw [msk_tb, hq]; simp [hi], ht⟩ (h i)
      · rintro h i ⟨h1, h2⟩
        rw [msk_tb, Bool.and_eq_true, decide_eq_true_eq] at h1
        rw [h i h1.1 h2] at h1
        cases h1.2
    have low : ∀ S : Nat, (∀ i, i < x → S.testBit i = T.testBit i) → S.testBit x = false → ∀ i, i < x + 1 → S.testBit i = T.testBit i := fun S h1 h2 i hi => by
      by_cases z : i = x
      · subst z; rw [h2, low_x hT]
      · exact h1 i (by omega)
    have hig : ∀ S : Nat, (∀ i, i < x → S.testBit i = T.testBit i) → S.testBit x = true → ∀ i, i < x + 1 → S.testBit i = (T ||| 2 ^ x).testBit i := fun S h1 h2 i hi => by
      rw [tb_or]
      by_cases z : i = x
      · subst z; rw [h2]; simp
      · have : ¬ x = i := fun y => z y.symm
        rw [h1 i (by omega)]; simp [this]
    show (∀ S, S < 2 ^ n → ind Q n S = true → (∀ i, i < x → S.testBit i = T.testBit i) → pc S ≤ pc T + (if msk (Q x) n &&& T = 0 then max (tol Q n j (x + 1) T) (1 + tol Q n j (x + 1) (T ||| 2 ^ x)) else tol Q n j (x + 1) T)) ∧ _
    have hr : tol Q n (j + 1) x T = (if msk (Q x) n &&& T = 0 then max (tol Q n j (x + 1) T) (1 + tol Q n j (x + 1) (T ||| 2 ^ x)) else tol Q n j (x + 1) T) := rfl
    rw [hr]
    by_cases e : msk (Q x) n &&& T = 0
    · rw [if_pos e]
      have hI2 : ind Q n (T ||| 2 ^ x) = true := by
        rw [ind_iff]
        intro i k hi hk h1 h2
        rw [tb_or, Bool.or_eq_true, decide_eq_true_eq] at h1 h2
        rcases h1 with h1 | h1
        · rcases h2 with h2 | h2
          · exact ind_iff.mp hI i k hi hk h1 h2
          · subst h2; rw [hs]; exact hrow.mp e i hi h1
        · subst h1
          rcases h2 with h2 | h2
          · exact hrow.mp e k hk h2
          · subst h2; exact hi0 _
      obtain ⟨b1, S1, b2, b3, b4, b5⟩ := ih (x + 1) (T ||| 2 ^ x) (by omega) hTx hI2
      refine ⟨fun S hS hIS hl => ?_, ?_⟩
      · have m1 := Nat.le_max_left (tol Q n j (x + 1) T) (1 + tol Q n j (x + 1) (T ||| 2 ^ x))
        have m2 := Nat.le_max_right (tol Q n j (x + 1) T) (1 + tol Q n j (x + 1) (T ||| 2 ^ x))
        cases hb : S.testBit x with
        | false => have := a1 S hS hIS (low S hl hb); omega
        | true => have := b1 S hS hIS (hig S hl hb); omega
      · by_cases m : tol Q n j (x + 1) T ≤ 1 + tol Q n j (x + 1) (T ||| 2 ^ x)
        · rw [Nat.max_eq_right m]
          refine ⟨S1, b2, b3, fun i hi => ?_, by omega⟩
          rw [b4 i (by omega), tb_or]
          have : ¬ x = i := by omega
          simp [this]
        · rw [Nat.max_eq_left (by omega)]
          exact ⟨S0, a2, a3, fun i hi => a4 i (by omega), a5⟩
    · rw [if_neg e]
      refine ⟨fun S hS hIS hl => ?_, S0, a2, a3, fun i hi => a4 i (by omega), a5⟩
      cases hb : S.testBit x with
      | false => exact a1 S hS hIS (low S hl hb)
      | true =>
        exfalso
        refine e (hrow.mpr (fun i hi ht => ?_))
        have hix : i < x := by
          refine Nat.lt_of_not_le (fun z => ?_)
          rw [Nat.testBit_lt_two_pow (Nat.lt_of_lt_of_le hT (Nat.pow_le_pow_right (by decide) z))] at ht
          cases ht
        exact ind_iff.mp hIS x i hxn hi hb (by rw [hl i hix]; exact ht)
theorem tol_max (hn : n ≤ 8) (hs : ∀ i j, Q i j = Q j i) (hi0 : ∀ i, Q i i = false) : tol Q n n 0 0 = mxs (isz Q n) (2 ^ n) := by
  have h0 : ind Q n 0 = true := by
    rw [ind_iff]
    intro i j _ _ h
    rw [Nat.zero_testBit] at h
    cases h
  obtain ⟨a1, S, a2, a3, a4, a5⟩ := tol_s hn hs hi0 n 0 0 (by omega) (by decide) h0
  have hp : pc 0 = 0 := by decide
  apply Nat.le_antisymm
  · have := mxs_ge (isz Q n) (2 ^ n) S a2
    unfold isz at this
    rw [if_pos a3] at this
    have h2 : mxs (isz Q n) (2 ^ n) = mxs (fun S => if ind Q n S = true then pc S else 0) (2 ^ n) := rfl
    rw [h2]
    omega
  · refine mxs_le _ (fun s hs => ?_)
    unfold isz
    by_cases e : ind Q n s = true
    · rw [if_pos e]
      have := a1 s hs e (fun i hi => absurd hi (Nat.not_lt_zero i))
      omega
    · rw [if_neg e]; exact Nat.zero_le _
theorem tol_le : ∀ j x T, tol Q n j x T ≤ j := by
  intro j
  induction j with
  | zero => intro x T; exact Nat.le_refl _
  | succ j ih =>
    intro x T
    have h1 := ih (x + 1) T
    have h2 := ih (x + 1) (T ||| 2 ^ x)
    show (if msk (Q x) n &&& T = 0 then max (tol Q n j (x + 1) T) (1 + tol Q n j (x + 1) (T ||| 2 ^ x)) else tol Q n j (x + 1) T) ≤ j + 1
    split
    · exact Nat.max_le.mpr ⟨by omega, by omega⟩
    · omega
theorem c_takeOrLeave (r : RBp h0 p X) (q : RRo h0 n Q g) (hn : n ≤ 8) : ∀ (d j x T : Nat) (K : Int32 → AH → Prop), j < d → x + j = n → T < 2 ^ 8 → K (nI (tol Q n j x T)) g → wX6_takeOrLeave d 583 (nI x) (nI T) g K := by
  have s := (q.rb r).1
  intro d
  induction d with
  | zero => intro j x T K h; omega
  | succ d ih =>
    intro j x T K hd hx hT k
    show wX6_takeOrLeave_b (wX6_takeOrLeave d) 583 (nI x) (nI T) g K
    unfold wX6_takeOrLeave_b
    rw [q.2.1]
    cases j with
    | zero =>
      have hx' : x = n := by omega
      subst hx'
      exact ⟨s.eo, fun z => absurd z (nI_nlt (Nat.le_refl _) (by omega)), fun _ => k⟩
    | succ j =>
      have hxn : x < n := by omega
      have hm := msk_lt (Q x) n
      have h2 : 2 ^ n ≤ 2 ^ 8 := Nat.pow_le_pow_right (by decide) hn
      refine ⟨s.eo, fun _ => ?_, fun z => absurd (nI_lt hxn (by omega)) z⟩
      rw [nI_add]
      refine ih j (x + 1) T _ (by omega) (by omega) hT ?_
      rw [s.e1, s.el1, nI_clamp (by omega), q.2.2 x hxn, n_and, nI_z (Nat.lt_of_le_of_lt Nat.and_le_left (by omega)), n_shl x (by omega), n_or]
      refine ⟨s.eo, s.ea1, vp_in_nI (by omega) (by decide), fun z => ?_, fun z => ?_⟩
      · have : tol Q n (j + 1) x T = tol Q n j (x + 1) T := if_neg z
        rw [this] at k
        exact k
      · have : tol Q n (j + 1) x T = max (tol Q n j (x + 1) T) (1 + tol Q n j (x + 1) (T ||| 2 ^ x)) := if_pos z
        rw [this] at k
        have b1 := tol_le (Q := Q) (n := n) j (x + 1) T
        have b2 := tol_le (Q := Q) (n := n) j (x + 1) (T ||| 2 ^ x)
        refine ih j (x + 1) (T ||| 2 ^ x) _ (by omega) (by omega) (or_lt hT (p2_lt (by omega))) (fun v11 e11 => ?_)
        rw [nI_add] at e11
        have : v11 = nI (max (tol Q n j (x + 1) T) (1 + tol Q n j (x + 1) (T ||| 2 ^ x))) := by
          rw [e11]
          by_cases u : tol Q n j (x + 1) T < 1 + tol Q n j (x + 1) (T ||| 2 ^ x)
          · rw [if_pos (nI_lt u (by omega)), Nat.max_eq_right (by omega)]
          · rw [if_neg (by rw [nI_ltI (by omega) (by omega)]; exact u), Nat.max_eq_left (by omega)]
        rw [this]
        exact k
/-- how many trains at most have routes without conflict -/
noncomputable def mst (A : AG) : Nat := mxs (isz (prl (cfl A) (aT A)) (aT A).length) (2 ^ (aT A).length)
theorem cfl_s (A : AG) (t u : TG) : cfl A t u = cfl A u t := by
  unfold cfl
  rw [Bool.eq_iff_iff, List.any_eq_true, List.any_eq_true]
  constructor
  · rintro ⟨b, h1, h2⟩
    exact ⟨b, of_decide_eq_true h2, decide_eq_true h1⟩
  · rintro ⟨b, h1, h2⟩
    exact ⟨b, of_decide_eq_true h2, decide_eq_true h1⟩
theorem prl_s (A : AG) (T : List TG) (i j : Nat) : prl (cfl A) T i j = prl (cfl A) T j i := by
  unfold prl
  by_cases e : i = j
  · subst e; rfl
  · have e2 : ¬ j = i := fun z => e z.symm
    simp only [ne_eq, e, e2, not_false_eq_true, decide_true, Bool.true_and]
    cases T[i]? with
    | none => cases T[j]? with
      | none => rfl
      | some u => rfl
    | some t => cases T[j]? with
      | none => rfl
      | some u => exact cfl_s A t u
theorem c9_mostWithoutConflict (r : RBc h X) (i : IP (bA X)) (k : ∀ g, fcl h g → RBc g X → K (nI (mst (bA X))) g) : wX9_mostWithoutConflict 64 h K := by
  obtain ⟨p, r⟩ := r
  have s := r.2.2.1
  unfold wX9_mostWithoutConflict
  rw [r.1.f0, r.1.f4]
  refine ⟨r.1.o, s.1.o, c_relateConflicts r i (fun g q => ?_)⟩
  have r1 := q.rb r
  rw [r1.1.f4]
  refine ⟨r1.1.o, r1.1.eo, ?_⟩
  unfold wX6_mostUnrelated
  have h8 := i.1
  refine c_takeOrLeave r q i.1 10 (aT (bA X)).length 0 0 _ (by omega) (by omega) (by decide) ?_
  rw [tol_max i.1 (prl_s _ _) (prl_ii _ _)]
  exact k g (q.1.mo (by omega) (by omega)).fcl ⟨p, r1⟩
theorem unrel_l (r : RBp h0 p X) (q : RRo h0 n Q g) (hn : n ≤ 8) {S : Nat} (hS : S < 2 ^ 8) (k : K (if ind Q n S = true then nI 1 else nI 0) g) : ∀ j x, x + j = n → (∀ i, i < x → (!S.testBit i || decide (msk (Q i) n &&& S = 0)) = true) → wX6_isUnrelated_L2 K (j + 1) 583 (nI S) (nI x) g := by
  have s := (q.rb r).1
  intro j
  induction j with
  | zero =>
    intro x hx hall
    have hx' : x = n := by omega
    subst hx'
    have : ind Q x S = true := List.all_eq_true.mpr (fun i hi => hall i (List.mem_range.mp hi))
    rw [if_pos this] at k
    rw [wX6_isUnrelated_L2]; dsimp only
    rw [q.2.1]
    exact ⟨s.eo, fun _ => k, fun z => absurd (nI_le (Nat.le_refl _) (by omega)) z⟩
  | succ j ih =>
    intro x hx hall
    have hxn : x < n := by omega
    have hm := msk_lt (Q x) n
    have h2 : 2 ^ n ≤ 2 ^ 8 := Nat.pow_le_pow_right (by decide) hn
    rw [wX6_isUnrelated_L2]; dsimp only
    rw [q.2.1, c_con (by omega) (by omega), s.e1, s.el1, nI_clamp (by omega), q.2.2 x hxn, n_and, nI_z (Nat.lt_of_le_of_lt Nat.and_le_left (by omega)), nI_add]
    refine ⟨s.eo, fun z => absurd z (nI_ge hxn (by omega)), fun _ => ?_⟩
    have step : (!S.testBit x || decide (msk (Q x) n &&& S = 0)) = true → wX6_isUnrelated_L2 K (j + 1) 583 (nI S) (nI (x + 1)) g := fun hx2 => ih (x + 1) (by omega) (fun i hi => by
      by_cases z : i = x
      · rw [z]; exact hx2
      · exact hall i (by omega))
    cases hb : S.testBit x with
    | false =>
      exact ⟨fun _ => step (by rw [hb]; rfl), fun z => absurd rfl z⟩
    | true =>
      refine ⟨fun z => absurd z (by rw [if_pos rfl, n1_ne]; exact id), fun _ => ⟨s.eo, s.ea1, vp_in_nI (by omega) (by decide), fun z => step (by simp [z]), fun z => ?_⟩⟩
      have : ¬ ind Q n S = true := fun y => by
        have := List.all_eq_true.mp y x (List.mem_range.mpr hxn)
        rw [hb] at this
        simp only [Bool.not_true, Bool.false_or, decide_eq_true_eq] at this
        exact z this
      rw [if_neg this] at k
      exact k
theorem sets_l (r : RBp h0 p X) (q : RRo h0 n Q g) (hn : n ≤ 8) (k : K (nI (mxs (isz Q n) (2 ^ n))) g) : ∀ j x, x + j = 2 ^ n → wX6_mostUnrelatedBySets_L4 K (j + 1) 583 (nI (mxs (isz Q n) x)) (nI x) g := by
  have s := (q.rb r).1
  have h2 : 2 ^ n ≤ 2 ^ 8 := Nat.pow_le_pow_right (by decide) hn
  have hb : ∀ x, mxs (isz Q n) x ≤ 12 := fun x => mxs_le x (fun s _ => by
    unfold isz
    split
    · exact pc_le s
    · exact Nat.zero_le _)
  intro j
  induction j with
  | zero =>
    intro x hx
    have hx' : x = 2 ^ n := by omega
    subst hx'
    rw [wX6_mostUnrelatedBySets_L4]; dsimp only
    rw [q.2.1, n_shl n (by omega)]
    exact ⟨s.eo, fun _ => k, fun z => absurd (nI_le (Nat.le_refl _) (by omega)) z⟩
  | succ j ih =>
    intro x hx
    have := ih (x + 1) (by omega)
    rw [wX6_mostUnrelatedBySets_L4]; dsimp only
    rw [q.2.1, n_shl n (by omega), nI_add]
    refine ⟨s.eo, fun z => absurd z (nI_ge (by omega) (by omega)), fun _ => ⟨n + 1, unrel_l r q hn (by omega) ?_ n 0 (by omega) (fun i hi => absurd hi (Nat.not_lt_zero i))⟩⟩
    have hm : mxs (isz Q n) (x + 1) = max (mxs (isz Q n) x) (isz Q n x) := rfl
    rw [hm] at this
    unfold isz at this
    have h12 := hb x
    have hp := pc_le x
    by_cases e : ind Q n x = true
    · rw [if_pos e] at this ⊢
      refine ⟨fun z => absurd z (by rw [n1_ne]; exact id), fun _ => ?_⟩
      rw [w_bitCount (by omega)]
      have e2 : (if nI (mxs (isz Q n) x) < nI (pc x) then nI (pc x) else nI (mxs (isz Q n) x)) = nI (max (mxs (isz Q n) x) (pc x)) := by
        by_cases u : mxs (isz Q n) x < pc x
        · rw [if_pos (nI_lt u (by omega)), Nat.max_eq_right (by omega)]
        · rw [if_neg (by rw [nI_ltI (by omega) (by omega)]; exact u), Nat.max_eq_left (by omega)]
      rw [e2]
      exact this
    · rw [if_neg e] at this ⊢
      rw [Nat.max_eq_left (Nat.zero_le _)] at this
      exact ⟨fun _ => this, fun z => absurd rfl z⟩
theorem c9_mostWithoutConflictBySets (r : RBc h X) (i : IP (bA X)) (k : ∀ g, fcl h g → RBc g X → K (nI (mst (bA X))) g) : wX9_mostWithoutConflictBySets 64 h K := by
  obtain ⟨p, r⟩ := r
  have s := r.2.2.1
  unfold wX9_mostWithoutConflictBySets
  rw [r.1.f0, r.1.f4]
  refine ⟨r.1.o, s.1.o, c_relateConflicts r i (fun g q => ?_)⟩
  have r1 := q.rb r
  rw [r1.1.f4]
  exact ⟨r1.1.o, r1.1.eo, _, sets_l r q i.1 (k g (q.1.mo (by omega) (by omega)).fcl ⟨p, r1⟩) (2 ^ (aT (bA X)).length) 0 (by omega)⟩
end SE
