/-! CIRCLES: paths over nodes, Warshall's rows -/
/-- from i to j over nodes below x -/
def pth (R : Nat → Nat → Bool) : Nat → Nat → Nat → Bool
  | 0, i, j => R i j
  | x + 1, i, j => pth R x i j || (pth R x i x && pth R x x j)
section CY
variable {R : Nat → Nat → Bool} {n : Nat}
theorem pth_up {x i j : Nat} (h : pth R x i j = true) : pth R (x + 1) i j = true := by
  simp [pth, h]
theorem pth_le {i j : Nat} : ∀ {x y : Nat}, x ≤ y → pth R x i j = true → pth R y i j = true := by
  intro x y hxy
  induction y with
  | zero => intro h; rw [show x = 0 by omega] at h; exact h
  | succ y ih =>
    intro h
    by_cases e : x = y + 1
    · subst e; exact h
    · exact pth_up (ih (by omega) h)
theorem pth_e {i j : Nat} (h : R i j = true) (n : Nat) : pth R n i j = true := pth_le (Nat.zero_le n) (show pth R 0 i j = true from h)
theorem pth_tr {k : Nat} : ∀ {x : Nat}, k < x → ∀ {i j : Nat}, pth R x i k = true → pth R x k j = true → pth R x i j = true := by
  intro x
  induction x with
  | zero => intro h; omega
  | succ x ih =>
    intro hk i j h1 h2
    by_cases e : k = x
    · subst e
      have a1 : pth R k i k = true := by
        simp only [pth, Bool.or_eq_true, Bool.and_eq_true] at h1
        rcases h1 with z | z
        · exact z
        · exact z.1
      have a2 : pth R k k j = true := by
        simp only [pth, Bool.or_eq_true, Bool.and_eq_true] at h2
        rcases h2 with z | z
        · exact z
        · exact z.2
      simp [pth, a1, a2]
    · have hk' : k < x := by omega
      simp only [pth, Bool.or_eq_true, Bool.and_eq_true] at h1 h2 ⊢
      rcases h1 with z1 | ⟨z1, z2⟩
      · rcases h2 with y1 | ⟨y1, y2⟩
        · exact Or.inl (ih hk' z1 y1)
        · exact Or.inr ⟨ih hk' z1 y1, y2⟩
      · rcases h2 with y1 | ⟨y1, y2⟩
        · exact Or.inr ⟨z1, ih hk' z2 y1⟩
        · exact Or.inr ⟨z1, y2⟩
/-- what is closed under edges is closed under paths -/
theorem pth_cl {C : Nat → Prop} (h : ∀ i j, i < n → j < n → C i → R i j = true → C j) : ∀ {x : Nat}, x ≤ n → ∀ {i j : Nat}, i < n → j < n → C i → pth R x i j = true → C j := by
  intro x
  induction x with
  | zero => intro _ i j hi hj hc he; exact h i j hi hj hc he
  | succ x ih =>
    intro hx i j hi hj hc he
    simp only [pth, Bool.or_eq_true, Bool.and_eq_true] at he
    rcases he with z | ⟨z1, z2⟩
    · exact ih (by omega) hi hj hc z
    · exact ih (by omega) (by omega) hj (ih (by omega) hi (by omega) hc z1) z2
/-- a path's first edge -/
theorem pth_1 : ∀ {x : Nat}, x ≤ n → ∀ {i j : Nat}, i < n → j < n → pth R x i j = true → ∃ k, k < n ∧ R i k = true ∧ (k = j ∨ pth R n k j = true) := by
  intro x
  induction x with
  | zero => intro _ i j hi hj h; exact ⟨j, hj, h, Or.inl rfl⟩
  | succ x ih =>
    intro hx i j hi hj h
    simp only [pth, Bool.or_eq_true, Bool.and_eq_true] at h
    rcases h with z | ⟨z1, z2⟩
    · exact ih (by omega) hi hj z
    · obtain ⟨k, k1, k2, k3⟩ := ih (by omega) hi (by omega) z1
      have z3 := pth_le (by omega : x ≤ n) z2
      refine ⟨k, k1, k2, Or.inr ?_⟩
      rcases k3 with rfl | k3
      · exact z3
      · exact pth_tr (by omega : x < n) k3 z3
/-- reached, or the same -/
def rch (R : Nat → Nat → Bool) (n i j : Nat) : Prop := i = j ∨ pth R n i j = true
theorem rch.rf (i : Nat) : rch R n i i := Or.inl rfl
theorem rch.tr {i k j : Nat} (hk : k < n) (a : rch R n i k) (b : rch R n k j) : rch R n i j := by
  rcases a with rfl | a
  · exact b
  · rcases b with rfl | b
    · exact Or.inr a
    · exact Or.inr (pth_tr hk a b)
theorem rch.e {i j : Nat} (h : R i j = true) : rch R n i j := Or.inr (pth_e h n)
theorem rch.cl {C : Nat → Prop} (h : ∀ i j, i < n → j < n → C i → R i j = true → C j) {i j : Nat} (hi : i < n) (hj : j < n) (hc : C i) (a : rch R n i j) : C j := by
  rcases a with rfl | a
  · exact hc
  · exact pth_cl h (Nat.le_refl n) hi hj hc a
theorem rch.cyc {i j : Nat} (hj : j < n) (hne : i ≠ j) (a : rch R n i j) (b : rch R n j i) : pth R n i i = true := by
  rcases a with rfl | a
  · exact absurd rfl hne
  · rcases b with rfl | b
    · exact absurd rfl hne
    · exact pth_tr hj a b
theorem cnt_up {a b : Nat → Bool} {v : Nat} (h1 : a v = false) (h2 : b v = true) (h3 : ∀ i, i ≠ v → b i = a i) : ∀ n, v < n → (List.range n).countP b = (List.range n).countP a + 1 := by
  have key : ∀ n, n ≤ v → (List.range n).countP b = (List.range n).countP a := by
    intro n
    induction n with
    | zero => intro _; rfl
    | succ n ih =>
      intro hn
      rw [List.range_succ, List.countP_append, List.countP_append, ih (by omega)]
      simp [List.countP_cons, h3 n (by omega)]
  intro n
  induction n with
  | zero => intro h; omega
  | succ n ih =>
    intro hn
    rw [List.range_succ, List.countP_append, List.countP_append]
    by_cases e : v = n
    · subst e
      rw [key v (Nat.le_refl v)]
      simp [List.countP_cons, h1, h2]
    · rw [ih (by omega)]
      simp [List.countP_cons, h3 n (fun z => e z.symm)]
      omega
theorem cnt_or {a b : Nat → Bool} (h : ∀ i, a i = true → b i = false) : ∀ n, (List.range n).countP (fun i => a i || b i) = (List.range n).countP a + (List.range n).countP b := by
  intro n
  induction n with
  | zero => rfl
  | succ n ih =>
    rw [List.range_succ, List.countP_append, List.countP_append, List.countP_append, ih]
    have := h n
    cases ha : a n <;> cases hb : b n <;> simp_all [List.countP_cons] <;> omega
theorem cnt_2 {s : Nat → Bool} {v : Nat} (hv : v < n) (hs : s v = true) : 1 < (List.range n).countP s ↔ ∃ j, j < n ∧ j ≠ v ∧ s j = true := by
  have h1 := cnt_up (a := fun i => s i && !decide (i = v)) (b := s) (v := v) (by simp) hs (fun i hi => by simp [hi]) n hv
  rw [h1]
  have : 1 < (List.range n).countP (fun i => s i && !decide (i = v)) + 1 ↔ 0 < (List.range n).countP (fun i => s i && !decide (i = v)) := by omega
  rw [this, List.countP_pos_iff]
  constructor
  · rintro ⟨j, hj, z⟩
    simp only [Bool.and_eq_true, Bool.not_eq_true', decide_eq_false_iff_not] at z
    exact ⟨j, List.mem_range.mp hj, z.2, z.1⟩
  · rintro ⟨j, hj, z1, z2⟩
    exact ⟨j, List.mem_range.mpr hj, by simp [z1, z2]⟩
theorem cnt_le (s : Nat → Bool) (n : Nat) : (List.range n).countP s ≤ n := by
  have := List.countP_le_length (p := s) (l := List.range n)
  rwa [List.length_range] at this
/-- Warshall's rows: one row of a round, a round up to row y, all rounds below x -/
def ws1 (M : Nat → Nat) (m i : Nat) : Nat → Nat := fun k => if k = i then (if (M i).testBit m = true then M i ||| M m else M i) else M k
def wI (M : Nat → Nat) (m : Nat) : Nat → Nat → Nat
  | 0 => M
  | y + 1 => ws1 (wI M m y) m y
def wO (M : Nat → Nat) (n : Nat) : Nat → Nat → Nat
  | 0 => M
  | x + 1 => wI (wO M n x) x n
theorem wI_m (M : Nat → Nat) (m : Nat) : ∀ y, wI M m y m = M m := by
  intro y
  induction y with
  | zero => rfl
  | succ y ih =>
    show (if m = y then (if (wI M m y y).testBit m = true then wI M m y y ||| wI M m y m else wI M m y y) else wI M m y m) = M m
    by_cases e : m = y
    · subst e
      rw [if_pos rfl, ih, Nat.or_self]
      split <;> rfl
    · rw [if_neg e, ih]
theorem wI_i (M : Nat → Nat) (m : Nat) : ∀ y i, wI M m y i = if i < y ∧ (M i).testBit m = true then M i ||| M m else M i := by
  intro y
  induction y with
  | zero => intro i; rw [if_neg (fun z => Nat.not_lt_zero i z.1)]; rfl
  | succ y ih =>
    intro i
    show (if i = y then (if (wI M m y y).testBit m = true then wI M m y y ||| wI M m y m else wI M m y y) else wI M m y i) = _
    by_cases e : i = y
    · subst e
      have h1 : wI M m i i = M i := by rw [ih, if_neg (fun z => Nat.lt_irrefl i z.1)]
      rw [if_pos rfl, h1, wI_m]
      by_cases e2 : (M i).testBit m = true
      · rw [if_pos e2, if_pos ⟨Nat.lt_succ_self i, e2⟩]
      · rw [if_neg e2, if_neg (fun z => e2 z.2)]
    · rw [if_neg e, ih]
      by_cases e2 : i < y ∧ (M i).testBit m = true
      · rw [if_pos e2, if_pos ⟨by omega, e2.2⟩]
      · rw [if_neg e2, if_neg (fun z => e2 ⟨by omega, z.2⟩)]
theorem wO_tb {M : Nat → Nat} (h : ∀ i j, i < n → j < n → (M i).testBit j = R i j) : ∀ x, x ≤ n → ∀ i j, i < n → j < n → (wO M n x i).testBit j = pth R x i j := by
  intro x
  induction x with
  | zero => intro _ i j hi hj; exact h i j hi hj
  | succ x ih =>
    intro hx i j hi hj
    show (wI (wO M n x) x n i).testBit j = (pth R x i j || (pth R x i x && pth R x x j))
    rw [wI_i]
    have e1 := ih (by omega) i j hi hj
    have e2 := ih (by omega) i x hi (by omega)
    have e3 := ih (by omega) x j (by omega) hj
    by_cases e : (wO M n x i).testBit x = true
    · rw [if_pos ⟨hi, e⟩, Nat.testBit_or, e1, e3, ← e2, e, Bool.true_and]
    · rw [if_neg (fun z => e z.2), e1, ← e2]
      simp [e]
/-- how many nodes lie on a circle -/
def ccl (R : Nat → Nat → Bool) (n : Nat) : Nat := (List.range n).countP (fun i => pth R n i i)
theorem wO_cnt {M : Nat → Nat} (h : ∀ i j, i < n → j < n → (M i).testBit j = R i j) : (List.range n).countP (fun i => (wO M n n i).testBit i) = ccl R n := by
  unfold ccl
  refine List.countP_congr (fun i hi => ?_)
  have hi := List.mem_range.mp hi
  rw [wO_tb h n (Nat.le_refl n) i i hi hi]
theorem wO_lt {M : Nat → Nat} {k : Nat} (h : ∀ i, i < n → M i < 2 ^ k) : ∀ x, x ≤ n → ∀ i, i < n → wO M n x i < 2 ^ k := by
  intro x
  induction x with
  | zero => intro _ i hi; exact h i hi
  | succ x ih =>
    intro hx i hi
    show wI (wO M n x) x n i < 2 ^ k
    rw [wI_i]
    split
    · exact or_lt (ih (by omega) i hi) (ih (by omega) x (by omega))
    · exact ih (by omega) i hi
end CY
