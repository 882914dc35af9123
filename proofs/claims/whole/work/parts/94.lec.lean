/-! THE MODEL'S MINUTE: the run of leaving -/
def lvF (f F : Nat → Int32) (j n m : Nat) : Prop := (∀ q, (q < 121 ∨ 273 ≤ q) → q ≠ 4 → q ≠ 7 → F q = f q) ∧ F 4 = nI (n - 1) ∧ F 7 = nI (m + 1) ∧ (∀ i k, k < 19 → i < j → F (121 + 19 * i + k) = f (121 + 19 * i + k)) ∧ (∀ i k, k < 19 → j ≤ i → i + 1 < n → F (121 + 19 * i + k) = f (121 + 19 * (i + 1) + k)) ∧ (∀ k, k < 19 → F (121 + 19 * (n - 1) + k) = nI 0) ∧ ∀ i k, k < 19 → n ≤ i → i < 8 → F (121 + 19 * i + k) = f (121 + 19 * i + k)
section LC
variable {h g : AH} {j n m : Nat}
theorem m_lv51 (s : sM h) (hn : 1 ≤ n) (h8 : n ≤ 8) {X : AH → Prop} (kk : ∀ g, mf [607] [] h g → (∀ q, ¬ (121 + 19 * (n - 1) ≤ q ∧ q < 121 + 19 * (n - 1) + 19) → mI g 607 q = mI h 607 q) → (∀ k, k < 19 → mI g 607 (121 + 19 * (n - 1) + k) = nI 0) → wX10_leaves_L51 X 1 606 (nI (n - 1)) (nI 19) g) : ∀ d x g, x + d = 19 → mf [607] [] h g → (∀ q, ¬ (121 + 19 * (n - 1) ≤ q ∧ q < 121 + 19 * (n - 1) + 19) → mI g 607 q = mI h 607 q) → (∀ k, k < x → mI g 607 (121 + 19 * (n - 1) + k) = nI 0) → wX10_leaves_L51 X (d + 1) 606 (nI (n - 1)) (nI x) g := by
  intro d
  induction d with
  | zero =>
    intro x g hx cg o z
    have e : x = 19 := hx
    subst e
    exact kk g cg o z
  | succ d ih =>
    intro x g hx cg o z
    have s' := cg.s s
    rw [wX10_leaves_L51]; dsimp only
    simp (disch := omega) only [s'.o, s'.r1, s'.a7, s'.l7, nz7, nI_add, pk_mul, nI_clamp, nI_leI, nI_ltI, nI_eq, vp_in_nI, true_and, forall_eq]
    refine ⟨fun z => absurd z (by omega), fun _ => ?_⟩
    refine ih (x + 1) _ (by omega) (cg.tr (mf.ui (by decide) (by decide))) (fun q hq => ?_) (fun k hk => ?_)
    · rw [mI_up, ups_o (by omega)]; exact o q hq
    · rw [mI_up]
      by_cases e : k = x
      · rw [e, ups_s]
      · rw [ups_o (by omega)]; exact z k (by omega)
theorem m_lv14 (s : sM h) (hn : 1 ≤ n) (h8 : n ≤ 8) (hj : j < n) {X : AH → Prop} {c : Nat → Int32 → AH → Prop} (kk : ∀ g, mf [607] [] h g → (∀ q, (q < 121 + 19 * j ∨ 121 + 19 * (n - 1) ≤ q) → mI g 607 q = mI h 607 q) → (∀ q, 121 + 19 * j ≤ q → q < 121 + 19 * (n - 1) → mI g 607 q = mI h 607 (q + 19)) → c 606 (nI (n - 1)) g) : ∀ d x g, x + d = 19 * (n - 1) → 19 * j ≤ x → mf [607] [] h g → (∀ q, (q < 121 + 19 * j ∨ 121 + x ≤ q) → mI g 607 q = mI h 607 q) → (∀ q, 121 + 19 * j ≤ q → q < 121 + x → mI g 607 q = mI h 607 (q + 19)) → wX10_leaves_L14 X c (d + 1) 606 (nI (n - 1)) (nI x) g := by
  intro d
  induction d with
  | zero =>
    intro x g hx hjx cg o z
    have e : x = 19 * (n - 1) := hx
    rw [wX10_leaves_L14]; dsimp only
    simp (disch := omega) only [nI_add, pk_mul, nI_clamp, nI_leI, nI_ltI, nI_eq, vp_in_nI]
    exact ⟨fun _ => kk g cg (fun q hq => o q (by omega)) (fun q h1 h2 => z q h1 (by omega)), fun z => absurd (by omega) z⟩
  | succ d ih =>
    intro x g hx hjx cg o z
    have s' := cg.s s
    have e1 : mI g 607 (121 + x + 19) = mI h 607 (121 + x + 19) := o _ (by omega)
    rw [wX10_leaves_L14]; dsimp only
    simp (disch := omega) only [s'.o, s'.r1, s'.a7, s'.l7, nz7, nI_add, pk_mul, nI_clamp, nI_leI, nI_ltI, nI_eq, vp_in_nI, true_and, forall_eq, e1]
    refine ⟨fun z => absurd z (by omega), fun _ => ?_⟩
    refine ih (x + 1) _ (by omega) (by omega) (cg.tr (mf.ui (by decide) (by decide))) (fun q hq => ?_) (fun q h1 h2 => ?_)
    · rw [mI_up, ups_o (by omega)]; exact o q (by omega)
    · rw [mI_up]
      by_cases e : q = 121 + x
      · rw [e, ups_s]
      · rw [ups_o e]; exact z q h1 (by omega)
theorem m_leaves (s : sM h) (h8 : n ≤ 8) (hj : j < n) (hm : m < 2 ^ 30) (e4 : mI h 607 4 = nI n) (e7 : mI h 607 7 = nI m) {K : AH → Prop} (kk : ∀ g, mf [607] [] h g → lvF (mI h 607) (mI g 607) j n m → K g) : wX10_leaves 606 (nI j) h K := by
  unfold wX10_leaves
  simp (disch := omega) only [s.o, s.r1, s.a7, s.l7, nz7, nI_add, pk_mul, nI_clamp, nI_leI, nI_ltI, nI_eq, vp_in_nI, true_and, forall_eq, e4]
  rw [nI_sub (by omega)]
  refine ⟨19 * (n - 1) - 19 * j + 1, ?_⟩
  refine m_lv14 s (by omega) h8 hj (fun g1 c1 o1 z1 => ⟨20, ?_⟩) (19 * (n - 1) - 19 * j) (19 * j) h (by omega) (by omega) (mf.rf _ _ _) (fun _ _ => rfl) (fun q h1 h2 => absurd h1 (by omega))
  have s1 := c1.s s
  refine m_lv51 s1 (by omega) h8 (fun g2 c2 o2 z2 => ?_) 19 0 g1 (by omega) (mf.rf _ _ _) (fun _ _ => rfl) (fun k hk => absurd hk (by omega))
  have s2 := c2.s s1
  have y7 : mI g2 607 7 = nI m := by rw [o2 7 (by omega), o1 7 (by omega)]; exact e7
  rw [wX10_leaves_L51]; dsimp only
  simp (disch := omega) only [s2.o, s2.r1, s2.a7, s2.l7, nz7, nI_add, pk_mul, nI_clamp, nI_leI, nI_ltI, nI_eq, vp_in_nI, true_and, forall_eq, mI_up, ups_o, y7]
  refine ⟨fun _ => ?_, fun z => absurd (Nat.le_refl _) z⟩
  refine kk _ (c1.tr (c2.tr ((mf.ui (by decide) (by decide)).tr (mf.ui (by decide) (by decide))))) ⟨fun q h1 h4 h7 => ?_, ?_, ?_, fun i k hk hi => ?_, fun i k hk h1 h2 => ?_, fun k hk => ?_, fun i k hk h1 h2 => ?_⟩
  · rw [mI_up, mI_up, ups_o h7, ups_o h4, o2 q (by omega), o1 q (by omega)]
  · rw [mI_up, mI_up, ups_o (by omega), ups_s]
  · rw [mI_up, ups_s]
  · rw [mI_up, mI_up, ups_o (by omega), ups_o (by omega), o2 _ (by omega), o1 _ (by omega)]
  · rw [mI_up, mI_up, ups_o (by omega), ups_o (by omega), o2 _ (by omega), z1 _ (by omega) (by omega)]
    congr 1
    omega
  · rw [mI_up, mI_up, ups_o (by omega), ups_o (by omega)]; exact z2 k hk
  · rw [mI_up, mI_up, ups_o (by omega), ups_o (by omega), o2 _ (by omega), o1 _ (by omega)]
end LC
