/-! THE MODEL'S QUEUE: a train leaves it -/
section UQ
variable {h g : AH} {A : AG} {G : LG} {f f' : Nat → Int32}
/-- what leaving the queue comes to -/
def uqI (f f' : Nat → Int32) (Q : List Nat) : Prop := f' 5 = nI Q.length ∧ eQ f' Q ∧ ∀ k, k ≠ 5 → k < 273 → f' k = f k
theorem m_unq24 {Q : List Nat} {q : Nat} (hQ : Q.length ≤ 8) (hq : q < Q.length) (s : sM h) {K : AH → Prop} (kk : ∀ g, mf [607] [] h g → uqI (mI h 607) (mI g 607) (Q.eraseIdx q) → K g) : ∀ n x g, x + n + 1 = Q.length → q ≤ x → mf [607] [] h g → (∀ k, k < 273 → mI g 607 k = mI h 607 k) → mI h 607 5 = nI Q.length → (∀ k c, k < x → (Q.eraseIdx q)[k]? = some c → mI g 607 (273 + k) = nI c) → (∀ k c, x ≤ k → Q[k]? = some c → mI g 607 (273 + k) = nI c) → wX10_unqueues_L24 K (n + 1) 606 (nI x) g := by
  intro n
  induction n with
  | zero =>
    intro x g hx hqx cg o e5 h1 h2
    have s' := cg.s s
    have e6 : mI g 607 5 = nI Q.length := (o 5 (by decide)).trans e5
    rw [wX10_unqueues_L24]; dsimp only
    simp (disch := omega) only [s'.o, s'.r1, s'.a7, s'.l7, nz7, nI_add, pk_mul, nI_clamp, nI_leI, nI_ltI, nI_eq, vp_in_nI, e6, true_and, forall_eq]
    rw [nI_sub (by omega)]
    simp (disch := omega) only [nI_add, pk_mul, nI_clamp, nI_leI, nI_ltI, nI_eq, vp_in_nI, mI_up, ups_s, true_and]
    refine ⟨fun _ => ?_, fun z => absurd (by omega) z⟩
    refine kk _ (cg.tr ((mf.ui (by decide) (by decide)).tr (mf.ui (by decide) (by decide)))) ⟨?_, fun k c hk => ?_, fun k h5 hk => ?_⟩
    · rw [mI_up, mI_up, ups_o (by omega), ups_s, List.length_eraseIdx_of_lt hq]
    · have hl := (List.getElem?_eq_some_iff.mp hk).1
      rw [List.length_eraseIdx_of_lt hq] at hl
      rw [mI_up, mI_up, ups_o (by omega), ups_o (by omega)]
      exact h1 k c (by omega) hk
    · rw [mI_up, mI_up, ups_o (by omega), ups_o h5]
      exact o k hk
  | succ n ih =>
    intro x g hx hqx cg o e5 h1 h2
    have s' := cg.s s
    have e6 : mI g 607 5 = nI Q.length := (o 5 (by decide)).trans e5
    rw [wX10_unqueues_L24]; dsimp only
    simp (disch := omega) only [s'.o, s'.r1, s'.a7, s'.l7, nz7, nI_add, pk_mul, nI_clamp, nI_leI, nI_ltI, nI_eq, vp_in_nI, e6, true_and, forall_eq]
    rw [nI_sub (by omega)]
    simp (disch := omega) only [nI_add, pk_mul, nI_clamp, nI_leI, nI_ltI, nI_eq, vp_in_nI, true_and]
    refine ⟨fun z => absurd z (by omega), fun _ => ?_⟩
    have hx1 : Q[x + 1]? = some Q[x + 1] := List.getElem?_eq_getElem (by omega)
    have e7 := h2 (x + 1) _ (by omega) hx1
    rw [← Nat.add_assoc] at e7
    rw [e7]
    refine ih (x + 1) _ (by omega) (by omega) (cg.tr (mf.ui (by decide) (by decide))) (fun k hk => ?_) e5 (fun k c hk hc => ?_) (fun k c hk hc => ?_)
    · rw [mI_up, ups_o (by omega)]; exact o k hk
    · rw [mI_up]
      by_cases e : k = x
      · subst e
        rw [ups_s]
        rw [List.getElem?_eraseIdx_of_ge (by omega), hx1] at hc
        cases hc
        rfl
      · rw [ups_o (by omega)]; exact h1 k c (by omega) hc
    · rw [mI_up, ups_o (by omega)]; exact h2 k c (by omega) hc
theorem m_unqueues {Q : List Nat} {q v : Nat} (hQ : Q.length ≤ 8) (hv : Q[q]? = some v) (hl : ∀ c ∈ Q, c < 2 ^ 31) (hno : ∀ k c, k < q → Q[k]? = some c → c ≠ v) (s : sM h) (e5 : mI h 607 5 = nI Q.length) (eq : eQ (mI h 607) Q) {K : AH → Prop} (kk : ∀ g, mf [607] [] h g → uqI (mI h 607) (mI g 607) (Q.eraseIdx q) → K g) : wX10_unqueues 606 (nI v) h K := by
  have hq := (List.getElem?_eq_some_iff.mp hv).1
  have hvl := hl v (List.mem_of_getElem? hv)
  unfold wX10_unqueues
  refine ⟨q + 1, ?_⟩
  have key : ∀ n x, x + n = q → wX10_unqueues_L2 K (fun x0_5 x2_6 h7 => (∃ n20, wX10_unqueues_L24 K n20 x0_5 x2_6 h7)) (n + 1) 606 (nI v) (nI x) h := by
    intro n
    induction n with
    | zero =>
      intro x hx
      have hx' : x = q := hx
      have e := eq q v hv
      rw [← hx'] at e
      rw [wX10_unqueues_L2]; dsimp only
      simp (disch := omega) only [s.o, s.r1, s.a7, s.l7, nz7, nI_add, pk_mul, nI_clamp, nI_leI, nI_ltI, nI_eq, vp_in_nI, e, true_and]
      refine ⟨fun _ => ⟨(Q.length - q - 1) + 1, ?_⟩, fun z => absurd True.intro z⟩
      refine m_unq24 hQ hq s kk (Q.length - q - 1) x h (by omega) (by omega) (mf.rf _ _ _) (fun _ _ => rfl) e5 (fun k c hk hc => ?_) (fun k c _ hc => eq k c hc)
      rw [List.getElem?_eraseIdx_of_lt (by omega)] at hc
      exact eq k c hc
    | succ n ih =>
      intro x hx
      have hx1 : Q[x]? = some Q[x] := List.getElem?_eq_getElem (by omega)
      have e := eq x _ hx1
      have hne := hno x _ (by omega) hx1
      have hlx := hl _ (List.mem_of_getElem? hx1)
      rw [wX10_unqueues_L2]; dsimp only
      simp (disch := omega) only [s.o, s.r1, s.a7, s.l7, nz7, nI_add, pk_mul, nI_clamp, nI_leI, nI_ltI, nI_eq, vp_in_nI, e, true_and]
      exact ⟨fun z => absurd z hne, fun _ => ih (x + 1) (by omega)⟩
  exact key q 0 (by omega)
end UQ
