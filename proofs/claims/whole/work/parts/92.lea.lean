/-! THE MODEL'S MINUTE: a train leaves the line -/
section LV
variable {h g : AH} {A : AG} {G : LG} {f F : Nat → Int32} {j : Nat} {pre post : List TG} {t t' : TG} {P : TG → Bool}
theorem eTr.sh {i i2 : Nat} {t : TG} (r : eTr f i2 t) (hl : (th_ t).length ≤ 12) (e : ∀ k, k < 19 → F (121 + 19 * i + k) = f (121 + 19 * i2 + k)) : eTr F i t := by
  obtain ⟨r0, r1, r2, r3, r4, r5, r6, r7⟩ := r
  refine ⟨by rw [e 0 (by decide)]; exact r0, by rw [e 1 (by decide)]; exact r1, by rw [e 2 (by decide)]; exact r2, by rw [e 3 (by decide)]; exact r3, by rw [e 4 (by decide)]; exact r4, by rw [e 5 (by decide)]; exact r5, by rw [e 6 (by decide)]; exact r6, fun hn k c hk => ?_⟩
  have := (List.getElem?_eq_some_iff.mp hk).1
  rw [e (7 + k) (by omega)]
  exact r7 hn k c hk
/-- a train has left -/
def leF (f F : Nat → Int32) (A : AG) (j b c n : Nat) : Prop := (∀ q, q < 281 → (q < 121 ∨ 273 ≤ q) → q ≠ 4 → q ≠ 7 → q ≠ 9 + 6 * b + 4 → q ≠ 9 + 6 * c + 5 → (∀ p, (gp (aL A))[p]? = some b → q ≠ 81 + 5 * p + 4) → F q = f q) ∧ F 4 = nI (n - 1) ∧ F 7 = nI (aO A + 1) ∧ F (9 + 6 * b + 4) = nI 0 ∧ F (9 + 6 * c + 5) = nI 0 ∧ (∀ p, (gp (aL A))[p]? = some b → F (81 + 5 * p + 4) = nI 0) ∧ (∀ i k, k < 19 → i < j → F (121 + 19 * i + k) = f (121 + 19 * i + k)) ∧ (∀ i k, k < 19 → j ≤ i → i + 1 < n → F (121 + 19 * i + k) = f (121 + 19 * (i + 1) + k)) ∧ (∀ k, k < 19 → F (121 + 19 * (n - 1) + k) = nI 0) ∧ ∀ i k, k < 19 → n ≤ i → i < 8 → F (121 + 19 * i + k) = f (121 + 19 * i + k)
theorem leave_rm (i : IMm A) (r : rm f A) (hT : aT A = pre ++ t :: post) (hr : tr t = [td t]) (u : leF f F A pre.length (tb t) (td t) (aT A).length) : rm F (aL A, pre ++ post, aQ A, aC A, aO A + 1, aM A, aD A) := by
  obtain ⟨i0, im⟩ := i
  have tm_ : t ∈ aT A := by rw [hT]; simp
  have ht : (aT A)[pre.length]? = some t := by rw [hT, List.getElem?_append_right (Nat.le_refl _), Nat.sub_self]; rfl
  generalize hj : pre.length = j at u ht
  obtain ⟨j8, -⟩ := i0.j8 ht
  have hjl := (List.getElem?_eq_some_iff.mp ht).1
  obtain ⟨⟨t1, t2, t3⟩, nd, htn⟩ := i0.2.2.2.1 t tm_
  obtain ⟨m1, m2⟩ := im t tm_
  have hth : th_ t = [tb t, td t] := by unfold th_; rw [hr]
  have pw := i0.2.2.2.2
  rw [hT] at pw
  have h12 := i0.1.1
  have h8 := i0.1.2.2.2.2.1
  have hq8 := i0.2.2.1
  have hT8 := i0.2.1
  obtain ⟨uo, u4, u7, ub, uc, ul, ra, rb, rc, rd⟩ := u
  obtain ⟨r1, r2, r3, r4, r5, r6⟩ := r
  have p8 : ∀ p y, (gp (aL A))[p]? = some y → p < 8 := fun p y hp => Nat.lt_of_lt_of_le (List.getElem?_eq_some_iff.mp hp).1 h8
  have o : ∀ q, q < 281 → (q < 121 ∨ 273 ≤ q) → q ≠ 4 → q ≠ 7 → q ≠ 9 + 6 * tb t + 4 → q ≠ 9 + 6 * td t + 5 → (∀ p, p < 8 → q ≠ 81 + 5 * p + 4) → F q = f q := fun q a0 a1 a2 a3 a4 a5 a6 => uo q a0 a1 a2 a3 a4 a5 (fun p hp => a6 p (p8 p _ hp))
  have hl' : (pre ++ post).length + 1 = (aT A).length := by rw [hT]; simp; omega
  have L : ∀ P : TG → Bool, P t = false → toE ((pre ++ post).find? P) = toE ((aT A).find? P) := fun P hP => by rw [hT]; exact toE_out hP
  have mem : ∀ u, u ∈ pre ++ post → (u ∈ pre ∨ u ∈ post) := fun u hu => List.mem_append.mp hu
  refine ⟨⟨?_, ?_, ?_, ?_, ?_, ?_, ?_, ?_, ?_⟩, ?_, ?_, ?_, ⟨fun b hb => ⟨?_, ?_⟩, fun p hp => ?_⟩, ?_⟩
  · rw [o 0 (by omega) (by omega) (by omega) (by omega) (by omega) (by omega) (by omega)]; exact r1.1
  · rw [o 1 (by omega) (by omega) (by omega) (by omega) (by omega) (by omega) (by omega)]; exact r1.2.1
  · rw [o 2 (by omega) (by omega) (by omega) (by omega) (by omega) (by omega) (by omega)]; exact r1.2.2.1
  · rw [o 3 (by omega) (by omega) (by omega) (by omega) (by omega) (by omega) (by omega)]; exact r1.2.2.2.1
  · rw [u4]
    show _ = nI (pre ++ post).length
    congr 1
    omega
  · rw [o 5 (by omega) (by omega) (by omega) (by omega) (by omega) (by omega) (by omega)]; exact r1.2.2.2.2.2.1
  · rw [o 6 (by omega) (by omega) (by omega) (by omega) (by omega) (by omega) (by omega)]; exact r1.2.2.2.2.2.2.1
  · exact u7
  · rw [o 8 (by omega) (by omega) (by omega) (by omega) (by omega) (by omega) (by omega)]; exact r1.2.2.2.2.2.2.2.2
  · exact eB.cg (G := aL A) r2 (fun b k hb hk => o _ (by omega) (by omega) (by omega) (by omega) (by omega) (by omega) (by omega))
  · exact eP.cg (G := aL A) r3 (fun p k hp hk => o _ (by omega) (by omega) (by omega) (by omega) (by omega) (by omega) (by omega))
  · intro i' hi'
    refine ⟨fun u' hu' => ?_, fun z => ?_⟩
    · have hu2 : (pre ++ post)[i']? = some u' := hu'
      have hil := (List.getElem?_eq_some_iff.mp hu2).1
      by_cases e9 : i' < j
      · have hu3 : (aT A)[i']? = some u' := by
          rw [hT]
          rw [List.getElem?_append_left (by omega)] at hu2 ⊢
          exact hu2
        exact ((r4 i' hi').1 u' hu3).sh (i0.th (List.mem_of_getElem? hu3)) (fun k hk => ra i' k hk e9)
      · have hu3 : (aT A)[i' + 1]? = some u' := by
          rw [hT]
          rw [List.getElem?_append_right (by omega)] at hu2 ⊢
          rw [show i' + 1 - pre.length = (i' - pre.length) + 1 by omega, List.getElem?_cons_succ]
          exact hu2
        exact ((r4 (i' + 1) (by omega)).1 u' hu3).sh (i0.th (List.mem_of_getElem? hu3)) (fun k hk => rb i' k hk (by omega) (by omega))
    · have z2 : (pre ++ post).length ≤ i' := z
      by_cases e9 : i' = (aT A).length - 1
      · rw [e9]
        exact ⟨rc 3 (by decide), rc 5 (by decide), rc 6 (by decide)⟩
      · rw [rd i' 3 (by decide) (by omega) hi', rd i' 5 (by decide) (by omega) hi', rd i' 6 (by decide) (by omega) hi']
        exact (r4 i' hi').2 (by omega)
  · show _ = nI (toE ((pre ++ post).find? (fun t => decide (tb t = b))))
    by_cases e1 : b = tb t
    · rw [e1, ub]
      congr 1
      exact (toE_no (fun u hu => decide_eq_false (fun z => pw_mid pw (mem u hu) List.mem_cons_self (by rw [z, hth]; simp)))).symm
    · rw [o _ (by omega) (by omega) (by omega) (by omega) (by omega) (by omega) (by omega), (r5.1 b hb).1, L _ (decide_eq_false (fun z => e1 z.symm))]
      rfl
  · show _ = nI (toE ((pre ++ post).find? (fun t => decide (b ∈ tr t))))
    by_cases e2 : b = td t
    · rw [e2, uc]
      congr 1
      exact (toE_no (fun u hu => decide_eq_false (fun z => pw_mid pw (mem u hu) (List.mem_cons_of_mem _ z) (by rw [hth]; simp)))).symm
    · rw [o _ (by omega) (by omega) (by omega) (by omega) (by omega) (by omega) (by omega), (r5.1 b hb).2, L _ (decide_eq_false (fun z => e2 (by rw [hr] at z; simpa using z)))]
      rfl
  · unfold lcE
    show _ = nI (lqE (aL A, pre ++ post, aQ A, aC A, aO A + 1, aM A, aD A) (gp (aL A))[p]?)
    have r5p := r5.2 p hp
    unfold lcE at r5p
    cases hy : (gp (aL A))[p]? with
    | none =>
      rw [uo _ (by omega) (by omega) (by omega) (by omega) (by omega) (by omega) (fun p' hp' z => by
        have : p' = p := by omega
        rw [this, hy] at hp'
        cases hp'), r5p, hy]
      rfl
    | some y =>
      show _ = nI (toE ((pre ++ post).find? _))
      by_cases e1 : y = tb t
      · rw [ul p (by rw [hy, e1])]
        congr 1
        exact (toE_no (fun u hu => decide_eq_false (fun z => pw_mid pw (mem u hu) z.2.2 (by rw [e1, hth]; simp)))).symm
      · rw [uo _ (by omega) (by omega) (by omega) (by omega) (by omega) (by omega) (fun p' hp' z => by
          have : p' = p := by omega
          rw [this, hy] at hp'
          exact e1 (Option.some.inj hp')), r5p, hy]
        show nI (toE ((aT A).find? _)) = _
        rw [L _ (decide_eq_false (fun z => by
          have := z.2.2
          rw [hth] at this
          simp [e1, z.2.1] at this))]
  · exact r6.cg hq8 (fun i hi => o _ (by omega) (by omega) (by omega) (by omega) (by omega) (by omega) (by omega))
end LV
