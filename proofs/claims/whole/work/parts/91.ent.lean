/-! THE MODEL'S MINUTE: a train enters its next block, or leaves the line -/
def IMm (A : AG) : Prop := IMs A ∧ ∀ t ∈ aT A, tb t ≠ td t ∧ (tr t ≠ [] → (tr t).getLast? = some (td t))
section EN
variable {h g : AH} {A : AG} {G : LG} {f F : Nat → Int32} {j : Nat} {pre post : List TG} {t t' : TG} {P : TG → Bool}
theorem toE_same (h1 : P t' = P t) (h2 : tn t' = tn t) : toE ((pre ++ t' :: post).find? P) = toE ((pre ++ t :: post).find? P) := by
  rw [List.find?_append, List.find?_append, List.find?_cons, List.find?_cons, h1]
  cases pre.find? P with
  | some u => rfl
  | none =>
    cases P t with
    | true => show tn t' + 1 = tn t + 1; rw [h2]
    | false => rfl
theorem toE_out (h1 : P t = false) : toE ((pre ++ post).find? P) = toE ((pre ++ t :: post).find? P) := by
  rw [List.find?_append, List.find?_append, List.find?_cons, h1]
theorem toE_no {T : List TG} (h1 : ∀ u ∈ T, P u = false) : toE (T.find? P) = 0 := (toE_z _).mpr (List.find?_eq_none.mpr (fun u hu => by rw [h1 u hu]; decide))
theorem pw_mid (h : (pre ++ t :: post).Pairwise (fun t u => tn t < tn u ∧ ∀ b ∈ th_ t, b ∉ th_ u)) {u : TG} (hu : u ∈ pre ∨ u ∈ post) {b : Nat} (h1 : b ∈ th_ u) : b ∉ th_ t := by
  obtain ⟨p1, p2, p3⟩ := List.pairwise_append.mp h
  rcases hu with hu | hu
  · exact (p3 u hu t List.mem_cons_self).2 b h1
  · exact fun z => ((List.pairwise_cons.mp p2).1 u hu).2 b z h1
/-- a train moves on -/
def enF (f F : Nat → Int32) (A : AG) (j b c e : Nat) (l : List Nat) (num : Nat) : Prop := (∀ q, q < 281 → q ≠ 9 + 6 * b + 4 → q ≠ 9 + 6 * c + 4 → q ≠ 9 + 6 * c + 5 → (∀ p, (gp (aL A))[p]? = some b → q ≠ 81 + 5 * p + 4) → q ≠ 121 + 19 * j + 1 → q ≠ 121 + 19 * j + 4 → q ≠ 121 + 19 * j + 6 → ¬ (128 + 19 * j ≤ q ∧ q < 140 + 19 * j) → F q = f q) ∧ F (9 + 6 * b + 4) = nI 0 ∧ F (9 + 6 * c + 4) = nI (num + 1) ∧ F (9 + 6 * c + 5) = nI 0 ∧ (∀ p, (gp (aL A))[p]? = some b → F (81 + 5 * p + 4) = nI 0) ∧ F (121 + 19 * j + 1) = nI c ∧ F (121 + 19 * j + 4) = nI (aM A + gl (aL A) e) ∧ F (121 + 19 * j + 6) = nI (l.length + 2) ∧ ∀ k x, (c :: e :: l)[k]? = some x → F (121 + 19 * j + (7 + k)) = nI x
theorem enter_rm (i : IMm A) (r : rm f A) (hT : aT A = pre ++ t :: post) {c e : Nat} {l : List Nat} (hr : tr t = c :: e :: l) (u : enF f F A pre.length (tb t) c e l (tn t)) : rm F (wT A (pre ++ ((tn t, c, td t, e :: l, aM A + gl (aL A) e, tl t) : TG) :: post)) := by
  obtain ⟨i0, im⟩ := i
  have tm_ : t ∈ aT A := by rw [hT]; simp
  have ht : (aT A)[pre.length]? = some t := by rw [hT, List.getElem?_append_right (Nat.le_refl _), Nat.sub_self]; rfl
  generalize hj : pre.length = j at u ht
  obtain ⟨j8, -⟩ := i0.j8 ht
  obtain ⟨⟨t1, t2, t3⟩, nd, htn⟩ := i0.2.2.2.1 t tm_
  obtain ⟨m1, m2⟩ := im t tm_
  have hlast := m2 (by rw [hr]; simp)
  rw [hr] at t3 hlast
  have hth : th_ t = tb t :: c :: e :: l := by unfold th_; rw [hr]
  rw [hth] at nd
  have hcb : c ≠ tb t := fun z => (List.nodup_cons.mp nd).1 (by rw [z]; exact List.mem_cons_self)
  have hcn := t3 c List.mem_cons_self
  have pw := i0.2.2.2.2
  rw [hT] at pw
  have h12 := i0.1.1
  have h8 := i0.1.2.2.2.2.1
  have hq8 := i0.2.2.1
  obtain ⟨uo, ub, uc4, uc5, ul, u1, u4, u6, uw⟩ := u
  obtain ⟨r1, r2, r3, r4, r5, r6⟩ := r
  have p8 : ∀ p y, (gp (aL A))[p]? = some y → p < 8 := fun p y hp => Nat.lt_of_lt_of_le (List.getElem?_eq_some_iff.mp hp).1 h8
  have o : ∀ q, q < 281 → q ≠ 9 + 6 * tb t + 4 → q ≠ 9 + 6 * c + 4 → q ≠ 9 + 6 * c + 5 → (∀ p, p < 8 → q ≠ 81 + 5 * p + 4) → q ≠ 121 + 19 * j + 1 → q ≠ 121 + 19 * j + 4 → q ≠ 121 + 19 * j + 6 → ¬ (128 + 19 * j ≤ q ∧ q < 140 + 19 * j) → F q = f q := fun q a0 a1 a2 a3 a4 a5 a6 a7 a8 => uo q a0 a1 a2 a3 (fun p hp => a4 p (p8 p _ hp)) a5 a6 a7 a8
  have oh : ∀ q, q < 9 → F q = f q := fun q hq => o q (by omega) (by omega) (by omega) (by omega) (by omega) (by omega) (by omega) (by omega) (by omega)
  generalize ht' : ((tn t, c, td t, e :: l, aM A + gl (aL A) e, tl t) : TG) = t'
  have n' : tn t' = tn t := by rw [← ht']; rfl
  have b' : tb t' = c := by rw [← ht']; rfl
  have d' : td t' = td t := by rw [← ht']; rfl
  have r' : tr t' = e :: l := by rw [← ht']; rfl
  have th' : th_ t' = c :: e :: l := by unfold th_; rw [b', r']
  have hl' : (pre ++ t' :: post).length = (aT A).length := by rw [hT]; simp
  have L : ∀ P : TG → Bool, P t' = P t → toE ((pre ++ t' :: post).find? P) = toE ((aT A).find? P) := fun P hP => by rw [hT]; exact toE_same hP n'
  refine ⟨?_, ?_, ?_, ?_, ⟨fun b hb => ⟨?_, ?_⟩, fun p hp => ?_⟩, ?_⟩
  · have := r1.cg (f' := F) oh
    obtain ⟨a0, a1, a2, a3, a4, a5, a6, a7, a8⟩ := this
    exact ⟨a0, a1, a2, a3, by rw [a4, ← hl']; rfl, a5, a6, a7, a8⟩
  · exact eB.cg (G := aL A) r2 (fun b k hb hk => o _ (by omega) (by omega) (by omega) (by omega) (by omega) (by omega) (by omega) (by omega) (by omega))
  · exact eP.cg (G := aL A) r3 (fun p k hp hk => o _ (by omega) (by omega) (by omega) (by omega) (by omega) (by omega) (by omega) (by omega) (by omega))
  · intro i' hi'
    refine ⟨fun u' hu' => ?_, fun z => ?_⟩
    · have hu2 : (pre ++ t' :: post)[i']? = some u' := hu'
      by_cases e9 : i' = j
      · subst e9
        rw [← hj, List.getElem?_append_right (Nat.le_refl _), Nat.sub_self] at hu2
        have : t' = u' := by simpa using hu2
        subst this
        obtain ⟨a0, -, a2, a3, -, a5, -, -⟩ := (r4 i' hi').1 t ht
        refine ⟨?_, by rw [u1, b'], ?_, ?_, fun _ => by rw [u4, ← ht']; rfl, ?_, ?_, fun _ k x hk => uw k x (by rw [th'] at hk; exact hk)⟩
        · rw [o _ (by omega) (by omega) (by omega) (by omega) (by omega) (by omega) (by omega) (by omega) (by omega), n']; exact a0
        · rw [o _ (by omega) (by omega) (by omega) (by omega) (by omega) (by omega) (by omega) (by omega) (by omega), d']; exact a2
        · rw [o _ (by omega) (by omega) (by omega) (by omega) (by omega) (by omega) (by omega) (by omega) (by omega), a3, r', hr]; simp
        · rw [o _ (by omega) (by omega) (by omega) (by omega) (by omega) (by omega) (by omega) (by omega) (by omega), a5, ← ht']; rfl
        · rw [u6, r']; simp
      · have hu3 : (aT A)[i']? = some u' := by
          rw [hT]
          by_cases z : i' < pre.length
          · rw [List.getElem?_append_left z] at hu2 ⊢; exact hu2
          · rw [List.getElem?_append_right (by omega)] at hu2 ⊢
            obtain ⟨k9, hk9⟩ : ∃ k9, i' - pre.length = k9 + 1 := ⟨i' - pre.length - 1, by omega⟩
            rw [hk9, List.getElem?_cons_succ] at hu2 ⊢
            exact hu2
        exact ((r4 i' hi').1 u' hu3).cg (i0.th (List.mem_of_getElem? hu3)) (fun k hk => o _ (by omega) (by omega) (by omega) (by omega) (by omega) (by omega) (by omega) (by omega) (by omega))
    · have z2 : (aT A).length ≤ i' := by rw [← hl']; exact z
      have hjl := (List.getElem?_eq_some_iff.mp ht).1
      rw [o _ (by omega) (by omega) (by omega) (by omega) (by omega) (by omega) (by omega) (by omega) (by omega), o _ (by omega) (by omega) (by omega) (by omega) (by omega) (by omega) (by omega) (by omega) (by omega), o _ (by omega) (by omega) (by omega) (by omega) (by omega) (by omega) (by omega) (by omega) (by omega)]
      exact (r4 i' hi').2 z2
  · show _ = nI (toE ((pre ++ t' :: post).find? (fun t => decide (tb t = b))))
    have other : ∀ u, (u ∈ pre ∨ u ∈ post) → tb u ∉ th_ t := fun u hu => pw_mid pw hu List.mem_cons_self
    by_cases e1 : b = tb t
    · rw [e1, ub]
      congr 1
      refine (toE_no (fun u hu => decide_eq_false (fun z => ?_))).symm
      rcases List.mem_append.mp hu with hu | hu
      · exact other u (Or.inl hu) (by rw [z, hth]; exact List.mem_cons_self)
      · rcases List.mem_cons.mp hu with rfl | hu
        · rw [b'] at z; exact hcb z
        · exact other u (Or.inr hu) (by rw [z, hth]; exact List.mem_cons_self)
    · by_cases e2 : b = c
      · rw [e2, uc4, ← n']
        congr 1
        refine (toE_of (t := t') (by simp) (decide_eq_true b') (fun u hu hP => ?_)).symm
        have hP := of_decide_eq_true hP
        rcases List.mem_append.mp hu with hu | hu
        · exact absurd (by rw [hP, hth]; simp) (other u (Or.inl hu))
        · rcases List.mem_cons.mp hu with rfl | hu
          · rfl
          · exact absurd (by rw [hP, hth]; simp) (other u (Or.inr hu))
      · rw [o _ (by omega) (by omega) (by omega) (by omega) (by omega) (by omega) (by omega) (by omega) (by omega), (r5.1 b hb).1, L _ (by
          have h1 : ¬ tb t' = b := fun z => e2 (by rw [← z, b'])
          have h2 : ¬ tb t = b := fun z => e1 z.symm
          simp only [h1, h2])]
        rfl
  · show _ = nI (toE ((pre ++ t' :: post).find? (fun t => decide (b ∈ tr t))))
    by_cases e2 : b = c
    · rw [e2, uc5]
      congr 1
      refine (toE_no (fun u hu => decide_eq_false (fun z => ?_))).symm
      have other : ∀ u, (u ∈ pre ∨ u ∈ post) → c ∈ tr u → False := fun u hu hc => pw_mid pw hu (List.mem_cons_of_mem _ hc) (by rw [hth]; simp)
      rcases List.mem_append.mp hu with hu | hu
      · exact other u (Or.inl hu) z
      · rcases List.mem_cons.mp hu with rfl | hu
        · rw [r'] at z
          exact (List.nodup_cons.mp (List.nodup_cons.mp nd).2).1 z
        · exact other u (Or.inr hu) z
    · rw [o _ (by omega) (by omega) (by omega) (by omega) (by omega) (by omega) (by omega) (by omega) (by omega), (r5.1 b hb).2, L _ (by
        have : (b ∈ tr t') = (b ∈ tr t) := by rw [r', hr]; simp [e2]
        simp only [this])]
      rfl
  · unfold lcE
    show _ = nI (lqE (wT A (pre ++ t' :: post)) (gp (aL A))[p]?)
    have r5p := r5.2 p hp
    unfold lcE at r5p
    cases hy : (gp (aL A))[p]? with
    | none =>
      rw [uo _ (by omega) (by omega) (by omega) (by omega) (fun p' hp' z => by
        have : p' = p := by omega
        rw [this, hy] at hp'
        cases hp') (by omega) (by omega) (by omega) (by omega), r5p, hy]
      rfl
    | some y =>
      show _ = nI (toE ((pre ++ t' :: post).find? _))
      by_cases e1 : y = tb t
      · rw [ul p (by rw [hy, e1])]
        congr 1
        refine (toE_no (fun u hu => decide_eq_false (fun z => ?_))).symm
        have other : ∀ u, (u ∈ pre ∨ u ∈ post) → y ∈ th_ u → False := fun u hu hc => pw_mid pw hu hc (by rw [e1, hth]; simp)
        rcases List.mem_append.mp hu with hu | hu
        · exact other u (Or.inl hu) z.2.2
        · rcases List.mem_cons.mp hu with rfl | hu
          · have := z.2.2
            rw [th', e1] at this
            exact (List.nodup_cons.mp nd).1 this
          · exact other u (Or.inr hu) z.2.2
      · rw [uo _ (by omega) (by omega) (by omega) (by omega) (fun p' hp' z => by
          have : p' = p := by omega
          rw [this, hy] at hp'
          exact e1 (Option.some.inj hp')) (by omega) (by omega) (by omega) (by omega), r5p, hy]
        show nI (toE ((aT A).find? _)) = _
        rw [L _ (by
          have : (tr t' ≠ [] ∧ y ≠ td t' ∧ y ∈ th_ t') = (tr t ≠ [] ∧ y ≠ td t ∧ y ∈ th_ t) := by rw [r', hr, d', th', hth]; simp [e1]
          simp only [this])]
  · exact r6.cg hq8 (fun i hi => o _ (by omega) (by omega) (by omega) (by omega) (by omega) (by omega) (by omega) (by omega) (by omega))
end EN
