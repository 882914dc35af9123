/-! THE CLASS'S MINUTES: the queue's loop -/
section QV
variable {h : AH} {S a : Nat} {A : AG} {G : LG}
theorem rpS.del (p : rpS h S A) {d : Nat} : rpS (uL h S 8 (lN d)) S (aL A, aT A, aQ A, aC A, aO A, aM A, d) := by
  obtain ⟨s, r, c1, c2, c3, c4, c5, c6, c7, c8, c9, c10⟩ := p
  refine ⟨s, r.uL (by omega), c1, c2, c3, c4, c5, ?_, c7, c8, c9, c10⟩
  simp [mL_uL, aD]
theorem rpS.qset (p : rpS h S A) {y v : Nat} (hy : y < (aQ A).length) : rpS (uI h (S + 34) y (nI v)) S (wQ A ((aQ A).set y v)) := by
  obtain ⟨s, r, c1, c2, c3, c4, c5, c6, c7, c8, c9, c10⟩ := p
  have ch : chi (S + 34) (S + 35) h (uI h (S + 34) y (nI v)) := chi.uI (by omega) (by omega)
  refine ⟨s.ch ch, r.uI (by omega), ?_, ?_, ?_, ?_, ?_, c6, fun i t ht => ?_, fun i q hq => ?_, c9, ?_⟩
  · rw [mI_o (by omega)]; exact c1
  · rw [mI_o (by omega), c2]
    show _ = nI ((aQ A).set y v).length
    rw [List.length_set]
  · rw [mI_o (by omega)]; exact c3
  · rw [mI_o (by omega)]; exact c4
  · rw [mI_o (by omega)]; exact c5
  · have hi : i < 8 := Nat.lt_of_lt_of_le (List.getElem?_eq_some_iff.mp ht).1 c9
    have := s.tR hi
    exact (c7 i t ht).ch (by rw [mI_o (by omega)])
  · have hq2 : ((aQ A).set y v)[i]? = some q := hq
    rw [List.getElem?_set] at hq2
    by_cases e : y = i
    · subst e
      rw [if_pos rfl, if_pos hy] at hq2
      cases hq2
      simp [mI_uI]
    · rw [if_neg e] at hq2
      have e' : ¬ i = y := fun z => e z.symm
      simp only [mI_uI, e', and_false, if_false]
      exact c8 i q hq2
  · show ((aQ A).set y v).length ≤ 8
    rw [List.length_set]; exact c10
theorem cons_l {n : Nat} : ∀ (rest : List Nat) (x y : Nat) (g : AH) (B : AG) (Q : List Nat) (K : AH → Prop), rpS g S (wQ B Q) → IQ B → Q.length = n → x + rest.length = n → (∀ i q, rest[i]? = some q → Q[x + i]? = some q) → y ≤ x → (∀ q ∈ rest, q < 2 ^ 31) → (∀ g', chg S (S + 43) g g' → rpS g' S (wQ (qGo B rest).1 (Q.take y ++ (qGo B rest).2)) → K g') → wX7_considerQueue_L4 K (rest.length + 1) S (nI y) (nI x) g := by
  intro rest
  induction rest with
  | nil =>
    intro x y g B Q K p i hQ hx hr hy hq k
    have h8 : Q.length ≤ 8 := p.2.2.2.2.2.2.2.2.2.2.2
    have e4 : mI g S 4 = nI n := by rw [p.2.2.2.1]; show nI Q.length = _; rw [hQ]
    simp only [List.length_nil, Nat.add_zero] at hx
    subst hx
    rw [wX7_considerQueue_L4]; dsimp only; rw [e4]
    refine ⟨p.1.o, fun _ h3 e => ?_, fun z => absurd (nI_le (Nat.le_refl _) (by omega)) z⟩
    subst e
    have hl : (Q.take y).length = y := by rw [List.length_take]; omega
    have := p.que (Q := Q.take y) (chi.rf _ _ g) (by omega) (fun i q hi => p.q (by
      rw [List.getElem?_take] at hi
      by_cases e : i < y
      · rw [if_pos e] at hi; exact hi
      · rw [if_neg e] at hi; cases hi))
    rw [hl] at this
    refine k _ (chg.uI (by omega) (by omega)) ?_
    simp only [qGo, List.append_nil]
    exact this
  | cons num rest ih =>
    intro x y g B Q K p i hQ hx hr hy hq k
    have h8 : Q.length ≤ 8 := p.2.2.2.2.2.2.2.2.2.2.2
    have e4 : mI g S 4 = nI n := by rw [p.2.2.2.1]; show nI Q.length = _; rw [hQ]
    simp only [List.length_cons] at hx ⊢
    have e1 : mI g (S + 34) x = nI num := p.q (hr 0 num rfl)
    have hnum := hq num List.mem_cons_self
    have hr' : ∀ i q, rest[i]? = some q → Q[x + 1 + i]? = some q := fun i q hi => by
      have := hr (i + 1) q hi
      rw [show x + (i + 1) = x + 1 + i by omega] at this
      exact this
    have hq' : ∀ q ∈ rest, q < 2 ^ 31 := fun q hm => hq q (List.mem_cons_of_mem _ hm)
    have it : IT (wQ B Q) := i.1
    rw [wX7_considerQueue_L4]; dsimp only; rw [e4]
    refine ⟨p.1.o, fun z => absurd z (nI_ge (by omega) (by omega)), fun _ => ?_⟩
    simp (disch := omega) only [p.1.o, p.1.m0, p.1.m1, p.1.m2, p.1.a33, p.1.l33, p.1.a34, p.1.l34, p.1.lg.o, nI_clamp, vp_in_nI, e1, true_and]
    refine c_find p it (fun c hc => ?_)
    unfold fr_ at hc
    cases hf : fnd (wQ B Q) (nI num) with
    | none =>
      rw [hf] at hc
      have hc' : c = 0 := hc
      subst hc'
      have hf' : fnd B (nI num) = none := hf
      unfold wX7_considerQueue_J43
      simp only [not_true_eq_false, false_implies, and_true, true_and, forall_const, nI_add]
      refine ih (x + 1) y g B Q K p i hQ (by omega) hr' (by omega) hq' (fun g' c' p' => k g' c' ?_)
      simp only [qGo, hf']
      exact p'
    | some t =>
      rw [hf] at hc
      obtain ⟨j, hj, htj, rfl⟩ := hc
      have hf' : fnd B (nI num) = some t := hf
      obtain ⟨hm, hx9⟩ := fnd_mem hf'
      have htn : tn t = num := by
        have := i.2.2 t hm
        rw [nI_eq this hnum] at hx9
        exact hx9
      have htr := p.1.tR hj
      have q := p.t htj
      have hO := p.1.tO hj
      have htB : (aT B)[j]? = some t := htj
      have hu : ∀ j' u, (aT B)[j']? = some u → tn u = tn t → j' = j := fun j' u hu' e => i.2.1 j j' t u htB hu' e
      simp only [show ¬ mR g (S + 33) j = 0 by omega, not_false_eq_true, false_implies, true_and, forall_const]
      refine ⟨p.1.o, c_canSet p it htj ?_⟩
      by_cases e2 : can B t = true
      · have e2' : can (wQ B Q) t = true := e2
        rw [if_pos e2']
        simp only [n0_eq, n1_ne, Nat.one_ne_zero, not_false_eq_true, false_implies, true_and, forall_const, p.1.o]
        have hn := (can_nx e2).2
        refine c_reserveRoute p it htj hu hn (fun g2 c2 _ _ p2 => ?_)
        rw [nI_add]
        refine ih (x + 1) y g2 (setT B t) Q K p2 (i.setT p.2.1.1.2.2 p.2.1.2.2 hm hn) hQ (by omega) hr' (by omega) hq' (fun g' c' p' => k g' (c2.chg.tr c') ?_)
        simp only [qGo, hf', e2, if_true]
        exact p'
      · have e2' : ¬ can (wQ B Q) t = true := e2
        rw [if_neg e2']
        simp only [n0_eq, n1_ne, Nat.one_ne_zero, not_true_eq_false, false_implies, and_true, forall_const]
        unfold wX7_considerQueue_J43
        have e5 : mI g (mR g (S + 33) j) 5 = nI (tl t) := q.2.2.2.2.2
        have e0 : mI g (mR g (S + 33) j) 0 = nI (tn t) := q.1
        have e8 : mL g S 8 = lN (aD B) := p.2.2.2.2.2.2.2.1
        simp only [show ¬ mR g (S + 33) j = 0 by omega, not_false_eq_true, false_implies, true_and, forall_const, hO, forall_eq, isO_uI, isA_uI, ln_uI, mR_uI, isO_uR, isA_uR, ln_uR, mI_uR, isO_uL, isA_uL, ln_uL, mR_uL, mI_uL, mL_uI, mL_uR, isO_uA, isA_uA, ln_uA, mR_uA, mL_uA, mS_uI, mS_uR, mS_uL, mS_uA, e5, nI_add, p.1.o, e8, lN_1, p.1.m2, p.1.a34, p.1.l34, mI_uI, show ¬ (0 : Nat) = 5 by omega, and_false, if_false, e0, htn]
        have cA : chi (mR g (S + 33) j) (mR g (S + 33) j + 1) g (uI g (mR g (S + 33) j) 5 (nI (tl t + 1))) := chi.uI (by omega) (by omega)
        have p1 := p.upd (f := fun u => (tn u, tb u, td u, tr u, tu u, tl u + 1)) htj hu cA (by
          refine ⟨?_, ?_, ?_, ?_, fun z => ?_, ?_⟩
          · simp [mI_uI]; exact q.1
          · simp [mI_uI]; exact q.2.1
          · simp [mI_uI]; exact q.2.2.1
          · simp [mI_uI]; exact q.2.2.2.1
          · simp [mI_uI]; exact q.2.2.2.2.1 z
          · simp [mI_uI, tl])
        have p2 := (p1.del (d := aD B + 1)).qset (y := y) (v := num) (show y < Q.length by omega)
        rw [nI_clamp (by omega)]
        refine ⟨p.1.z 34 (by decide), vp_in_nI (by omega) (by omega), ?_⟩
        have ct : (Q.set y num).take (y + 1) = Q.take y ++ [num] := by
          rw [take_s (t := num) (by rw [List.getElem?_set, if_pos rfl, if_pos (by omega)])]
          congr 1
          refine List.ext_getElem? fun i => ?_
          rw [List.getElem?_take, List.getElem?_take, List.getElem?_set]
          by_cases e : i < y
          · rw [if_pos e, if_pos e, if_neg (by omega)]
          · rw [if_neg e, if_neg e]
        refine ih (x + 1) (y + 1) _ (aL B, (aT B).map (fun u => if tn u = tn t then (tn u, tb u, td u, tr u, tu u, tl u + 1) else u), aQ B, aC B, aO B, aM B, aD B + 1) (Q.set y num) K p2 ?_ (by rw [List.length_set]; exact hQ) (by omega) (fun i q hi => ?_) (by omega) hq' (fun g' c' p' => k g' (((cA.chg.mo (by omega) (by omega)).tr ((chg.uL (by omega) (by omega)).tr (chg.uI (by omega) (by omega)))).tr c') ?_)
        · exact i.up (f := fun u => (tn u, tb u, td u, tr u, tu u, tl u + 1)) (num := tn t) rfl rfl (fun u hu _ => ⟨i.1.2 u hu, rfl⟩)
        · rw [List.getElem?_set, if_neg (by omega)]
          exact hr' i q hi
        · have e3 : can B t = false := by simpa using e2
          rw [ct] at p'
          simp only [qGo, hf', e3, Bool.false_eq_true, if_false]
          rw [List.append_assoc] at p'
          rw [← htn] at p' ⊢
          exact p'
end QV
