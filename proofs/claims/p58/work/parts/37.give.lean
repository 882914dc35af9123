/-! THE CLASS'S ROUTES: granted, withdrawn, the first block that isn't free -/
section GV
variable {h : AH} {S a : Nat} {A : AG} {G : LG}
theorem sl_tnr (G : LG) (b : Nat) (m : List Nat) : ∀ l, sl (tnr G b m) l = sl G l := by
  intro l
  have f2 := (tnr_fix m G b).2.1
  induction l with
  | nil => rfl
  | cons c l ih => simp only [sl, ih, f2]
theorem can_nx {t : TG} (hc : can A t = true) : tr t = [] ∧ nx (aL A) (td t) (tb t) ≠ none := by
  unfold can at hc
  simp only [Bool.and_eq_true, decide_eq_true_eq, Bool.not_eq_true', decide_eq_false_iff_not] at hc
  exact ⟨hc.1.1, fun z => hc.1.2 (rt_nil z)⟩
theorem c_grantRoute (p : rpS h S A) (i : IP A) (bn : BN A) {x : Int32} {K : Int32 → AH → Prop} (k : ∀ h', chi S (S + 43) h h' → rpS h' S (oSet A x).2.2 → K (cr [-4, -3, -5] (oSet A x)) h') : wX7_grantRoute S x h K := by
  have w := p.2.1.1
  have h12 := w.n12
  unfold wX7_grantRoute
  simp only [p.1.o, p.1.m0, p.1.m1, p.1.m2, p.1.a33, p.1.l33, p.1.a34, p.1.l34, p.1.lg.o, true_and]
  have bad : ∀ {q : RsA}, oSet A x = q → q.2.2 = A → K (cr [-4, -3, -5] q) h := fun {q} e1 e2 => by
    have := k h (chi.rf _ _ h) (by rw [e1, e2]; exact p)
    rw [e1] at this
    exact this
  refine c_find p i.it (fun c hc => ?_)
  unfold fr_ at hc
  cases hf : fnd A x with
  | none =>
    rw [hf] at hc
    have hc' : c = 0 := hc
    subst hc'
    simp only [not_true_eq_false, false_implies, and_true, forall_const]
    exact bad (q := (1, nI 0, A)) (by unfold oSet; rw [hf]) rfl
  | some t =>
    rw [hf] at hc
    obtain ⟨j, hj, htj, rfl⟩ := hc
    obtain ⟨hm, hx⟩ := fnd_mem hf
    have htr := p.1.tR hj
    have q := p.t htj
    have hO := p.1.tO hj
    have hb := ((i.it.2 t hm).b12 w.2.2).1
    have htn : tn t < 2 ^ 31 := by have := (i.2.1 t hm).2.2.2.1; have := bn.1; omega
    have eo : oSet A x = if tr t ≠ [] then (2, nI 0, A) else if can A t then (0, nI (sl (aL A) (rtT A t)), wQ (setT A t) ((aQ A).filter (fun q => decide (q ≠ tn t)))) else (3, nI 0, A) := by unfold oSet; rw [hf]
    simp (disch := omega) only [show ¬ mR h (S + 33) j = 0 by omega, not_false_eq_true, false_implies, true_and, forall_const, hO, c_isRouted hO q (show bts (tr t) < 2 ^ 31 by omega), p.1.o]
    by_cases e1 : tr t = []
    · rw [if_pos e1]
      simp only [n0_eq, n1_ne, Nat.one_ne_zero, not_true_eq_false, false_implies, and_true, forall_const]
      refine c_canSet p i.it htj ?_
      by_cases e2 : can A t = true
      · rw [if_pos e2]
        simp only [n0_eq, n1_ne, Nat.one_ne_zero, not_false_eq_true, false_implies, and_true, forall_const]
        rw [← hx]
        refine ⟨p.1.o, c_leaveQueue p htn (fun n hn => ?_) (fun g cg _ pg => ?_)⟩
        · obtain ⟨u, hu, e, -⟩ := (i.2.2.2.2.1 n).mp hn
          have := (i.2.1 u hu).2.2.2.1
          have := bn.1
          omega
        simp only [pg.1.o, pg.1.m0, pg.1.m1, pg.1.m2, pg.1.a33, pg.1.l33, pg.1.a34, pg.1.l34, pg.1.lg.o, true_and]
        have e33 : mR g (S + 33) j = mR h (S + 33) j := by rw [cg.2.2.1]
        rw [← e33]
        refine c_reserveRoute (A := wQ A ((aQ A).filter (fun q => decide (q ≠ tn t)))) pg i.it htj (fun j' u hu' e => i.ix htj hu' e) (can_nx e2).2 (fun g2 c2 _ _ p2 => ?_)
        have e33' : mR g2 (S + 33) j = mR g (S + 33) j := by rw [c2.2.2.1]
        have q2 := p2.t (i := j) (t := (tn t, tb t, td t, rtT A t, aM A + gl (aL A) ((rtT A t).headD 0), tl t)) (by
          show ((aT A).map _)[j]? = _
          rw [List.getElem?_map, htj, Option.map_some]
          simp only [if_true]
          rfl)
        have hO2 := p2.1.tO hj
        rw [e33'] at q2 hO2
        obtain ⟨r1, r2, -⟩ := rtF w.2.2 (p.2.1.2.2.b (i.2.1 t hm).2.1) (i.2.1 t hm).1 (can_nx e2).2
        obtain ⟨f1, f2, -⟩ := tnr_fix (rt (aL A) (tb t) (td t)) (aL A) (tb t)
        simp only [p2.1.o, p2.1.m0, p2.1.m1, p2.1.m2, p2.1.a33, p2.1.l33, p2.1.a34, p2.1.l34, p2.1.lg.o, hO2, q2.2.2.2.1, true_and]
        refine c_totalLength p2.2.1.1 (l := rtT A t) (List.nodup_cons.mp r2).2 (fun y hy => ?_) ?_
        · show y < gn (tnr (aL A) (tb t) (rt (aL A) (tb t) (td t)))
          rw [f1]
          exact r1 y hy
        · show K (nI (sl (tnr (aL A) (tb t) (rt (aL A) (tb t) (td t))) (rtT A t))) g2
          rw [sl_tnr]
          have := k g2 (cg.tr c2) (by rw [eo, if_neg (fun z => z e1), if_pos e2]; exact p2)
          rw [eo, if_neg (fun z => z e1), if_pos e2] at this
          exact this
      · rw [if_neg e2]
        simp only [n0_eq, n1_ne, Nat.one_ne_zero, not_true_eq_false, false_implies, true_and, forall_const]
        exact bad (q := (3, nI 0, A)) (by rw [eo, if_neg (fun z => z e1), if_neg e2]) rfl
    · rw [if_neg e1]
      simp only [n0_eq, n1_ne, Nat.one_ne_zero, not_false_eq_true, false_implies, true_and, forall_const]
      exact bad (q := (2, nI 0, A)) (by rw [eo, if_pos e1]) rfl
theorem c_withdrawRoute (p : rpS h S A) (i : IP A) (bn : BN A) {x : Int32} {K : Int32 → AH → Prop} (k : ∀ h', chi S (S + 43) h h' → rpS h' S (oFree A x).2.2 → K (cr [-4, -3] (oFree A x)) h') : wX7_withdrawRoute S x h K := by
  have w := p.2.1.1
  have h12 := w.n12
  unfold wX7_withdrawRoute
  simp only [p.1.o, p.1.m0, p.1.m1, p.1.m2, p.1.a33, p.1.l33, p.1.a34, p.1.l34, p.1.lg.o, true_and]
  have bad : ∀ {q : RsA}, oFree A x = q → q.2.2 = A → K (cr [-4, -3] q) h := fun {q} e1 e2 => by
    have := k h (chi.rf _ _ h) (by rw [e1, e2]; exact p)
    rw [e1] at this
    exact this
  refine c_find p i.it (fun c hc => ?_)
  unfold fr_ at hc
  cases hf : fnd A x with
  | none =>
    rw [hf] at hc
    have hc' : c = 0 := hc
    subst hc'
    simp only [not_true_eq_false, false_implies, and_true, forall_const]
    exact bad (q := (1, nI 0, A)) (by unfold oFree; rw [hf]) rfl
  | some t =>
    rw [hf] at hc
    obtain ⟨j, hj, htj, rfl⟩ := hc
    obtain ⟨hm, hx⟩ := fnd_mem hf
    have htr := p.1.tR hj
    have q := p.t htj
    have hO := p.1.tO hj
    have hb := ((i.it.2 t hm).b12 w.2.2).1
    have eo : oFree A x = if tr t = [] then (2, nI 0, A) else (0, nI ((aQ A).length + 1), wQ (upT A (tn t) (fun u => (tn u, tb u, td u, [], tu u, tl u))) (aQ A ++ [tn t])) := by unfold oFree; rw [hf]
    simp (disch := omega) only [show ¬ mR h (S + 33) j = 0 by omega, not_false_eq_true, false_implies, true_and, forall_const, hO, c_isRouted hO q (show bts (tr t) < 2 ^ 31 by omega), p.1.o]
    by_cases e1 : tr t = []
    · rw [if_pos e1]
      simp only [n0_eq, n1_ne, Nat.one_ne_zero, not_true_eq_false, false_implies, true_and, forall_const]
      exact bad (q := (2, nI 0, A)) (by rw [eo, if_pos e1]) rfl
    · rw [if_neg e1]
      simp only [n0_eq, n1_ne, Nat.one_ne_zero, not_false_eq_true, false_implies, and_true, forall_const, forall_eq]
      have cA : chi (mR h (S + 33) j) (mR h (S + 33) j + 1) h (uI h (mR h (S + 33) j) 3 (nI 0)) := chi.uI (by omega) (by omega)
      have p1 := p.upd (f := fun u => (tn u, tb u, td u, [], tu u, tl u)) (h' := uI h (mR h (S + 33) j) 3 (nI 0)) htj (fun j' u hu' e => i.ix htj hu' e) cA (by
        refine ⟨?_, ?_, ?_, ?_, fun z => absurd rfl z, ?_⟩
        · simp [mI_uI]; exact q.1
        · simp [mI_uI]; exact q.2.1
        · simp [mI_uI]; exact q.2.2.1
        · simp [mI_uI, tr, bts]
        · simp [mI_uI]; exact q.2.2.2.2.2)
      rw [← hx]
      have hlt := i.qlt hm e1
      have h8 := i.1
      refine c_joinQueue p1 (show (aQ A).length < 8 by omega) (fun g cg pg => ?_)
      have := k g ((cA.mo (by omega) (by omega)).tr cg) (by rw [eo, if_neg e1]; exact pg)
      rw [eo, if_neg e1] at this
      refine ⟨pg.1.o, ?_⟩
      rw [pg.2.2.2.1]
      show K (nI (aQ A ++ [tn t]).length) g
      rw [List.length_append, List.length_singleton]
      exact this
theorem firstNF_l (p : rpS h S A) {j : Nat} (hj : j < 8) {t : TG} (q : cnT h (mR h (S + 33) j) t) (hd : td t < gn (aL A)) (hm : gh (aL A) ||| hbt (aT A) < 2 ^ 12) {K : Int32 → AH → Prop} : ∀ (l : List Nat) (b x : Nat), rt (aL A) b (td t) = l → b < gn (aL A) → x + l.length ≤ 12 → K (oI (l.find? (fun b => !fre A b))) h → wX7_firstNotFree_L32 K (l.length + 1) S (mR h (S + 33) j) (nI (gh (aL A) ||| hbt (aT A))) (oI (nx (aL A) (td t) b)) (nI x) h := by
  have w := p.2.1
  have h12 := w.1.n12
  have xt := w.2.2.b hd
  intro l
  induction l with
  | nil =>
    intro b x hl hb hx k
    cases hn : nx (aL A) (td t) b with
    | some c =>
      rw [(rt_cons w.1.2.2 xt hb hn).1] at hl
      cases hl
    | none =>
      rw [wX7_firstNotFree_L32]; dsimp only
      simp only [oI_none, not_true_eq_false, false_implies, and_true, forall_const]
      exact ⟨fun _ => k, fun _ => k⟩
  | cons c l ih =>
    intro b x hl hb hx k
    cases hn : nx (aL A) (td t) b with
    | none => rw [rt_nil hn] at hl; cases hl
    | some c' =>
      obtain ⟨h1, -, hc, -⟩ := rt_cons w.1.2.2 xt hb hn
      rw [h1] at hl
      cases hl
      simp only [List.length_cons] at hx ⊢
      rw [wX7_firstNotFree_L32]; dsimp only
      have ef : (gh (aL A) ||| hbt (aT A)).testBit c = !fre A c := by
        rw [Nat.testBit_or, hbt_occ]
        unfold fre
        cases (gh (aL A)).testBit c <;> cases occ A c <;> cases resv A c <;> rfl
      simp (disch := omega) only [oI_some, nI_leI, show ¬ 12 ≤ x by omega, nI_nem, c_con (show gh (aL A) ||| hbt (aT A) < 2 ^ 31 by omega) (show c < 31 by omega), ef, not_false_eq_true, not_true_eq_false, false_implies, true_and, forall_const]
      cases hf : fre A c with
      | false =>
        simp only [Bool.not_false, if_true, n0_eq, n1_ne, Nat.one_ne_zero, not_false_eq_true, false_implies, true_and, forall_const]
        rw [List.find?_cons_of_pos (by rw [hf]; rfl)] at k
        exact k
      | true =>
        simp only [Bool.not_true, Bool.false_eq_true, if_false, n0_eq, n1_ne, Nat.one_ne_zero, not_true_eq_false, false_implies, and_true, true_and, forall_const, p.1.o, p.1.m0, p.1.m1, p.1.m2, p.1.a33, p.1.l33, p.1.a34, p.1.l34, p.1.lg.o, p.1.tO hj, q.2.2.1, c_nextOnRoute w hc hd, nI_add]
        rw [List.find?_cons_of_neg (by rw [hf]; simp)] at k
        exact ih c (x + 1) rfl hc (by omega) k
theorem c_firstNotFree (p : rpS h S A) (i : IT A) {j : Nat} {t : TG} (ht : (aT A)[j]? = some t) {K : Int32 → AH → Prop} (k : K (oI ((rtT A t).find? (fun b => !fre A b))) h) : wX7_firstNotFree S (mR h (S + 33) j) h K := by
  have w := p.2.1
  have h12 := w.1.n12
  have hh := w.1.2.2.h12
  have hj : j < 8 := Nat.lt_of_lt_of_le (List.getElem?_eq_some_iff.mp ht).1 i.1
  have hm := List.mem_of_getElem? ht
  obtain ⟨t1, t2, t3⟩ := i.2 t hm
  have hT : hbt (aT A) < 2 ^ 12 := hbt_lt _ fun t ht => ((i.2 t ht).b12 p.2.1.1.2.2).2
  have q := p.t ht
  have hor : gh (aL A) ||| hbt (aT A) < 2 ^ 12 := or_lt hh hT
  unfold wX7_firstNotFree
  simp only [p.1.o, p.1.m0, p.1.m1, p.1.m2, p.1.a33, p.1.l33, p.1.a34, p.1.l34, p.1.lg.o, true_and]
  refine c_held p i ?_
  simp only [p.1.o, p.1.m0, p.1.m1, p.1.m2, p.1.a33, p.1.l33, p.1.a34, p.1.l34, p.1.lg.o, p.1.tO hj, q.2.1, q.2.2.1, c_nextOnRoute w t1 t2, w.1.2.1.2.2.2.1, n_or, true_and]
  refine ⟨_, firstNF_l p hj q t2 hor _ (tb t) 0 rfl t1 ?_ k⟩
  cases hn : nx (aL A) (td t) (tb t) with
  | none => rw [rt_nil hn]; simp
  | some c =>
    have := (rtF w.1.2.2 (w.2.2.b t2) t1 (by rw [hn]; simp)).2.2.1
    omega
end GV
