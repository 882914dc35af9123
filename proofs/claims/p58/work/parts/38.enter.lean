/-! THE CLASS'S MINUTES: trains enter blocks -/
section EN
variable {h : AH} {S a : Nat} {A : AG} {G : LG}
def dueT (G : LG) (m : Nat) (t : TG) : List Nat → Nat
  | [] => tu t
  | e :: _ => m + gl G e
theorem clr_bts {c : Nat} {l : List Nat} (hn : (c :: l).Nodup) (hl : ∀ y ∈ c :: l, y < 31) : clr (bts (c :: l)) c = bts l := by
  have hb : bts (c :: l) < 2 ^ 31 := bts_lt hl
  refine Nat.eq_of_testBit_eq fun i => ?_
  rw [clr_bit (by omega), bts_tb, bts_tb]
  have hc := (List.nodup_cons.mp hn).1
  by_cases e : c = i
  · subst e; simp [hc]
  · have e' : ¬ i = c := fun z => e z.symm
    simp [e, e']
theorem rpS.set (p : rpS h S A) {j : Nat} {v : TG} {h' : AH} (hj : j < (aT A).length) (c : chi (mR h (S + 33) j) (mR h (S + 33) j + 1) h h') (q : cnT h' (mR h (S + 33) j) v) : rpS h' S (wT A ((aT A).set j v)) := by
  obtain ⟨s, r, c1, c2, c3, c4, c5, c6, c7, c8, c9, c10⟩ := p
  have hj8 : j < 8 := Nat.lt_of_lt_of_le hj c9
  have htr := s.tR hj8
  have e0 : mI h' S = mI h S := c.2.2.2.2 S (by omega)
  refine ⟨s.ch c, r.fr c.chg (by omega), ?_, by rw [e0]; exact c2, by rw [e0]; exact c3, by rw [e0]; exact c4, by rw [e0]; exact c5, by rw [c.2.2.2.1]; exact c6, fun i u hu' => ?_, fun i q hq => ?_, ?_, c10⟩
  · rw [e0]
    show _ = nI ((aT A).set j v).length
    rw [List.length_set]; exact c1
  · have hu2 : ((aT A).set j v)[i]? = some u := hu'
    rw [List.getElem?_set] at hu2
    rw [c.2.2.1]
    by_cases e : j = i
    · subst e
      rw [if_pos rfl, if_pos hj] at hu2
      cases hu2
      exact q
    · rw [if_neg e] at hu2
      have hi : i < 8 := Nat.lt_of_lt_of_le (List.getElem?_eq_some_iff.mp hu2).1 c9
      have hne : mR h (S + 33) i ≠ mR h (S + 33) j := fun z => e (s.ti hi hj8 z).symm
      exact (c7 i u hu2).ch (c.2.2.2.2 _ (by omega))
  · rw [c.2.2.2.2 (S + 34) (by omega)]; exact c8 i q hq
  · show ((aT A).set j v).length ≤ 8
    rw [List.length_set]; exact c9
theorem c_enterNext (p : rpS h S A) {j : Nat} {t : TG} (ht : (aT A)[j]? = some t) (hj : j < 8) {c : Nat} {l : List Nat} (hr : tr t = c :: l) (hb : tb t < gn (aL A)) (hled : led (aL A) (tb t) (c :: l)) (hn : (c :: l).Nodup) (hl : ∀ y ∈ c :: l, y < gn (aL A)) {K : AH → Prop} (k : ∀ h', chi (mR h (S + 33) j) (mR h (S + 33) j + 1) h h' → cnT h' (mR h (S + 33) j) (tn t, c, td t, l, (dueT (aL A) (aM A) t l), tl t) → K h') : wX7_enterNext S (mR h (S + 33) j) h K := by
  have w := p.2.1
  have h12 := w.1.n12
  have q := p.t ht
  have htr := p.1.tR hj
  have hO := p.1.tO hj
  have hc := hl c List.mem_cons_self
  have hl31 : ∀ y ∈ c :: l, y < 31 := fun y hy => by have := hl y hy; omega
  have e7 : mI h S 7 = nI (aM A) := p.2.2.2.2.2.2.1
  unfold wX7_enterNext
  generalize hcl : mR h (S + 33) j = d at *
  have hS : S ≠ d := by omega
  simp (disch := omega) only [p.1.o, p.1.m0, p.1.m1, p.1.m2, p.1.a33, p.1.l33, p.1.a34, p.1.l34, p.1.lg.o, hO, q.2.1, q.2.2.2.1, hr, c_exitOf w.1 hb, hled.1, oI_some, true_and, forall_eq, mI_uI, show ¬ (3 : Nat) = 1 by omega, false_and, and_false, if_false, n_clr, clr_bts hn hl31, isO_uI, isA_uI, ln_uI, mR_uI, isO_uR, isA_uR, ln_uR, mI_uR, isO_uL, isA_uL, ln_uL, mR_uL, mI_uL, mL_uI, mL_uR, isO_uA, isA_uA, ln_uA, mR_uA, mL_uA, mS_uI, mS_uR, mS_uL, mS_uA, hS]
  have r9 : rpL (uI (uI h d 1 (nI c)) d 3 (nI (bts l))) (S + 1) (aL A) := (w.uI (by omega)).uI (by omega)
  rw [c_exitOf r9.1 hc]
  have cA : ∀ v : Int32, chi d (d + 1) h (uI (uI (uI h d 1 (nI c)) d 3 (nI (bts l))) d 4 v) := fun v => ((chi.uI (by omega) (by omega)).tr (chi.uI (by omega) (by omega))).tr (chi.uI (by omega) (by omega))
  have go : ∀ v : Int32, (l ≠ [] → v = nI (dueT (aL A) (aM A) t l)) → K (uI (uI (uI h d 1 (nI c)) d 3 (nI (bts l))) d 4 v) := fun v hv => by
    refine k _ (cA v) ⟨?_, ?_, ?_, ?_, fun z => ?_, ?_⟩
    · simp [mI_uI]; exact q.1
    · simp [mI_uI, tb]
    · simp [mI_uI]; exact q.2.2.1
    · simp [mI_uI, tr]
    · rw [hv z]; simp [mI_uI, tu]
    · simp [mI_uI]; exact q.2.2.2.2.2
  cases hx : xo (aL A) c with
  | none =>
    rw [oI_none, c_lengthOf_m r9.1]
    simp only [p.1.o, p.1.m0, p.1.m1, p.1.m2, p.1.a33, p.1.l33, p.1.a34, p.1.l34, p.1.lg.o, hO, isO_uI, e7, true_and, nI_add]
    refine go _ fun z => ?_
    cases l with
    | nil => exact absurd rfl z
    | cons e l =>
      have := hled.2.1
      rw [hx] at this
      cases this
  | some e =>
    have he : e < gn (aL A) := by
      have i := w.1.2.2
      rcases i.2.2.1 c hc with ⟨z1, z2⟩ | ⟨u, v, z1, z2, z3, z4, -⟩
      · unfold xo at hx
        rw [z1, z2] at hx
        cases hz : (gd (aL A)).testBit c <;> rw [hz] at hx <;> cases hx
      · unfold xo at hx
        rw [z1, z2] at hx
        cases hz : (gd (aL A)).testBit c <;> rw [hz] at hx <;> cases hx <;> assumption
    rw [oI_some, c_lengthOf r9.1 he]
    simp only [p.1.o, p.1.m0, p.1.m1, p.1.m2, p.1.a33, p.1.l33, p.1.a34, p.1.l34, p.1.lg.o, hO, isO_uI, e7, true_and, nI_add]
    refine go _ fun z => ?_
    cases l with
    | nil => exact absurd rfl z
    | cons e' l =>
      have := hled.2.1
      rw [hx] at this
      cases this
      rfl
def tK (A : AG) (t : TG) : Prop := tb t < gn (aL A) ∧ (∀ y ∈ tr t, y < gn (aL A)) ∧ led (aL A) (tb t) (tr t) ∧ (th_ t).Nodup ∧ (tr t ≠ [] → tu t < 2 ^ 31)
theorem enter_l (p : rpS h S A) (ok : ∀ t ∈ aT A, tK A t) (hm : aM A < 2 ^ 31) {K : AH → Prop} (k : ∀ g, chi S (S + 43) h g → rpS g S (wT A ((aT A).map (ent (aL A) (aM A)))) → wX7_removeArrived S g (fun h5 => isO h5 S 5 ∧ wX7_considerQueue S h5 (fun h7 => K h7))) : ∀ j x g T, x + j = (aT A).length → chi S (S + 43) h g → rpS g S (wT A T) → T.length = (aT A).length → (∀ i, i < x → T[i]? = ((aT A)[i]?).map (ent (aL A) (aM A))) → (∀ i, x ≤ i → T[i]? = (aT A)[i]?) → wX7_passMinute_L12 K (j + 1) S (nI x) g := by
  have h8 : (aT A).length ≤ 8 := p.2.2.2.2.2.2.2.2.2.2.1
  have h12 := p.2.1.1.n12
  intro j
  induction j with
  | zero =>
    intro x g T hx c pg hT h1 h2
    have e : T = (aT A).map (ent (aL A) (aM A)) := List.ext_getElem? fun i => by
      rw [List.getElem?_map]
      by_cases hi : i < x
      · exact h1 i hi
      · rw [List.getElem?_eq_none (by omega), List.getElem?_eq_none (by omega)]; rfl
    subst e
    have e3 : mI g S 3 = nI (aT A).length := by
      have := pg.2.2.1
      rw [this]
      show nI ((aT A).map _).length = _
      rw [List.length_map]
    rw [wX7_passMinute_L12]; dsimp only; rw [e3]
    have hx' : x = (aT A).length := by omega
    subst hx'
    exact ⟨pg.1.o, fun _ => k g c pg, fun z => absurd (nI_le (Nat.le_refl _) (by omega)) z⟩
  | succ j ih =>
    intro x g T hx c pg hT h1 h2
    have hxl : x < (aT A).length := by omega
    have hx8 : x < 8 := by omega
    obtain ⟨t, ht, hmem⟩ := T_get hxl
    have hTx : (aT (wT A T))[x]? = some t := (h2 x (Nat.le_refl _)).trans ht
    have e3 : mI g S 3 = nI (aT A).length := by
      have := pg.2.2.1
      rw [this]
      show nI T.length = _
      rw [hT]
    obtain ⟨k1, k2, k3, k4, k5⟩ := ok t hmem
    have q := pg.t hTx
    have hb : bts (tr t) < 2 ^ 12 := bts_lt fun b hb => by have := k2 b hb; omega
    have nxt : ∀ g' v, chi S (S + 43) h g' → rpS g' S (wT A (T.set x v)) → v = ent (aL A) (aM A) t → wX7_passMinute_L12 K (j + 1) S (nI (x + 1)) g' := fun g' v c' pg' ev => by
      refine ih (x + 1) g' (T.set x v) (by omega) c' pg' (by rw [List.length_set]; exact hT) (fun i hi => ?_) (fun i hi => ?_)
      · rw [List.getElem?_set]
        by_cases e : x = i
        · subst e
          rw [if_pos rfl, if_pos (by omega), ht, ev]; rfl
        · rw [if_neg e]; exact h1 i (by omega)
      · rw [List.getElem?_set, if_neg (by omega)]; exact h2 i (by omega)
    have same : ent (aL A) (aM A) t = t → wX7_passMinute_L12 K (j + 1) S (nI (x + 1)) g := fun e => by
      have es : T.set x t = T := List.ext_getElem? fun i => by
        rw [List.getElem?_set]
        by_cases e : x = i
        · subst e
          rw [if_pos rfl, if_pos (by omega)]
          exact hTx.symm
        · rw [if_neg e]
      exact nxt g t c (by rw [es]; exact pg) e.symm
    rw [wX7_passMinute_L12]; dsimp only; rw [e3]
    refine ⟨pg.1.o, fun z => absurd z (nI_ge hxl (by omega)), fun _ => ?_⟩
    simp (disch := omega) only [pg.1.o, pg.1.m0, pg.1.m1, pg.1.m2, pg.1.a33, pg.1.l33, pg.1.a34, pg.1.l34, pg.1.lg.o, nI_clamp, vp_in_nI, pg.1.tO hx8, c_isRouted (pg.1.tO hx8) q (show bts (tr t) < 2 ^ 31 by omega), nI_add, true_and]
    cases hr : tr t with
    | nil =>
      rw [if_pos rfl]
      simp only [n0_eq, n1_ne, Nat.one_ne_zero, not_true_eq_false, false_implies, and_true, forall_const]
      exact same (by unfold ent; rw [hr])
    | cons b l =>
      rw [if_neg (by simp)]
      simp only [n0_eq, n1_ne, Nat.one_ne_zero, not_false_eq_true, false_implies, true_and, forall_const]
      have e4 := q.2.2.2.2.1 (by rw [hr]; simp)
      have hu := k5 (by rw [hr]; simp)
      have e7 : mI g S 7 = nI (aM A) := pg.2.2.2.2.2.2.1
      rw [e4, e7, nI_eq hu hm]
      refine ⟨fun hne => same (by unfold ent; rw [hr]; simp only; rw [if_neg hne]), fun he => ?_⟩
      rw [hr] at k2 k3
      have k4' : (b :: l).Nodup := by
        have := (List.nodup_cons.mp k4).2
        rw [hr] at this
        exact this
      refine c_enterNext pg hTx hx8 hr k1 k3 k4' k2 (fun g' c' q' => ?_)
      have htr := pg.1.tR hx8
      have pg' := pg.set (j := x) (by show x < T.length; omega) c' q'
      refine nxt g' _ (c.tr (c'.mo (by omega) (by omega))) pg' ?_
      unfold ent
      rw [hr]
      simp only
      rw [if_pos he]
      cases l <;> rfl
end EN
