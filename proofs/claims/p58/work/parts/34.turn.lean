/-! THE CLASS'S ROUTES: points turned -/
section TN
variable {h : AH} {S a : Nat} {A : AG} {G : LG}
theorem turn1_fix (G : LG) (b c : Nat) : gn (turn1 G b c) = gn G ∧ gl (turn1 G b c) = gl G ∧ gf (turn1 G b c) = gf G ∧ gr (turn1 G b c) = gr G ∧ gp (turn1 G b c) = gp G ∧ gk (turn1 G b c) = gk G ∧ gh (turn1 G b c) = gh G ∧ nx (turn1 G b c) = nx G ∧ ds (turn1 G b c) = ds G ∧ rt (turn1 G b c) = rt G := by
  unfold turn1
  by_cases e1 : gf G b = some c
  · rw [if_pos e1]; exact ⟨rfl, rfl, rfl, rfl, rfl, rfl, rfl, rfl, rfl, rfl⟩
  · rw [if_neg e1]
    by_cases e2 : gr G b = some c
    · rw [if_pos e2]; exact ⟨rfl, rfl, rfl, rfl, rfl, rfl, rfl, rfl, rfl, rfl⟩
    · rw [if_neg e2]; exact ⟨rfl, rfl, rfl, rfl, rfl, rfl, rfl, rfl, rfl, rfl⟩
theorem tnr_fix : ∀ (l : List Nat) (G : LG) (b : Nat), gn (tnr G b l) = gn G ∧ gl (tnr G b l) = gl G ∧ gf (tnr G b l) = gf G ∧ gr (tnr G b l) = gr G ∧ gp (tnr G b l) = gp G ∧ gk (tnr G b l) = gk G ∧ gh (tnr G b l) = gh G ∧ nx (tnr G b l) = nx G ∧ ds (tnr G b l) = ds G ∧ rt (tnr G b l) = rt G := by
  intro l
  induction l with
  | nil => intro G b; exact ⟨rfl, rfl, rfl, rfl, rfl, rfl, rfl, rfl, rfl, rfl⟩
  | cons c l ih =>
    intro G b
    obtain ⟨h1, h2, h3, h4, h5, h6, h7, h8, h9, h10⟩ := ih (turn1 G b c) c
    obtain ⟨k1, k2, k3, k4, k5, k6, k7, k8, k9, k10⟩ := turn1_fix G b c
    exact ⟨h1.trans k1, h2.trans k2, h3.trans k3, h4.trans k4, h5.trans k5, h6.trans k6, h7.trans k7, h8.trans k8, h9.trans k9, h10.trans k10⟩
theorem turn_l {t : Nat} : ∀ (l : List Nat) (G : LG) (h : AH) (b x : Nat) (K : AH → Prop), rpL h a G → t < gn G → b < gn G → (b = t ∨ nx G t b ≠ none) → rt G b t = l → x + l.length ≤ 12 → (∀ h', chi a (a + 1) h h' → rpL h' a (tnr G b l) → K h') → wX4_turnForRoute_L5 K (l.length + 1) a (nI t) (nI b) (nI x) h := by
  intro l
  induction l with
  | nil =>
    intro G h b x K r ht hb hbt hl hx k
    have h12 := r.1.n12
    have xt := r.2.2.b ht
    have e : b = t := by
      rcases hbt with e | e
      · exact e
      · by_cases e2 : b = t
        · exact e2
        · exact absurd ((rt_ne xt hb e2).mp hl) e
    have kk := k h (chi.rf _ _ h) r
    rw [wX4_turnForRoute_L5]; dsimp only
    simp (disch := omega) only [c_has r.1 hb, c_has r.1 ht, e, r.1.1.o, n0_eq, n1_ne, Nat.one_ne_zero, not_true_eq_false, not_false_eq_true, false_implies, true_and, and_true, forall_const]
    exact ⟨fun _ => kk, fun _ => kk⟩
  | cons c l ih =>
    intro G h b x K r ht hb hbt hl hx k
    have h12 := r.1.n12
    have xt := r.2.2.b ht
    have i := r.1.2.2
    have hd := i.d12
    cases hn : nx G t b with
    | none =>
      rw [rt_nil hn] at hl
      cases hl
    | some c' =>
      obtain ⟨h1, hex, hc, hbt', d, d', hd1, hd2, -⟩ := rt_cons i xt hb hn
      rw [h1] at hl
      cases hl
      simp only [List.length_cons] at hx ⊢
      have hct : c = t ∨ nx G t c ≠ none := by
        by_cases e : c = t
        · exact Or.inl e
        · refine Or.inr fun z => ?_
          rw [(nx_none xt hc e).mp z] at hd2
          cases hd2
      have e1 := (r.2.1 t b ht hb).1
      rw [hn, oI_some] at e1
      have hs := r.1.sm hb
      have el : (oI (gf G b) = nI c) = (gf G b = some c) := oI_inj (y := some c) hs.1 (fun k hk => by cases hk; omega)
      have er : (oI (gr G b) = nI c) = (gr G b = some c) := oI_inj (y := some c) hs.2 (fun k hk => by cases hk; omega)
      rw [wX4_turnForRoute_L5]; dsimp only
      simp (disch := omega) only [nI_leI, show ¬ 12 ≤ x by omega, c_has r.1 hb, c_has r.1 ht, r.1.1.o, r.1.1.m5, r.1.1.m6, r.1.1.m7, r.1.1.m8, r.1.1.m9, r.1.1.m10, r.1.1.m11, r.1.1.a1, r.1.1.a2, r.1.1.a3, r.1.1.a4, r.1.1.a5, r.1.1.a18, r.1.1.a31, r.1.1.l1, r.1.1.l2, r.1.1.l3, r.1.1.l4, r.1.1.l5, r.1.1.l18, r.1.1.l31, r.1.1.z, r.1.1.r5, r.1.1.r18, r.1.1.a6, r.1.1.l6, r.1.1.a19, r.1.1.l19, nI_add, pk_mul, nI_clamp, nI_leI, nI_ltI, nI_eq, vp_in_nI, e1, r.1.lf hb, r.1.rf hb, el, er, hbt', n0_eq, n1_ne, Nat.one_ne_zero, not_true_eq_false, not_false_eq_true, false_implies, true_and, and_true, forall_const, forall_eq, r.1.2.1.2.2.2.2.1, n_clr]
      simp (disch := omega) only [n_shl, n_or]
      have t1 : turn1 G b c = if gf G b = some c then gSide G (clr (gd G) b) else if gr G b = some c then gSide G (gd G ||| 2 ^ b) else G := rfl
      by_cases d1 : gf G b = some c
      · rw [if_pos d1] at t1
        have r' : rpL (uI h a 4 (nI (clr (gd G) b))) a (turn1 G b c) := by
          rw [t1]
          refine r.side fun q hq => ?_
          rw [clr_bit (by omega)] at hq
          exact i.2.2.2.2.2.2.2.2.1 q (by revert hq; cases (gd G).testBit q <;> simp)
        have ch : chi a (a + 1) h (uI h a 4 (nI (clr (gd G) b))) := chi.uI (by omega) (by omega)
        obtain ⟨f1, f2, f3, f4, f5, f6, f7, f8, f9, f10⟩ := turn1_fix G b c
        simp only [d1, not_true_eq_false, false_implies, true_and, forall_const]
        exact ih (turn1 G b c) _ c (x + 1) K r' (by rw [f1]; exact ht) (by rw [f1]; exact hc) (by rw [f8]; exact hct) (by rw [f10]) (by omega) (fun h' ch' r'' => k h' (ch.tr ch') r'')
      · rw [if_neg d1] at t1
        have d2 : gr G b = some c := hex.resolve_left d1
        rw [if_pos d2] at t1
        have hp : b ∈ gp G := i.2.2.2.2.2.2.1 b hb (fun z => d1 (z.trans d2))
        have r' : rpL (uI h a 4 (nI (gd G ||| 2 ^ b))) a (turn1 G b c) := by
          rw [t1]
          refine r.side fun q hq => ?_
          rw [tb_or] at hq
          by_cases e : b = q
          · rw [← e]; exact hp
          · simp only [e, decide_false, Bool.or_false] at hq
            exact i.2.2.2.2.2.2.2.2.1 q hq
        have ch : chi a (a + 1) h (uI h a 4 (nI (gd G ||| 2 ^ b))) := chi.uI (by omega) (by omega)
        obtain ⟨f1, f2, f3, f4, f5, f6, f7, f8, f9, f10⟩ := turn1_fix G b c
        simp only [d1, d2, not_true_eq_false, not_false_eq_true, false_implies, true_and, and_true, forall_const]
        exact ih (turn1 G b c) _ c (x + 1) K r' (by rw [f1]; exact ht) (by rw [f1]; exact hc) (by rw [f8]; exact hct) (by rw [f10]) (by omega) (fun h' ch' r'' => k h' (ch.tr ch') r'')
theorem c_turnForRoute (r : rpL h a G) {b t : Nat} (hb : b < gn G) (ht : t < gn G) (hn : nx G t b ≠ none) {K : AH → Prop} (k : ∀ h', chi a (a + 1) h h' → rpL h' a (tnr G b (rt G b t)) → K h') : wX4_turnForRoute a (nI b) (nI t) h K := by
  have xt := r.2.2.b ht
  refine ⟨_, turn_l (rt G b t) G h b 0 K r ht hb (Or.inr hn) rfl ?_ k⟩
  cases hd : ds G t b with
  | none =>
    cases hn' : nx G t b with
    | none => exact absurd hn' hn
    | some c =>
      obtain ⟨-, -, -, -, d, -, hd1, -⟩ := rt_cons r.1.2.2 xt hb hn'
      rw [hd] at hd1
      cases hd1
  | some d =>
    have := (rt_all r.1.2.2 xt hb hd).2.2.2.2
    omega
theorem c_canSet (p : rpS h S A) (i : IT A) {j : Nat} {t : TG} (ht : (aT A)[j]? = some t) {K : Int32 → AH → Prop} (k : K (if can A t = true then nI 1 else nI 0) h) : wX7_canSet S (mR h (S + 33) j) h K := by
  have w := p.2.1
  have h12 := w.1.n12
  have hh := w.1.2.2.h12
  have hj : j < 8 := Nat.lt_of_lt_of_le (List.getElem?_eq_some_iff.mp ht).1 i.1
  have hm := List.mem_of_getElem? ht
  obtain ⟨t1, t2, t3⟩ := i.2 t hm
  have hT : hbt (aT A) < 2 ^ 12 := hbt_lt _ fun t ht => ((i.2 t ht).b12 p.2.1.1.2.2).2
  have q := p.t ht
  have hb12 := ((i.2 t hm).b12 p.2.1.1.2.2).1
  have hor : gh (aL A) ||| hbt (aT A) < 2 ^ 12 := or_lt hh hT
  have hr : bts (rt (aL A) (tb t) (td t)) < 2 ^ 12 := bts_lt fun b hb => by
    cases hn : nx (aL A) (td t) (tb t) with
    | none => rw [rt_nil hn] at hb; cases hb
    | some c =>
      obtain ⟨-, -, -, -, d, -, hd, -⟩ := rt_cons w.1.2.2 (w.2.2.b t2) t1 hn
      have := (rt_all w.1.2.2 (w.2.2.b t2) t1 hd).2.2.1 b hb
      omega
  unfold wX7_canSet
  simp (disch := omega) only [p.1.o, p.1.m0, p.1.m1, p.1.m2, p.1.a33, p.1.l33, p.1.a34, p.1.l34, p.1.lg.o, p.1.tO hj, q.2.1, q.2.2.1, c_routeBlocks w t1 t2, c_isRouted (p.1.tO hj) q (show bts (tr t) < 2 ^ 31 by omega), true_and]
  unfold can rtT at k
  by_cases e1 : tr t = []
  · rw [if_pos e1]
    simp (disch := omega) only [n0_eq, n1_ne, Nat.one_ne_zero, not_true_eq_false, false_implies, true_and, forall_const, nI_z, bts_0]
    by_cases e2 : rt (aL A) (tb t) (td t) = []
    · simp only [e2, not_true_eq_false, false_implies, and_true, forall_const]
      simpa [e1, e2] using k
    · simp only [e2, not_false_eq_true, false_implies, true_and, forall_const]
      refine c_held p i ?_
      have hand : bts (rt (aL A) (tb t) (td t)) &&& (gh (aL A) ||| hbt (aT A)) < 2 ^ 31 := Nat.lt_of_le_of_lt Nat.and_le_left (by omega)
      simp (disch := omega) only [w.1.2.1.2.2.2.1, n_or, n_and, nI_z]
      have key : (bts (rt (aL A) (tb t) (td t)) &&& (gh (aL A) ||| hbt (aT A)) = 0) ↔ (rt (aL A) (tb t) (td t)).all (fun b => fre A b) = true := by
        rw [and_z, List.all_eq_true]
        have ef : ∀ b, fre A b = !((gh (aL A)).testBit b || (occ A b || resv A b)) := fun b => by
          unfold fre
          cases (gh (aL A)).testBit b <;> cases occ A b <;> cases resv A b <;> rfl
        constructor
        · intro z b hb
          have := z b
          rw [bts_tb, Nat.testBit_or, hbt_occ] at this
          rw [ef]
          cases hc : (gh (aL A)).testBit b || (occ A b || resv A b) with
          | false => rfl
          | true => exact absurd ⟨decide_eq_true hb, hc⟩ this
        · rintro z b ⟨h1, h2⟩
          rw [bts_tb] at h1
          have := z b (of_decide_eq_true h1)
          rw [Nat.testBit_or, hbt_occ] at h2
          rw [ef, h2] at this
          cases this
      by_cases e3 : (rt (aL A) (tb t) (td t)).all (fun b => fre A b) = true
      · rw [e1, e3] at k
        simp only [key.mpr e3, not_true_eq_false, false_implies, true_and, forall_const]
        simpa [e2] using k
      · have : ¬ (bts (rt (aL A) (tb t) (td t)) &&& (gh (aL A) ||| hbt (aT A)) = 0) := fun z => e3 (key.mp z)
        simp only [this, not_false_eq_true, false_implies, and_true, forall_const]
        have e4 : (rt (aL A) (tb t) (td t)).all (fun b => fre A b) = false := by simpa using e3
        rw [e4] at k
        simpa using k
  · rw [if_neg e1]
    simp only [n0_eq, n1_ne, Nat.one_ne_zero, not_false_eq_true, false_implies, and_true, forall_const]
    simpa [e1] using k
end TN
