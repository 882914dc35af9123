section DJ4
variable {a : Nat} {G : LG} {to : Nat}
theorem d_main_l {K : AH → Prop} {h0 : AH} (i : IL G) (ht : to < gn G) (kk : ∀ h', chp (TP a to) h0 h' → rpW h' a G → BT G to → (∀ b, b < gn G → mI h' (a + 6 + to) b = oI (nx G to b) ∧ mI h' (a + 19 + to) b = nI (bts (rt G b to))) → K h') :
    ∀ k (L : List Nat) (c : Nat → Nat) (N : Nat → Option Nat) (R : Nat → Nat) (h : AH), L.length + k = gn G → DI G to L c N R → chp (TP a to) h0 h → rpW h a G → (∀ b, b < gn G → mI h (a + 31) b = nI (c b)) → (∀ b, b < gn G → mI h (a + 6 + to) b = oI (N b)) → (∀ b, b < gn G → mI h (a + 19 + to) b = nI (R b)) → wX4_learnRoutesTo_L46 K (k + 1) a (a + 6 + to) (a + 19 + to) (nI (bts L)) (nI L.length) h := by
  have h12 := i.1
  intro k
  induction k with
  | zero =>
    intro L c N R h hl d ch w d1 d2 d3
    rw [wX4_learnRoutesTo_L46]; dsimp only; rw [w.2.1.1]
    have hl' : L.length = gn G := by omega
    refine ⟨w.1.o, fun _ => ?_, fun z => absurd (by rw [hl']; exact nI_le (Nat.le_refl _) (by omega)) z⟩
    obtain ⟨-, f2, f3, f4⟩ := d.fin i ht (fun y hy hyL => by
      have := nodup_le (gn G) (y :: L) (List.nodup_cons.mpr ⟨hyL, d.1⟩) (fun x hx => by
        rcases List.mem_cons.mp hx with rfl | hx
        · exact hy
        · exact d.2.1 x hx)
      simp only [List.length_cons] at this
      omega)
    exact kk h ch w f3 (fun b hb => ⟨by rw [d2 b hb, f2 b hb], by rw [d3 b hb, f4 b hb]⟩)
  | succ k ih =>
    intro L c N R h hl d ch w d1 d2 d3
    rw [wX4_learnRoutesTo_L46]; dsimp only; rw [w.2.1.1]
    have hbL : bts L < 2 ^ 12 := Nat.lt_of_lt_of_le (bts_lt d.2.1) (Nat.pow_le_pow_right (by decide) (by omega))
    refine ⟨w.1.o, fun z => absurd z (nI_ge (by omega) (by omega)), fun _ => ?_⟩
    refine d_near (N := N) (R := R) ⟨w.1, w.2.1, d1, d2, d3⟩ i (fun b hb => (d.2.2.2.2.1 b hb).1) d.2.1 (fun r least hr => ?_)
    cases r with
    | none =>
      simp only [oI_none, not_true_eq_false, false_implies, true_and, forall_const]
      obtain ⟨-, f2, f3, f4⟩ := d.fin i ht hr.2
      exact kk h ch w f3 (fun b hb => ⟨by rw [d2 b hb, f2 b hb], by rw [d3 b hb, f4 b hb]⟩)
    | some near =>
      obtain ⟨n1, n2, n3, n4, n5⟩ := hr
      subst n3
      obtain ⟨st, hth⟩ := d.step i n1 n2 n4 n5 ht
      have hcn := (d.2.2.2.2.1 near n1).1
      have hg := i.2.1 near n1
      simp (disch := omega) only [oI_some, nI_nem, not_false_eq_true, forall_const, false_implies, and_true, n_shl near (by omega), n_or, forall_eq]
      rw [show bts L ||| 2 ^ near = bts (near :: L) from rfl]
      -- behind the note of the route: the other blocks
      have go : ∀ h', chp (TP a to) h0 h' → rpW h' a G → (∀ b, b < gn G → mI h' (a + 31) b = nI (c b)) → (∀ b, b < gn G → mI h' (a + 6 + to) b = oI (N b)) → (∀ b, b < gn G → mI h' (a + 19 + to) b = nI (R_' N R near b)) → wX4_learnRoutesTo_J104 K (wX4_learnRoutesTo_L46 K (k + 1)) a (a + 6 + to) (a + 19 + to) (nI (bts (near :: L))) (nI L.length) (nI near) h' := by
        intro h' ch' w' e1 e2 e3
        unfold wX4_learnRoutesTo_J104
        simp (disch := omega) only [w'.1.o, w'.1.m5, w'.1.m6, w'.1.m7, w'.1.m8, w'.1.m9, w'.1.m10, w'.1.m11, w'.1.a1, w'.1.a2, w'.1.a3, w'.1.a4, w'.1.a5, w'.1.a18, w'.1.a31, w'.1.l1, w'.1.l2, w'.1.l3, w'.1.l4, w'.1.l5, w'.1.l18, w'.1.l31, w'.1.z, w'.1.r5, w'.1.r18, w'.1.a6, w'.1.l6, w'.1.a19, w'.1.l19, nI_clamp, vp_in_nI, e1 near n1, w'.le n1, pk_mul, nI_add, true_and, forall_eq]
        refine ⟨gn G + 1, d_relax_l (c := c) (N := N) i ht (fun b hb => (d.2.2.2.2.1 b hb).1) (fun b f hb hf => ?_) hth n1 (fun h2 ch2 w2 g1 g2 g3 => ?_) (gn G) 0 h' (by omega) (chp.rf _ h') w' (fun b hb => by rw [e1 b hb, if_neg (by omega)]) (fun b hb => by rw [e2 b hb, if_neg (by omega)]) (fun b hb => rfl)⟩
        · have hbt : b ≠ to := fun z => by rw [z, d.2.2.2.1] at hf; cases hf
          exact (ex_lt i hb ((d.2.2.2.2.2.1 b hb hbt).2 f hf).1).1
        · have := ih (near :: L) _ _ _ h2 (by simp only [List.length_cons]; omega) st (ch'.tr ch2) w2 g1 g2 (fun b hb => by rw [g3 b hb, e3 b hb])
          rw [List.length_cons] at this
          rw [nI_add]
          exact this
      have e2 := d2 near n1
      simp (disch := omega) only [nI_clamp, e2]
      cases hN : N near with
      | none =>
        have hA : isA h (a + 6 + to) 0 := w.1.a6 (by omega)
        have hl6 : ln h (a + 6 + to) = 12 := w.1.l6 (by omega)
        refine ⟨hA, by rw [hl6]; exact vp_in_nI (by omega) (by decide), fun _ => ?_, fun z => absurd rfl z⟩
        refine go h ch w d1 d2 (fun b hb => ?_)
        rw [d3 b hb]
        by_cases e : b = near
        · subst e
          rw [R_eq, hN, d.2.2.2.2.2.2.2 b n1, if_neg n2]
        · rw [R_ne e]
      | some e =>
        have hbt : near ≠ to := fun z => by rw [z, d.2.2.2.1] at hN; cases hN
        obtain ⟨q1, q2, q3, q4⟩ := (d.2.2.2.2.2.1 near n1 hbt).2 e hN
        have he := d.2.1 e q2
        have hA : isA h (a + 6 + to) 0 := w.1.a6 (by omega)
        have hl6 : ln h (a + 6 + to) = 12 := w.1.l6 (by omega)
        have hA9 : isA h (a + 19 + to) 0 := w.1.a19 (by omega)
        have hl9 : ln h (a + 19 + to) = 12 := w.1.l19 (by omega)
        simp (disch := omega) only [hA, hl6, hA9, hl9, oI_some, nI_nem, vp_in_nI, nI_clamp, d3 e he, n_shl, n_or, forall_eq, true_and, false_implies, not_false_eq_true, forall_const]
        refine ⟨by have := w.1.1; show 64 ≤ a + 19 + to; omega, ?_⟩
        have ch1 : chi (a + 6) (a + 32) h (uI h (a + 19 + to) near (nI (R e ||| 2 ^ e))) := chi.uI (by omega) (by omega)
        have cp1 : chp (TP a to) h (uI h (a + 19 + to) near (nI (R e ||| 2 ^ e))) := chp.uI (Or.inr (Or.inl rfl))
        refine go _ (ch.tr cp1) ⟨w.1.ch ch1, w.2.1.ch ch1 (by omega), i⟩ (fun b hb => ?_) (fun b hb => ?_) (fun b hb => ?_)
        · rw [mI_uI, if_neg (by omega)]; exact d1 b hb
        · rw [mI_uI, if_neg (by omega)]; exact d2 b hb
        · rw [mI_uI]
          by_cases ee : b = near
          · subst ee
            rw [if_pos ⟨rfl, rfl⟩, R_eq, hN]
          · rw [if_neg (fun z => ee z.2), R_ne ee]
            exact d3 b hb
theorem d_main {K : AH → Prop} {h : AH} (w : rpW h a G) (ht : to < gn G) (kk : ∀ h', chp (TP a to) h h' → rpW h' a G → BT G to → (∀ b, b < gn G → mI h' (a + 6 + to) b = oI (nx G to b) ∧ mI h' (a + 19 + to) b = nI (bts (rt G b to))) → K h') : wX4_learnRoutesTo a (nI to) h K := by
  have h12 := w.n12
  have i := w.2.2
  have hz : 64 ≤ a := w.1.1
  unfold wX4_learnRoutesTo
  simp (disch := omega) only [w.1.o, w.1.m5, w.1.m6, w.1.m7, w.1.m8, w.1.m9, w.1.m10, w.1.m11, w.1.a1, w.1.a2, w.1.a3, w.1.a4, w.1.a5, w.1.a18, w.1.a31, w.1.l1, w.1.l2, w.1.l3, w.1.l4, w.1.l5, w.1.l18, w.1.l31, w.1.z, w.1.r5, w.1.r18, w.1.a6, w.1.l6, w.1.a19, w.1.l19, nI_clamp, vp_in_nI, true_and]
  have w1 : ∀ {q : Nat} {h g : AH}, rpW h a G → (q = a + 6 + to ∨ q = a + 19 + to ∨ q = a + 31) → chi q (q + 1) h g → rpW g a G := fun {q h g} w hq c => ⟨w.1.ch c, w.2.1.ch c (by omega), i⟩
  have c1 : ∀ {q : Nat} {h g : AH}, (q = a + 6 + to ∨ q = a + 19 + to ∨ q = a + 31) → chi q (q + 1) h g → chp (TP a to) h g := fun {q h g} hq c => c.chp (fun b h1 h2 => by
    have e : b = q := by omega
    rw [e]
    exact hq)
  refine w_fill (n := 12) (w.1.a6 (by omega)) (by show 64 ≤ _; omega) (w.1.l6 (by omega)) (by decide) (fun h2 k2 v2 => ?_)
  have w2 := w1 w (Or.inl rfl) k2
  refine w_fill (n := 12) (w2.1.a19 (by omega)) (by show 64 ≤ _; omega) (w2.1.l19 (by omega)) (by decide) (fun h3 k3 v3 => ?_)
  have w3 := w1 w2 (Or.inr (Or.inl rfl)) k3
  simp (disch := omega) only [w3.1.o, w3.1.m5, w3.1.m6, w3.1.m7, w3.1.m8, w3.1.m9, w3.1.m10, w3.1.m11, w3.1.a1, w3.1.a2, w3.1.a3, w3.1.a4, w3.1.a5, w3.1.a18, w3.1.a31, w3.1.l1, w3.1.l2, w3.1.l3, w3.1.l4, w3.1.l5, w3.1.l18, w3.1.l31, w3.1.z, w3.1.r5, w3.1.r18, w3.1.a6, w3.1.l6, w3.1.a19, w3.1.l19, true_and]
  refine w_fill (n := 12) w3.1.a31 (by show 64 ≤ _; omega) w3.1.l31 (by decide) (fun h4 k4 v4 => ?_)
  have w4 := w1 w3 (Or.inr (Or.inr rfl)) k4
  simp (disch := omega) only [w4.1.o, w4.1.m5, w4.1.m6, w4.1.m7, w4.1.m8, w4.1.m9, w4.1.m10, w4.1.m11, w4.1.a1, w4.1.a2, w4.1.a3, w4.1.a4, w4.1.a5, w4.1.a18, w4.1.a31, w4.1.l1, w4.1.l2, w4.1.l3, w4.1.l4, w4.1.l5, w4.1.l18, w4.1.l31, w4.1.z, w4.1.r5, w4.1.r18, w4.1.a6, w4.1.l6, w4.1.a19, w4.1.l19, vp_in_nI, true_and, forall_eq]
  have ch1 : chi (a + 31) (a + 31 + 1) h4 (uI h4 (a + 31) to (nI 0)) := chi.uI (Nat.le_refl _) (Nat.lt_succ_self _)
  have w5 := w1 w4 (Or.inr (Or.inr rfl)) ch1
  have hI : DI G to [] (fun b => if b = to then 0 else 1000000) (fun _ => none) (fun _ => 0) := by
    refine ⟨List.nodup_nil, fun x hx => absurd hx List.not_mem_nil, if_pos rfl, rfl, fun b _ => ?_, fun b hb hbt => ⟨fun _ => ⟨if_neg hbt, fun _ _ => List.not_mem_nil⟩, fun e he => nomatch he⟩, fun x hx => absurd hx List.not_mem_nil, fun b _ => by simp⟩
    by_cases e : b = to
    · simp [e]
    · simp [e]
  refine ⟨gn G + 1, d_main_l i ht (fun h' p w' x r => kk h' ((c1 (Or.inl rfl) k2).tr ((c1 (Or.inr (Or.inl rfl)) k3).tr ((c1 (Or.inr (Or.inr rfl)) k4).tr ((c1 (Or.inr (Or.inr rfl)) ch1).tr p)))) w' x r) (gn G) [] _ _ _ _ (by simp) hI (chp.rf _ _) w5 (fun b hb => ?_) (fun b hb => ?_) (fun b hb => ?_)⟩
  · rw [mI_uI]
    by_cases e : b = to
    · rw [if_pos ⟨rfl, e⟩]
      simp [e]
    · rw [if_neg (fun z => e z.2), v4 b (by omega)]
      simp [e]
  · rw [mI_uI, if_neg (by omega), k4.2.2.2.2 _ (by omega), k3.2.2.2.2 _ (by omega), v2 b (by omega)]
    rfl
  · rw [mI_uI, if_neg (by omega), k4.2.2.2.2 _ (by omega), v3 b (by omega)]
theorem d_all_l {K : AH → Prop} {h0 : AH} (i : IL G) (kk : ∀ h', chi (a + 6) (a + 32) h0 h' → rpL h' a G → K h') : ∀ k x h, x + k = gn G → chi (a + 6) (a + 32) h0 h → rpW h a G → (∀ t, t < x → BT G t ∧ ∀ b, b < gn G → mI h (a + 6 + t) b = oI (nx G t b) ∧ mI h (a + 19 + t) b = nI (bts (rt G b t))) → wX4_learnRoutes_L2 K (k + 1) a (nI x) h := by
  have h12 := i.1
  intro k
  induction k with
  | zero =>
    intro x h hx ch w hI
    rw [wX4_learnRoutes_L2]; dsimp only; rw [w.2.1.1]
    have hx' : x = gn G := by omega
    subst hx'
    refine ⟨w.1.o, fun _ => kk h ch ⟨w, fun t b ht hb => (hI t ht).2 b hb, fun t ht => ⟨_, _, (hI t ht).1⟩⟩, fun z => absurd (nI_le (Nat.le_refl _) (by omega)) z⟩
  | succ k ih =>
    intro x h hx ch w hI
    rw [wX4_learnRoutes_L2]; dsimp only; rw [w.2.1.1]
    refine ⟨w.1.o, fun z => absurd z (nI_ge (by omega) (by omega)), fun _ => ?_⟩
    refine d_main w (by omega) (fun h' p w' x' r => ?_)
    rw [nI_add]
    refine ih (x + 1) h' (by omega) (ch.tr (p.chi (fun q hq => by unfold TP at hq; omega))) w' (fun t ht => ?_)
    by_cases e : t = x
    · subst e
      exact ⟨x', r⟩
    · refine ⟨(hI t (by omega)).1, fun b hb => ?_⟩
      rw [p.2.2.2.2 (a + 6 + t) (by unfold TP; omega), p.2.2.2.2 (a + 19 + t) (by unfold TP; omega)]
      exact (hI t (by omega)).2 b hb
/-- the class finds all routes anew -/
theorem c_learn {K : AH → Prop} {h : AH} (w : rpW h a G) (kk : ∀ h', chi (a + 6) (a + 32) h h' → rpL h' a G → K h') : wX4_learnRoutes a h K :=
  ⟨gn G + 1, d_all_l w.2.2 kk (gn G) 0 h (by omega) (chi.rf _ _ h) w (fun t ht => by omega)⟩
end DJ4
