/-! THE CLASS'S STATES: changes of the line's marks, new trains -/
section MU3
variable {h : AH} {S a : Nat} {A : AG} {G : LG}
theorem rpL.shut (r : rpL h a G) {m : Nat} (hm : m < 2 ^ gn G) : rpL (uI h a 3 (nI m)) a (gShut G m) := by
  obtain ⟨⟨s, g, i⟩, q, x⟩ := r
  have ch : chi a (a + 1) h (uI h a 3 (nI m)) := chi.uI (Nat.le_refl _) (Nat.lt_succ_self _)
  obtain ⟨i1, i2, i3, i4, i5, i6, i7, i8, i9, i10⟩ := i
  refine ⟨⟨s.ch ch, cnG.up ?_ ?_ ?_ ?_ ?_ (fun b hb => ?_) (fun b hb => ?_) (fun b hb => ?_) (fun p t hp => ?_), ⟨i1, i2, i3, i4, i5, i6, i7, hm, i9, i10⟩⟩, fun t b ht hb => ?_, x⟩
  · simp [mI_uI]; exact g.1
  · simp [mI_uI]; exact g.2.1
  · simp [mI_uI]; exact g.2.2.1
  · simp [mI_uI, gShut, gh]
  · simp [mI_uI]; exact g.2.2.2.2.1
  · simp [mI_uI]; exact g.2.2.2.2.2.1 b hb
  · simp [mI_uI]; exact g.2.2.2.2.2.2.1 b hb
  · simp [mI_uI]; exact g.2.2.2.2.2.2.2.1 b hb
  · simp [mI_uI]; exact g.2.2.2.2.2.2.2.2 p t hp
  · rw [mI_uI, if_neg (by omega), mI_uI, if_neg (by omega)]
    exact q t b ht hb
theorem rpL.side (r : rpL h a G) {m : Nat} (hm : ∀ b, m.testBit b = true → b ∈ gp G) : rpL (uI h a 4 (nI m)) a (gSide G m) := by
  obtain ⟨⟨s, g, i⟩, q, x⟩ := r
  have ch : chi a (a + 1) h (uI h a 4 (nI m)) := chi.uI (Nat.le_refl _) (Nat.lt_succ_self _)
  obtain ⟨i1, i2, i3, i4, i5, i6, i7, i8, i9, i10⟩ := i
  refine ⟨⟨s.ch ch, cnG.up ?_ ?_ ?_ ?_ ?_ (fun b hb => ?_) (fun b hb => ?_) (fun b hb => ?_) (fun p t hp => ?_), ⟨i1, i2, i3, i4, i5, i6, i7, i8, hm, i10⟩⟩, fun t b ht hb => ?_, x⟩
  · simp [mI_uI]; exact g.1
  · simp [mI_uI]; exact g.2.1
  · simp [mI_uI]; exact g.2.2.1
  · simp [mI_uI]; exact g.2.2.2.1
  · simp [mI_uI, gSide, gd]
  · simp [mI_uI]; exact g.2.2.2.2.2.1 b hb
  · simp [mI_uI]; exact g.2.2.2.2.2.2.1 b hb
  · simp [mI_uI]; exact g.2.2.2.2.2.2.2.1 b hb
  · simp [mI_uI]; exact g.2.2.2.2.2.2.2.2 p t hp
  · rw [mI_uI, if_neg (by omega), mI_uI, if_neg (by omega)]
    exact q t b ht hb
theorem shS.ch {h' : AH} {lo hi : Nat} (s : shS h S) (c : chi lo hi h h') : shS h' S := by
  obtain ⟨s1, s2, s3, s4, s5, s6, s7, s8, s9, s10⟩ := s
  exact ⟨s1.ch c, by rw [c.2.1]; exact s2, by rw [c.2.1]; exact s3, by rw [c.2.1]; exact s4, by rw [c.2.1]; exact s5, by rw [c.2.2.1]; exact s6, by rw [c.2.2.1]; exact s7, by rw [c.2.2.1]; exact s8, by rw [c.2.2.1]; exact s9, by rw [c.2.2.1]; exact s10⟩
theorem cnT.ch {h' : AH} {c : Nat} {t : TG} (q : cnT h c t) (e : mI h' c = mI h c) : cnT h' c t := by
  unfold cnT
  rw [e]
  exact q
/-- the line alone has changed -/
theorem rpS.line (p : rpS h S A) {h' : AH} {G' : LG} (c : chi (S + 1) (S + 33) h h') (r : rpL h' (S + 1) G') : rpS h' S (wL A G') := by
  obtain ⟨s, -, c1, c2, c3, c4, c5, c6, c7, c8, c9, c10⟩ := p
  have e0 : mI h' S = mI h S := c.2.2.2.2 S (by omega)
  refine ⟨s.ch c, r, by rw [e0]; exact c1, by rw [e0]; exact c2, by rw [e0]; exact c3, by rw [e0]; exact c4, by rw [e0]; exact c5, by rw [c.2.2.2.1]; exact c6, fun i t ht => ?_, fun i q hq => ?_, c9, c10⟩
  · have hi : i < 8 := Nat.lt_of_lt_of_le (List.getElem?_eq_some_iff.mp ht).1 c9
    rw [c.2.2.1]
    exact (c7 i t ht).ch (c.2.2.2.2 _ (by have := s.tR hi; omega))
  · rw [c.2.2.2.2 (S + 34) (by omega)]; exact c8 i q hq
theorem shS.fr {h' : AH} {lo hi : Nat} (s : shS h S) (c : chg lo hi h h') (hd : S + 43 ≤ lo ∨ hi ≤ S) : shS h' S := by
  obtain ⟨s1, s2, s3, s4, s5, s6, s7, s8, s9, s10⟩ := s
  have e : ∀ k, k < 43 → mR h' (S + k) = mR h (S + k) := fun k hk => (c.2.2 (S + k) (by omega)).2.1
  have e0 : mR h' S = mR h S := e 0 (by decide)
  exact ⟨s1.fr c (by omega), by rw [c.2.1]; exact s2, by rw [c.2.1]; exact s3, by rw [c.2.1]; exact s4, by rw [c.2.1]; exact s5, by rw [e0]; exact s6, by rw [e0]; exact s7, by rw [e0]; exact s8, by rw [e 33 (by decide)]; exact s9, by rw [e 33 (by decide)]; exact s10⟩
/-- another state's cells have changed -/
theorem rpS.fr {h' : AH} {lo hi : Nat} (p : rpS h S A) (c : chg lo hi h h') (hd : S + 43 ≤ lo ∨ hi ≤ S) : rpS h' S A := by
  obtain ⟨s, r, c1, c2, c3, c4, c5, c6, c7, c8, c9, c10⟩ := p
  have e0 : mI h' S = mI h S := (c.2.2 S (by omega)).1
  refine ⟨s.fr c hd, r.fr c (by omega), by rw [e0]; exact c1, by rw [e0]; exact c2, by rw [e0]; exact c3, by rw [e0]; exact c4, by rw [e0]; exact c5, by rw [(c.2.2 S (by omega)).2.2]; exact c6, fun i t ht => ?_, fun i q hq => ?_, c9, c10⟩
  · have hi : i < 8 := Nat.lt_of_lt_of_le (List.getElem?_eq_some_iff.mp ht).1 c9
    rw [(c.2.2 (S + 33) (by omega)).2.1]
    exact (c7 i t ht).ch (c.2.2 _ (by have := s.tR hi; omega)).1
  · rw [(c.2.2 (S + 34) (by omega)).1]; exact c8 i q hq
theorem rpL.uI (r : rpL h a G) {q j : Nat} {v : Int32} (hq : q < a ∨ a + 32 ≤ q) : rpL (uI h q j v) a G := r.fr (chg.uI (lo := q) (hi := q + 1) (Nat.le_refl _) (Nat.lt_succ_self _)) (by omega)
theorem rpL.uL (r : rpL h a G) {q j : Nat} {v : Int64} (hq : q < a ∨ a + 32 ≤ q) : rpL (uL h q j v) a G := r.fr (chg.uL (lo := q) (hi := q + 1) (Nat.le_refl _) (Nat.lt_succ_self _)) (by omega)
theorem rpL.uR (r : rpL h a G) {q j : Nat} {v : Nat} (hq : q < a ∨ a + 32 ≤ q) : rpL (uR h q j v) a G := r.fr (chg.uR (lo := q) (hi := q + 1) (Nat.le_refl _) (Nat.lt_succ_self _)) (by omega)
theorem b12 (b : Nat) (h : b < 12) : 2 ^ b < 2 ^ 12 := p2_lt h
theorem c_shutBlock (p : rpS h S A) (i : IP A) {x : Int32} {K : Int32 → AH → Prop} (k : ∀ h', chg S (S + 43) h h' → rpS h' S (oShut A x).2.2 → K (cr [-1, -3] (oShut A x)) h') : wX7_shutBlock S x h K := by
  have w := p.2.1.1
  have h12 := w.n12
  have hh := w.2.2.h12
  unfold wX7_shutBlock
  simp only [p.1.o, p.1.m0, p.1.m1, p.1.m2, p.1.a33, p.1.l33, p.1.a34, p.1.l34, p.1.lg.o, true_and]
  rcases iv_cases (gn (aL A)) (by omega) x with ⟨e1, hx⟩ | ⟨b, hb, rfl, e1⟩
  · simp only [c_hasN w hx, n0_eq, n1_ne, Nat.one_ne_zero, not_true_eq_false, false_implies, true_and, and_true, forall_const]
    have := k h (chg.rf _ _ h) (by unfold oShut; rw [e1]; exact p)
    unfold oShut at this
    rw [e1] at this
    exact this
  · simp (disch := omega) only [c_has w hb, p.1.o, p.1.m0, p.1.m1, p.1.m2, p.1.a33, p.1.l33, p.1.a34, p.1.l34, p.1.lg.o, w.2.1.2.2.2.1, c_con (show gh (aL A) < 2 ^ 31 by omega) (show b < 31 by omega), n0_eq, n1_ne, Nat.one_ne_zero, not_false_eq_true, false_implies, true_and, and_true, forall_const]
    unfold oShut at k
    rw [e1] at k
    dsimp only at k
    by_cases e2 : (gh (aL A)).testBit b = true
    · rw [if_pos (Or.inl e2)] at k
      rw [if_pos e2]
      simp only [n0_eq, n1_ne, Nat.one_ne_zero, not_false_eq_true, false_implies, and_true, forall_const]
      exact k h (chg.rf _ _ h) p
    · rw [if_neg e2]
      simp only [n0_eq, n1_ne, Nat.one_ne_zero, not_true_eq_false, false_implies, true_and, forall_const]
      refine c_isReserved p i.it (by omega) ?_
      by_cases e3 : resv A b = true
      · rw [if_pos (Or.inr e3)] at k
        rw [if_pos e3]
        simp only [n0_eq, n1_ne, Nat.one_ne_zero, not_false_eq_true, false_implies, true_and, forall_const]
        exact k h (chg.rf _ _ h) p
      · rw [if_neg (fun z => z.elim e2 e3)] at k
        rw [if_neg e3]
        have hb2 : 2 ^ b < 2 ^ gn (aL A) := p2_lt hb
        have hm : gh (aL A) ||| 2 ^ b < 2 ^ gn (aL A) := or_lt w.2.2.2.2.2.2.2.2.2.1 hb2
        have hm12 : gh (aL A) ||| 2 ^ b < 2 ^ 12 := or_lt hh (b12 b (by omega))
        simp (disch := omega) only [p.1.o, p.1.m0, p.1.m1, p.1.m2, p.1.a33, p.1.l33, p.1.a34, p.1.l34, p.1.lg.o, w.2.1.2.2.2.1, n_shl, n_or, forall_eq, mI_uI, and_self, if_true, n0_eq, n1_ne, Nat.one_ne_zero, not_true_eq_false, false_implies, true_and, and_true, forall_const]
        rw [w_bitCount (by omega)]
        exact k _ (chg.uI (by omega) (by omega)) (p.line (chi.uI (by omega) (by omega)) (p.2.1.shut hm))
theorem c_openBlock (p : rpS h S A) (i : IP A) {x : Int32} {K : Int32 → AH → Prop} (k : ∀ h', chg S (S + 43) h h' → rpS h' S (oOpen A x).2.2 → K (cr [-1, -3] (oOpen A x)) h') : wX7_openBlock S x h K := by
  have w := p.2.1.1
  have h12 := w.n12
  have hh := w.2.2.h12
  unfold wX7_openBlock
  simp only [p.1.o, p.1.m0, p.1.m1, p.1.m2, p.1.a33, p.1.l33, p.1.a34, p.1.l34, p.1.lg.o, true_and]
  rcases iv_cases (gn (aL A)) (by omega) x with ⟨e1, hx⟩ | ⟨b, hb, rfl, e1⟩
  · simp only [c_hasN w hx, n0_eq, n1_ne, Nat.one_ne_zero, not_true_eq_false, false_implies, true_and, and_true, forall_const]
    have := k h (chg.rf _ _ h) (by unfold oOpen; rw [e1]; exact p)
    unfold oOpen at this
    rw [e1] at this
    exact this
  · simp (disch := omega) only [c_has w hb, p.1.o, p.1.m0, p.1.m1, p.1.m2, p.1.a33, p.1.l33, p.1.a34, p.1.l34, p.1.lg.o, w.2.1.2.2.2.1, c_con (show gh (aL A) < 2 ^ 31 by omega) (show b < 31 by omega), n0_eq, n1_ne, Nat.one_ne_zero, not_false_eq_true, false_implies, true_and, and_true, forall_const]
    unfold oOpen at k
    rw [e1] at k
    dsimp only at k
    by_cases e2 : (gh (aL A)).testBit b = true
    · rw [if_pos e2] at k
      rw [if_pos e2]
      have hle := clr_le (gh (aL A)) b
      have hm : clr (gh (aL A)) b < 2 ^ gn (aL A) := Nat.lt_of_le_of_lt hle w.2.2.2.2.2.2.2.2.2.1
      simp (disch := omega) only [p.1.o, p.1.m0, p.1.m1, p.1.m2, p.1.a33, p.1.l33, p.1.a34, p.1.l34, p.1.lg.o, w.2.1.2.2.2.1, n_clr, forall_eq, mI_uI, and_self, if_true, n0_eq, n1_ne, Nat.one_ne_zero, not_false_eq_true, not_true_eq_false, false_implies, true_and, and_true, forall_const]
      rw [w_bitCount (by omega)]
      exact k _ (chg.uI (by omega) (by omega)) (p.line (chi.uI (by omega) (by omega)) (p.2.1.shut hm))
    · rw [if_neg e2] at k
      rw [if_neg e2]
      simp only [n0_eq, n1_ne, Nat.one_ne_zero, not_true_eq_false, false_implies, true_and, forall_const]
      exact k h (chg.rf _ _ h) p
theorem c_movePoint (p : rpS h S A) (i : IP A) (bn : BN A) {x : Int32} {K : Int32 → AH → Prop} (k : ∀ h', chg S (S + 43) h h' → rpS h' S (oThrow A x).2.2 → K (cr [-1, -3] (oThrow A x)) h') : wX7_movePoint S x h K := by
  have w := p.2.1.1
  have h12 := w.n12
  have hd := w.2.2.d12
  have h8 : (gp (aL A)).length ≤ 8 := w.2.2.2.2.2.2.1
  unfold wX7_movePoint
  simp only [p.1.o, p.1.m0, p.1.m1, p.1.m2, p.1.a33, p.1.l33, p.1.a34, p.1.l34, p.1.lg.o, true_and]
  unfold oThrow at k
  rcases iv_cases (gp (aL A)).length (by omega) x with ⟨e1, hx⟩ | ⟨q, hq, rfl, e1⟩
  · simp only [c_hasPointN w hx, n0_eq, n1_ne, Nat.one_ne_zero, not_true_eq_false, false_implies, true_and, and_true, forall_const]
    rw [e1] at k
    exact k h (chg.rf _ _ h) p
  · rw [e1] at k
    obtain ⟨s, hs⟩ : ∃ s, (gp (aL A))[q]? = some s := ⟨_, List.getElem?_eq_getElem hq⟩
    have hsn : s < gn (aL A) := (w.2.2.2.2.2.2.2.1 s (List.mem_of_getElem? hs)).1
    dsimp only at k
    rw [hs] at k
    dsimp only at k
    simp (disch := omega) only [c_hasPoint w hq, n0_eq, n1_ne, Nat.one_ne_zero, not_false_eq_true, false_implies, true_and, and_true, forall_const, p.1.o]
    refine c_lockerOf p i.it hs ?_
    cases hl : lkr A s with
    | some t =>
      rw [hl] at k
      have hm := List.mem_of_find?_eq_some hl
      have htn : tn t < 2 ^ 31 := by have := (i.2.1 t hm).2.2.2.1; have := bn.1; omega
      simp (disch := omega) only [Option.map_some, oI_some, nI_nem, not_false_eq_true, false_implies, true_and, forall_const]
      exact k h (chg.rf _ _ h) p
    | none =>
      rw [hl] at k
      simp only [Option.map_none, oI_none, not_true_eq_false, false_implies, and_true, forall_const, p.1.o, p.1.m0, p.1.m1, p.1.m2, p.1.a33, p.1.l33, p.1.a34, p.1.l34, p.1.lg.o, true_and]
      unfold wX4_turn
      simp (disch := omega) only [c_hasPoint w hq, c_stemOf w hs, p.1.o, p.1.m0, p.1.m1, p.1.m2, p.1.a33, p.1.l33, p.1.a34, p.1.l34, p.1.lg.o, w.2.1.2.2.2.2.1, n0_eq, n1_ne, Nat.one_ne_zero, not_false_eq_true, false_implies, true_and, and_true, forall_const, forall_eq, n_shl, n_xor, isO_uI, isA_uI, ln_uI, mR_uI, isO_uR, isA_uR, ln_uR, mI_uR, isO_uL, isA_uL, ln_uL, mR_uL, mI_uL, mL_uI, mL_uR, isO_uA, isA_uA, ln_uA, mR_uA, mL_uA, mS_uI, mS_uR, mS_uL, mS_uA]
      have r' : rpL (uI h (S + 1) 4 (nI (gd (aL A) ^^^ 2 ^ s))) (S + 1) (gSide (aL A) (gd (aL A) ^^^ 2 ^ s)) := p.2.1.side (fun b hb => by
        rw [Nat.testBit_xor, Nat.testBit_two_pow] at hb
        by_cases e : s = b
        · rw [← e]; exact List.mem_of_getElem? hs
        · simp only [e, decide_false, Bool.xor_false] at hb
          exact w.2.2.2.2.2.2.2.2.2.2.1 b hb)
      rw [c_pointsLeft r'.1 hs]
      have := k _ (chg.uI (by omega) (by omega)) (p.line (chi.uI (by omega) (by omega)) r')
      have e9 : (gd (gSide (aL A) (gd (aL A) ^^^ 2 ^ s))).testBit s = !(gd (aL A)).testBit s := by
        show (gd (aL A) ^^^ 2 ^ s).testBit s = _
        rw [Nat.testBit_xor, Nat.testBit_two_pow]
        simp
      rw [e9]
      cases hc : (gd (aL A)).testBit s with
      | true =>
        rw [hc] at this
        simp only [Bool.not_true, Bool.false_eq_true, if_false, n0_eq, n1_ne, Nat.one_ne_zero, not_false_eq_true, false_implies, true_and, forall_const]
        exact this
      | false =>
        rw [hc] at this
        simp only [Bool.not_false, if_true, n0_eq, n1_ne, Nat.one_ne_zero, not_true_eq_false, false_implies, and_true, forall_const]
        exact this
theorem c_joinQueue (p : rpS h S A) (hq : (aQ A).length < 8) {num : Nat} {K : AH → Prop} (k : ∀ h', chi S (S + 43) h h' → rpS h' S (wQ A (aQ A ++ [num])) → K h') : wX7_joinQueue S (nI num) h K := by
  unfold wX7_joinQueue
  obtain ⟨s, r, c1, c2, c3, c4, c5, c6, c7, c8, c9, c10⟩ := id p
  simp (disch := omega) only [s.o, s.m0, s.m1, s.m2, s.a33, s.l33, s.a34, s.l34, s.lg.o, isO_uI, isA_uI, ln_uI, mR_uI, isO_uR, isA_uR, ln_uR, mI_uR, isO_uL, isA_uL, ln_uL, mR_uL, mI_uL, mL_uI, mL_uR, isO_uA, isA_uA, ln_uA, mR_uA, mL_uA, mS_uI, mS_uR, mS_uL, mS_uA, c2, nI_leI, show ¬ 8 ≤ (aQ A).length by omega, not_false_eq_true, false_implies, true_and, forall_const, vp_in_nI, nI_clamp, forall_eq, mI_uI, show ¬ S = S + 34 by omega, false_and, if_false, nI_add]
  refine ⟨s.z 34 (by decide), ?_⟩
  have ch : chi S (S + 43) h (uI (uI h (S + 34) (aQ A).length (nI num)) S 4 (nI ((aQ A).length + 1))) := (chi.uI (by omega) (by omega)).tr (chi.uI (by omega) (by omega))
  refine k _ ch ⟨s.ch ch, (r.uI (by omega)).uI (by omega), ?_, ?_, ?_, ?_, ?_, c6, fun i t ht => ?_, fun i q hq' => ?_, c9, ?_⟩
  · simp [mI_uI]; exact c1
  · simp [mI_uI, wQ, aQ]
  · simp [mI_uI]; exact c3
  · simp [mI_uI]; exact c4
  · simp [mI_uI]; exact c5
  · have hi : i < 8 := Nat.lt_of_lt_of_le (List.getElem?_eq_some_iff.mp ht).1 c9
    have := s.tR hi
    exact (c7 i t ht).ch (by rw [mI_o (by omega), mI_o (by omega)])
  · have hq2 : (aQ A ++ [num])[i]? = some q := hq'
    by_cases e : i = (aQ A).length
    · subst e
      rw [List.getElem?_append_right (Nat.le_refl _), Nat.sub_self] at hq2
      cases hq2
      simp [mI_uI]
    · have hlt : i < (aQ A).length := by
        have := (List.getElem?_eq_some_iff.mp hq2).1
        rw [List.length_append, List.length_singleton] at this
        omega
      rw [List.getElem?_append_left hlt] at hq2
      simp [mI_uI, e]
      exact c8 i q hq2
  · show (aQ A ++ [num]).length ≤ 8
    rw [List.length_append, List.length_singleton]
    omega
theorem c_bringTrain (p : rpS h S A) (i : IP A) (bn : BN A) {x y : Int32} {K : Int32 → AH → Prop} (k : ∀ h', chi S (S + 43) h h' → rpS h' S (oTrain A x y).2.2 → K (cr [-1, -2, -3] (oTrain A x y)) h') : wX7_bringTrain S x y h K := by
  have w := p.2.1.1
  have h12 := w.n12
  have hh := w.2.2.h12
  have h8 := i.1
  have hT : hbt (aT A) < 2 ^ 12 := hbt_lt _ fun t ht => ((i.it.2 t ht).b12 p.2.1.1.2.2).2
  unfold wX7_bringTrain
  simp only [p.1.o, p.1.m0, p.1.m1, p.1.m2, p.1.a33, p.1.l33, p.1.a34, p.1.l34, p.1.lg.o, true_and]
  have bad : ∀ {q : RsA}, oTrain A x y = q → q.2.2 = A → K (cr [-1, -2, -3] q) h := fun {q} e1 e2 => by
    have := k h (chi.rf _ _ h) (by rw [e1, e2]; exact p)
    rw [e1] at this
    exact this
  rcases iv_cases (gn (aL A)) (by omega) x with ⟨e1, hx⟩ | ⟨b, hb, rfl, e1⟩
  · simp only [c_hasN w hx, n0_eq, n1_ne, Nat.one_ne_zero, not_true_eq_false, false_implies, true_and, and_true, forall_const]
    exact bad (q := (1, nI 0, A)) (by unfold oTrain; rw [e1]) rfl
  rcases iv_cases (gn (aL A)) (by omega) y with ⟨e2, hx⟩ | ⟨d, hd, rfl, e2⟩
  · simp only [c_has w hb, c_hasN w hx, p.1.o, p.1.m0, p.1.m1, p.1.m2, p.1.a33, p.1.l33, p.1.a34, p.1.l34, p.1.lg.o, n0_eq, n1_ne, Nat.one_ne_zero, not_true_eq_false, not_false_eq_true, false_implies, true_and, and_true, forall_const]
    exact bad (q := (1, nI 0, A)) (by unfold oTrain; rw [e1, e2]) rfl
  have eo : oTrain A (nI b) (nI d) = if b = d then (2, nI 0, A) else if (aT A).length = 8 ∨ fre A b = false then (3, nI 0, A) else (0, nI (aC A), (aL A, aT A ++ [(aC A, b, d, [], 0, 0)], aQ A ++ [aC A], aC A + 1, aO A, aM A, aD A)) := by
    unfold oTrain
    rw [e1, e2]
  simp (disch := omega) only [c_has w hb, c_has w hd, p.1.o, p.1.m0, p.1.m1, p.1.m2, p.1.a33, p.1.l33, p.1.a34, p.1.l34, p.1.lg.o, n0_eq, n1_ne, Nat.one_ne_zero, nI_eq, not_true_eq_false, not_false_eq_true, false_implies, true_and, and_true, forall_const]
  by_cases d1 : b = d
  · simp only [d1, not_true_eq_false, false_implies, true_and, forall_const]
    exact bad (q := (2, nI 0, A)) (by rw [eo, if_pos d1]) rfl
  simp (disch := omega) only [d1, p.2.2.1, nI_leI, not_false_eq_true, false_implies, and_true, forall_const]
  by_cases d2 : (aT A).length = 8
  · simp only [show 8 ≤ (aT A).length by omega, not_true_eq_false, false_implies, and_true, forall_const]
    exact bad (q := (3, nI 0, A)) (by rw [eo, if_neg d1, if_pos (Or.inl d2)]) rfl
  simp only [show ¬ 8 ≤ (aT A).length by omega, not_false_eq_true, false_implies, true_and, forall_const]
  refine c_held p i.it ?_
  have hor : gh (aL A) ||| hbt (aT A) < 2 ^ 12 := or_lt hh hT
  simp (disch := omega) only [w.2.1.2.2.2.1, n_or, c_con (show gh (aL A) ||| hbt (aT A) < 2 ^ 31 by omega) (show b < 31 by omega), Nat.testBit_or, hbt_occ]
  have ef : fre A b = !((gh (aL A)).testBit b || (occ A b || resv A b)) := by
    unfold fre
    cases (gh (aL A)).testBit b <;> cases occ A b <;> cases resv A b <;> rfl
  cases hc : (gh (aL A)).testBit b || (occ A b || resv A b) with
  | true =>
    rw [hc] at ef
    simp only [if_true, n0_eq, n1_ne, Nat.one_ne_zero, not_false_eq_true, false_implies, true_and, forall_const]
    have ef' : fre A b = false := by rw [ef]; rfl
    exact bad (q := (3, nI 0, A)) (by rw [eo, if_neg d1, if_pos (Or.inr ef')]) rfl
  | false =>
    rw [hc] at ef
    have hnb : ¬ ((aT A).length = 8 ∨ fre A b = false) := fun z => z.elim d2 (fun z => by rw [ef] at z; cases z)
    rw [eo, if_neg d1, if_neg hnb] at k
    obtain ⟨s, r, c1, c2, c3, c4, c5, c6, c7, c8, c9, c10⟩ := id p
    have hl : (aT A).length < 8 := by omega
    have htr := s.tR hl
    unfold wX8_begin
    simp (disch := omega) only [Bool.false_eq_true, if_false, n0_eq, n1_ne, Nat.one_ne_zero, not_true_eq_false, false_implies, and_true, true_and, forall_const, s.o, s.m0, s.m1, s.m2, s.a33, s.l33, s.a34, s.l34, s.lg.o, isO_uI, isA_uI, ln_uI, mR_uI, isO_uR, isA_uR, ln_uR, mI_uR, isO_uL, isA_uL, ln_uL, mR_uL, mI_uL, mL_uI, mL_uR, isO_uA, isA_uA, ln_uA, mR_uA, mL_uA, mS_uI, mS_uR, mS_uL, mS_uA, c1, c3, nI_clamp, vp_in_nI, s.tO hl, forall_eq, mI_uI, show ¬ S = mR h (S + 33) (aT A).length by omega, false_and, if_false, nI_add, and_self, if_true, show ¬ (5 : Nat) = 3 by omega, and_false]
    generalize hc9 : mR h (S + 33) (aT A).length = c at *
    have cA : chi S (S + 43) h (uI (uI (uI (uI (uI (uI (uI (uI h c 0 (nI (aC A))) c 1 (nI b)) c 2 (nI d)) c 3 (nI 0)) c 4 (nI 0)) c 5 (nI 0)) S 3 (nI ((aT A).length + 1))) S 5 (nI (aC A + 1))) := ((((chi.uI (by omega) (by omega)).tr (chi.uI (by omega) (by omega))).tr ((chi.uI (by omega) (by omega)).tr (chi.uI (by omega) (by omega)))).tr ((chi.uI (by omega) (by omega)).tr (chi.uI (by omega) (by omega)))).tr ((chi.uI (by omega) (by omega)).tr (chi.uI (by omega) (by omega)))
    refine c_joinQueue (A := (aL A, aT A ++ [(aC A, b, d, [], 0, 0)], aQ A, aC A + 1, aO A, aM A, aD A)) ⟨s.ch cA, ?_, ?_, ?_, ?_, ?_, ?_, c6, fun j t ht => ?_, fun j q hq => ?_, ?_, c10⟩ ?_ (fun h' ch p' => k h' (cA.tr ch) p')
    · exact (((((((r.uI (by omega)).uI (by omega)).uI (by omega)).uI (by omega)).uI (by omega)).uI (by omega)).uI (by omega)).uI (by omega)
    · simp [mI_uI, aT]
    · have : ¬ S = c := by omega
      simp [mI_uI, this]; exact c2
    · simp [mI_uI, aC]
    · have : ¬ S = c := by omega
      simp [mI_uI, this]; exact c4
    · have : ¬ S = c := by omega
      simp [mI_uI, this]; exact c5
    · have ht' : (aT A ++ [(aC A, b, d, [], 0, 0)])[j]? = some t := ht
      by_cases e : j = (aT A).length
      · subst e
        rw [List.getElem?_append_right (Nat.le_refl _), Nat.sub_self] at ht'
        cases ht'
        show cnT _ (mR h (S + 33) (aT A).length) _
        rw [hc9]
        have : ¬ c = S := by omega
        refine ⟨?_, ?_, ?_, ?_, fun z => absurd rfl z, ?_⟩ <;> simp [mI_uI, this, tn, tb, td, tr, tl, bts]
      · have hlt : j < (aT A).length := by
          have := (List.getElem?_eq_some_iff.mp ht').1
          rw [List.length_append, List.length_singleton] at this
          omega
        rw [List.getElem?_append_left hlt] at ht'
        have hne : mR h (S + 33) j ≠ c := fun z => by
          rw [← hc9] at z
          have := s.ti (by omega) hl z
          omega
        have hj := s.tR (show j < 8 by omega)
        exact (c7 j t ht').ch (by
          show mI _ (mR h (S + 33) j) = _
          rw [mI_o (by omega), mI_o (by omega), mI_o hne, mI_o hne, mI_o hne, mI_o hne, mI_o hne, mI_o hne])
    · have h1 : ¬ S + 34 = c := by omega
      simp [mI_uI, h1]; exact c8 j q hq
    · show (aT A ++ [_]).length ≤ 8
      rw [List.length_append, List.length_singleton]
      omega
    · show (aQ A).length < 8
      have := i.ql
      omega
end MU3
