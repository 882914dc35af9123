/-! THE LINE GROWS -/
theorem cnt_o (f : Nat → Option Nat) (a : Nat) (v : Option Nat) : ∀ n, n ≤ a → (List.range n).countP (fun b => (ups f a v b).isSome) = (List.range n).countP (fun b => (f b).isSome) := by
  intro n
  induction n with
  | zero => intro _; rfl
  | succ n ih =>
    intro h
    rw [List.range_succ, List.countP_append, List.countP_append, ih (by omega)]
    congr 1
    simp only [List.countP_cons, List.countP_nil]
    rw [ups_o (by omega)]
theorem cnt_s (f : Nat → Option Nat) (a v : Nat) (hf : f a = none) : ∀ n, a < n → (List.range n).countP (fun b => (ups f a (some v) b).isSome) = (List.range n).countP (fun b => (f b).isSome) + 1 := by
  intro n
  induction n with
  | zero => intro h; omega
  | succ n ih =>
    intro h
    rw [List.range_succ, List.countP_append, List.countP_append]
    by_cases e : n = a
    · subst e
      rw [cnt_o f n (some v) n (Nat.le_refl n)]
      simp [ups_s, hf]
    · rw [ih (by omega)]
      simp only [List.countP_cons, List.countP_nil]
      rw [ups_o e]
      omega
theorem IL.block {G : LG} (i : IL G) {k : Nat} (hn : gn G < 12) (h1 : 1 ≤ k) (h9 : k ≤ 9) : IL (gBlock G k) := by
  obtain ⟨i1, i2, i3, i4, i5, i6, i7, i8, i9, i10⟩ := i
  refine ⟨hn, fun b hb => ?_, fun b hb => ?_, i4, i5, fun s hs => ?_, fun b hb hne => ?_, Nat.lt_of_lt_of_le i8 (Nat.pow_le_pow_right (by decide) (Nat.le_succ _)), i9, ?_⟩
  · show 1 ≤ ups (gl G) (gn G) k b ∧ ups (gl G) (gn G) k b ≤ 9
    by_cases e : b = gn G
    · subst e; rw [ups_s]; exact ⟨h1, h9⟩
    · rw [ups_o e]
      have : b < gn G + 1 := hb
      exact i2 b (by omega)
  · show (ups (gf G) (gn G) none b = none ∧ ups (gr G) (gn G) none b = none) ∨ ∃ l r, ups (gf G) (gn G) none b = some l ∧ ups (gr G) (gn G) none b = some r ∧ l < gn G + 1 ∧ r < gn G + 1 ∧ l ≠ b ∧ r ≠ b
    by_cases e : b = gn G
    · subst e; rw [ups_s, ups_s]; exact Or.inl ⟨rfl, rfl⟩
    · rw [ups_o e, ups_o e]
      have : b < gn G + 1 := hb
      rcases i3 b (by omega) with h | ⟨l, r, g1, g2, g3, g4, g5⟩
      · exact Or.inl h
      · exact Or.inr ⟨l, r, g1, g2, by omega, by omega, g5⟩
  · have hs' := i6 s hs
    refine ⟨Nat.lt_succ_of_lt hs'.1, ?_⟩
    show ups (gf G) (gn G) none s ≠ ups (gr G) (gn G) none s
    rw [ups_o (by omega), ups_o (by omega)]
    exact hs'.2
  · have hne' : ups (gf G) (gn G) none b ≠ ups (gr G) (gn G) none b := hne
    by_cases e : b = gn G
    · subst e; rw [ups_s, ups_s] at hne'; exact absurd rfl hne'
    · rw [ups_o e, ups_o e] at hne'
      have : b < gn G + 1 := hb
      exact i7 b (by omega) hne'
  · show (List.range (gn G + 1)).countP (fun b => (ups (gf G) (gn G) none b).isSome) = _
    rw [List.range_succ, List.countP_append, cnt_o _ _ _ _ (Nat.le_refl _), i10]
    simp [ups_s]
    rfl
theorem IL.point {G : LG} (i : IL G) {s l r : Nat} (hs : s < gn G) (hl : l < gn G) (hr : r < gn G) (h1 : s ≠ l) (h2 : s ≠ r) (h3 : l ≠ r) (h8 : (gp G).length < 8) (hf : gf G s = none) : IL (gPoint G s l r) := by
  obtain ⟨i1, i2, i3, i4, i5, i6, i7, i8, i9, i10⟩ := i
  have hrr : gr G s = none := by
    rcases i3 s hs with ⟨-, h⟩ | ⟨l', r', g1, -⟩
    · exact h
    · rw [hf] at g1; cases g1
  have hsp : s ∉ gp G := fun z => (i6 s z).2 (by rw [hf, hrr])
  refine ⟨i1, i2, fun b hb => ?_, ?_, ?_, fun x hx => ?_, fun b hb hne => ?_, i8, fun b hb => List.mem_append_left _ (i9 b hb), ?_⟩
  · show (ups (gf G) s (some l) b = none ∧ ups (gr G) s (some r) b = none) ∨ ∃ l' r', ups (gf G) s (some l) b = some l' ∧ ups (gr G) s (some r) b = some r' ∧ l' < gn G ∧ r' < gn G ∧ l' ≠ b ∧ r' ≠ b
    by_cases e : b = s
    · subst e; rw [ups_s, ups_s]; exact Or.inr ⟨l, r, rfl, rfl, hl, hr, fun z => h1 z.symm, fun z => h2 z.symm⟩
    · rw [ups_o e, ups_o e]; exact i3 b hb
  · show (gp G ++ [s]).Nodup
    rw [List.nodup_append]
    exact ⟨i4, List.nodup_cons.mpr ⟨List.not_mem_nil, List.nodup_nil⟩, fun x hx y hy => by rw [List.mem_singleton.mp hy]; exact fun z => hsp (z ▸ hx)⟩
  · show (gp G ++ [s]).length ≤ 8
    rw [List.length_append, List.length_singleton]
    omega
  · show x < gn G ∧ ups (gf G) s (some l) x ≠ ups (gr G) s (some r) x
    rcases List.mem_append.mp hx with hx | hx
    · have e : x ≠ s := fun z => hsp (z ▸ hx)
      rw [ups_o e, ups_o e]
      exact i6 x hx
    · rw [List.mem_singleton.mp hx, ups_s, ups_s]
      exact ⟨hs, fun z => h3 (by cases z; rfl)⟩
  · show b ∈ gp G ++ [s]
    have hne' : ups (gf G) s (some l) b ≠ ups (gr G) s (some r) b := hne
    by_cases e : b = s
    · exact List.mem_append_right _ (List.mem_singleton.mpr e)
    · rw [ups_o e, ups_o e] at hne'
      exact List.mem_append_left _ (i7 b hb hne')
  · show (List.range (gn G)).countP (fun b => (ups (gf G) s (some l) b).isSome) = (gp G ++ [s]).length + gk G
    rw [cnt_s _ _ _ hf _ hs, i10, List.length_append, List.length_singleton]
    omega
theorem IL.link {G : LG} (i : IL G) {f t : Nat} (hs : f < gn G) (hl : t < gn G) (h1 : f ≠ t) (hf : gf G f = none) : IL (gLink G f t) := by
  obtain ⟨i1, i2, i3, i4, i5, i6, i7, i8, i9, i10⟩ := i
  have hrr : gr G f = none := by
    rcases i3 f hs with ⟨-, h⟩ | ⟨l', r', g1, -⟩
    · exact h
    · rw [hf] at g1; cases g1
  have hsp : f ∉ gp G := fun z => (i6 f z).2 (by rw [hf, hrr])
  refine ⟨i1, i2, fun b hb => ?_, i4, i5, fun x hx => ?_, fun b hb hne => ?_, i8, i9, ?_⟩
  · show (ups (gf G) f (some t) b = none ∧ ups (gr G) f (some t) b = none) ∨ ∃ l' r', ups (gf G) f (some t) b = some l' ∧ ups (gr G) f (some t) b = some r' ∧ l' < gn G ∧ r' < gn G ∧ l' ≠ b ∧ r' ≠ b
    by_cases e : b = f
    · subst e; rw [ups_s, ups_s]; exact Or.inr ⟨t, t, rfl, rfl, hl, hl, fun z => h1 z.symm, fun z => h1 z.symm⟩
    · rw [ups_o e, ups_o e]; exact i3 b hb
  · show x < gn G ∧ ups (gf G) f (some t) x ≠ ups (gr G) f (some t) x
    have e : x ≠ f := fun z => hsp (z ▸ hx)
    rw [ups_o e, ups_o e]
    exact i6 x hx
  · have hne' : ups (gf G) f (some t) b ≠ ups (gr G) f (some t) b := hne
    by_cases e : b = f
    · subst e; rw [ups_s, ups_s] at hne'; exact absurd rfl hne'
    · rw [ups_o e, ups_o e] at hne'
      exact i7 b hb hne'
  · show (List.range (gn G)).countP (fun b => (ups (gf G) f (some t) b).isSome) = (gp G).length + (gk G + 1)
    rw [cnt_s _ _ _ hf _ hs, i10]
    omega
section MK
variable {h : AH} {a : Nat} {G : LG}
theorem rpW.xn (r : rpW h a G) {b : Nat} (hb : b < gn G) (hf : gf G b = none) : gr G b = none := by
  rcases r.2.2.2.2.1 b hb with ⟨-, h⟩ | ⟨l', r', g1, -⟩
  · exact h
  · rw [hf] at g1; cases g1
/-- numbers written by the fields: what becomes of the line's content -/
theorem cnG.up {h' : AH} {G' : LG} (h0 : mI h' a 0 = nI (gn G')) (h1 : mI h' a 1 = nI (gp G').length) (h2 : mI h' a 2 = nI (gk G')) (h3 : mI h' a 3 = nI (gh G')) (h4 : mI h' a 4 = nI (gd G')) (h5 : ∀ b, b < gn G' → mI h' (a + 1) b = nI (gl G' b)) (h6 : ∀ b, b < gn G' → mI h' (a + 2) b = oI (gf G' b)) (h7 : ∀ b, b < gn G' → mI h' (a + 3) b = oI (gr G' b)) (h8 : ∀ p s, (gp G')[p]? = some s → mI h' (a + 4) p = nI s) : cnG h' a G' := ⟨h0, h1, h2, h3, h4, h5, h6, h7, h8⟩
theorem c_makeBlock {R : List TG × List Nat × Nat × Nat × Nat × Nat} (r : rpL h a G) {x : Int32} {K : Int32 → AH → Prop} (k : ∀ h', chi a (a + 32) h h' → rpL h' a (aL (oBlock (G, R) x).2.2) → K (cr [-2, -3] (oBlock (G, R) x)) h') : wX4_makeBlock a x h K := by
  have h12 := r.1.n12
  have w := r.1
  unfold wX4_makeBlock
  unfold oBlock at k
  by_cases hx : x < nI 1
  · rw [if_pos (Or.inl hx)] at k
    simp only [hx, not_true_eq_false, false_implies, and_true, forall_const]
    exact k h (chi.rf _ _ h) r
  · by_cases hx9 : nI 9 < x
    · rw [if_pos (Or.inr hx9)] at k
      have : ¬ x ≤ nI 9 := by rw [lt_nge hx9]; exact id
      simp only [hx, this, not_false_eq_true, false_implies, true_and, forall_const]
      exact k h (chi.rf _ _ h) r
    · rw [if_neg (fun z => z.elim hx hx9)] at k
      obtain ⟨j, hj, hj1, rfl⟩ := nI_of1 hx
      rw [nI_ltI (by decide) hj] at hx9
      rw [nI_clamp hj] at k
      by_cases hn : gn G = 12
      · rw [show gn (aL (G, R)) = gn G from rfl, if_pos hn] at k
        simp (disch := omega) only [nI_ltI, nI_leI, show ¬ j < 1 by omega, show j ≤ 9 by omega, w.2.1.1, show ¬ gn G < 12 by omega, w.1.o, not_true_eq_false, not_false_eq_true, false_implies, true_and, and_true, forall_const]
        exact k h (chi.rf _ _ h) r
      · rw [show gn (aL (G, R)) = gn G from rfl, if_neg hn] at k
        simp (disch := omega) only [nI_ltI, nI_leI, show ¬ j < 1 by omega, show j ≤ 9 by omega, w.2.1.1, show gn G < 12 by omega, w.1.o, w.1.m5, w.1.m6, w.1.m7, w.1.m8, w.1.m9, w.1.m10, w.1.m11, w.1.a1, w.1.a2, w.1.a3, w.1.a4, w.1.a5, w.1.a18, w.1.a31, w.1.l1, w.1.l2, w.1.l3, w.1.l4, w.1.l5, w.1.l18, w.1.l31, w.1.z, w.1.r5, w.1.r18, w.1.a6, w.1.l6, w.1.a19, w.1.l19, isO_uI, isA_uI, ln_uI, mR_uI, isO_uR, isA_uR, ln_uR, mI_uR, isO_uL, isA_uL, ln_uL, mR_uL, mI_uL, mL_uI, mL_uR, isO_uA, isA_uA, ln_uA, mR_uA, mL_uA, mS_uI, mS_uR, mS_uL, mS_uA, not_true_eq_false, not_false_eq_true, false_implies, true_and, and_true, forall_const, vp_in_nI, nI_clamp, forall_eq, mI_uI, show ¬ a = a + 1 by omega, show ¬ a = a + 2 by omega, show ¬ a = a + 3 by omega, false_and, if_false, nI_add]
        refine c_learn (G := gBlock G j) ?_ (fun h' c q => ?_)
        · have i' := w.2.2.block (k := j) (by omega) (by omega) (by omega)
          have ch : chi a (a + 32) h (uI (uI (uI (uI h (a + 1) (gn G) (nI j)) (a + 2) (gn G) (-1)) (a + 3) (gn G) (-1)) a 0 (nI (gn G + 1))) := ((chi.uI (by omega) (by omega)).tr (chi.uI (by omega) (by omega))).tr ((chi.uI (by omega) (by omega)).tr (chi.uI (by omega) (by omega)))
          refine ⟨w.1.ch ch, cnG.up ?_ ?_ ?_ ?_ ?_ (fun b hb => ?_) (fun b hb => ?_) (fun b hb => ?_) (fun p s hp => ?_), i'⟩
          · simp [mI_uI, gBlock, gn]
          · simp [mI_uI]; exact w.2.1.2.1
          · simp [mI_uI]; exact w.2.1.2.2.1
          · simp [mI_uI]; exact w.2.1.2.2.2.1
          · simp [mI_uI]; exact w.2.1.2.2.2.2.1
          · show _ = nI (ups (gl G) (gn G) j b)
            have hb' : b < gn G + 1 := hb
            by_cases e : b = gn G
            · subst e; simp [mI_uI, ups_s]
            · rw [ups_o e]; simp [mI_uI, e]; exact w.le (by omega)
          · show _ = oI (ups (gf G) (gn G) none b)
            have hb' : b < gn G + 1 := hb
            by_cases e : b = gn G
            · subst e; simp [mI_uI, ups_s, oI_none]
            · rw [ups_o e]; simp [mI_uI, e]; exact w.lf (by omega)
          · show _ = oI (ups (gr G) (gn G) none b)
            have hb' : b < gn G + 1 := hb
            by_cases e : b = gn G
            · subst e; simp [mI_uI, ups_s, oI_none]
            · rw [ups_o e]; simp [mI_uI, e]; exact w.rf (by omega)
          · simp [mI_uI]; exact w.st hp
        · refine ⟨q.1.1.o, ?_⟩
          rw [q.1.2.1.1]
          have := k h' ((((chi.uI (by omega) (by omega)).tr (chi.uI (by omega) (by omega))).tr ((chi.uI (by omega) (by omega)).tr (chi.uI (by omega) (by omega)))).tr (c.mo (by omega) (Nat.le_refl _))) q
          rw [show gn (gBlock G j) = gn G + 1 from rfl, pk_sub (by omega)]
          exact this
theorem iv_rd (n : Nat) (x : Int32) (h : x < nI 0 ∨ nI n ≤ x) : iv n x = none := if_pos h
theorem c_makePoint {R : List TG × List Nat × Nat × Nat × Nat × Nat} (r : rpL h a G) {x y z : Int32} {K : Int32 → AH → Prop} (k : ∀ h', chi a (a + 32) h h' → rpL h' a (aL (oPoint (G, R) x y z).2.2) → K (cr [-1, -2, -3] (oPoint (G, R) x y z)) h') : wX4_makePoint a x y z h K := by
  have w := r.1
  have h12 := w.n12
  have bad : ∀ {q : RsA}, oPoint (G, R) x y z = q → q.2.2 = (G, R) → K (cr [-1, -2, -3] q) h := fun {q} e1 e2 => by
    have := k h (chi.rf _ _ h) (by rw [e1, e2]; exact r)
    rw [e1] at this
    exact this
  unfold wX4_makePoint
  have g0 : gn (aL ((G, R) : AG)) = gn G := rfl
  rcases iv_cases (gn G) (by omega) x with ⟨e1, hx⟩ | ⟨s, hs, rfl, e1⟩
  · simp only [c_hasN w hx, w.1.o, n0_eq, not_true_eq_false, false_implies, true_and, and_true, forall_const]
    exact bad (q := (1, nI 0, (G, R))) (by unfold oPoint; rw [g0, e1]) rfl
  rcases iv_cases (gn G) (by omega) y with ⟨e2, hx⟩ | ⟨l, hl, rfl, e2⟩
  · simp only [c_has w hs, c_hasN w hx, w.1.o, n0_eq, n1_ne, not_true_eq_false, not_false_eq_true, false_implies, true_and, and_true, forall_const]
    exact bad (q := (1, nI 0, (G, R))) (by unfold oPoint; rw [g0, e1, e2]) rfl
  rcases iv_cases (gn G) (by omega) z with ⟨e3, hx⟩ | ⟨r', hr, rfl, e3⟩
  · simp only [c_has w hs, c_has w hl, c_hasN w hx, w.1.o, n0_eq, n1_ne, not_true_eq_false, not_false_eq_true, false_implies, true_and, and_true, forall_const]
    exact bad (q := (1, nI 0, (G, R))) (by unfold oPoint; rw [g0, e1, e2, e3]) rfl
  have eo : oPoint (G, R) (nI s) (nI l) (nI r') = if s = l ∨ s = r' ∨ l = r' then (2, nI 0, (G, R)) else if (gp G).length = 8 ∨ (gf G s).isSome then (3, nI 0, (G, R)) else (0, nI (gp G).length, (gPoint G s l r', R)) := by
    unfold oPoint
    rw [g0, e1, e2, e3]
    rfl
  have h8 : (gp G).length ≤ 8 := w.2.2.2.2.2.2.1
  by_cases d1 : s = l
  · simp (disch := omega) only [c_has w hs, c_has w hl, c_has w hr, w.1.o, n0_eq, n1_ne, Nat.one_ne_zero, nI_eq, d1, not_true_eq_false, not_false_eq_true, false_implies, true_and, and_true, forall_const]
    exact bad (q := (2, nI 0, (G, R))) (by rw [eo, if_pos (Or.inl d1)]) rfl
  by_cases d2 : s = r'
  · simp (disch := omega) only [c_has w hs, c_has w hl, c_has w hr, w.1.o, n0_eq, n1_ne, Nat.one_ne_zero, nI_eq, d1, d2, not_true_eq_false, not_false_eq_true, false_implies, true_and, and_true, forall_const]
    exact ⟨fun _ => bad (q := (2, nI 0, (G, R))) (by rw [eo, if_pos (Or.inr (Or.inl d2))]) rfl, fun _ => bad (q := (2, nI 0, (G, R))) (by rw [eo, if_pos (Or.inr (Or.inl d2))]) rfl⟩
  by_cases d3 : l = r'
  · simp (disch := omega) only [c_has w hs, c_has w hl, c_has w hr, w.1.o, n0_eq, n1_ne, Nat.one_ne_zero, nI_eq, d1, d2, d3, not_true_eq_false, not_false_eq_true, false_implies, true_and, and_true, forall_const]
    exact bad (q := (2, nI 0, (G, R))) (by rw [eo, if_pos (Or.inr (Or.inr d3))]) rfl
  have nd : ¬ (s = l ∨ s = r' ∨ l = r') := fun z => z.elim d1 (fun z => z.elim d2 d3)
  by_cases d4 : (gp G).length = 8
  · simp (disch := omega) only [c_has w hs, c_has w hl, c_has w hr, w.1.o, n0_eq, n1_ne, Nat.one_ne_zero, nI_eq, d1, d2, d3, w.2.1.2.1, nI_leI, show 8 ≤ (gp G).length by omega, not_true_eq_false, not_false_eq_true, false_implies, true_and, and_true, forall_const]
    exact bad (q := (3, nI 0, (G, R))) (by rw [eo, if_neg nd, if_pos (Or.inl d4)]) rfl
  cases hf : gf G s with
  | some v =>
    simp (disch := omega) only [c_has w hs, c_has w hl, c_has w hr, c_hasExit w hs, hf, Option.isSome_some, if_true, w.1.o, n0_eq, n1_ne, Nat.one_ne_zero, nI_eq, d1, d2, d3, w.2.1.2.1, nI_leI, show ¬ 8 ≤ (gp G).length by omega, not_true_eq_false, not_false_eq_true, false_implies, true_and, and_true, forall_const]
    exact bad (q := (3, nI 0, (G, R))) (by rw [eo, if_neg nd, if_pos (Or.inr (by rw [hf]; rfl))]) rfl
  | none =>
    simp (disch := omega) only [c_has w hs, c_has w hl, c_has w hr, c_hasExit w hs, hf, Option.isSome_none, Bool.false_eq_true, if_false, w.1.o, w.1.m5, w.1.m6, w.1.m7, w.1.m8, w.1.m9, w.1.m10, w.1.m11, w.1.a1, w.1.a2, w.1.a3, w.1.a4, w.1.a5, w.1.a18, w.1.a31, w.1.l1, w.1.l2, w.1.l3, w.1.l4, w.1.l5, w.1.l18, w.1.l31, w.1.z, w.1.r5, w.1.r18, w.1.a6, w.1.l6, w.1.a19, w.1.l19, isO_uI, isA_uI, ln_uI, mR_uI, isO_uR, isA_uR, ln_uR, mI_uR, isO_uL, isA_uL, ln_uL, mR_uL, mI_uL, mL_uI, mL_uR, isO_uA, isA_uA, ln_uA, mR_uA, mL_uA, mS_uI, mS_uR, mS_uL, mS_uA, n0_eq, n1_ne, Nat.one_ne_zero, nI_eq, d1, d2, d3, w.2.1.2.1, nI_leI, show ¬ 8 ≤ (gp G).length by omega, not_true_eq_false, not_false_eq_true, false_implies, true_and, and_true, forall_const, vp_in_nI, nI_clamp, forall_eq, mI_uI, show ¬ a = a + 1 by omega, show ¬ a = a + 2 by omega, show ¬ a = a + 3 by omega, show ¬ a = a + 4 by omega, false_and, if_false, nI_add]
    have i' := w.2.2.point hs hl hr d1 d2 d3 (by omega) hf
    have ch : chi a (a + 32) h (uI (uI (uI (uI h (a + 2) s (nI l)) (a + 3) s (nI r')) (a + 4) (gp G).length (nI s)) a 1 (nI ((gp G).length + 1))) := ((chi.uI (by omega) (by omega)).tr (chi.uI (by omega) (by omega))).tr ((chi.uI (by omega) (by omega)).tr (chi.uI (by omega) (by omega)))
    refine c_learn (G := gPoint G s l r') ⟨w.1.ch ch, cnG.up ?_ ?_ ?_ ?_ ?_ (fun b hb => ?_) (fun b hb => ?_) (fun b hb => ?_) (fun p t hp => ?_), i'⟩ (fun h' c q => ?_)
    · simp [mI_uI]; exact w.2.1.1
    · simp [mI_uI, gPoint, gp]
    · simp [mI_uI]; exact w.2.1.2.2.1
    · simp [mI_uI]; exact w.2.1.2.2.2.1
    · simp [mI_uI]; exact w.2.1.2.2.2.2.1
    · simp [mI_uI]; exact w.le hb
    · show _ = oI (ups (gf G) s (some l) b)
      by_cases e : b = s
      · subst e; simp [mI_uI, ups_s, oI_some]
      · rw [ups_o e]; simp [mI_uI, e]; exact w.lf hb
    · show _ = oI (ups (gr G) s (some r') b)
      by_cases e : b = s
      · subst e; simp [mI_uI, ups_s, oI_some]
      · rw [ups_o e]; simp [mI_uI, e]; exact w.rf hb
    · have hp' : (gp G ++ [s])[p]? = some t := hp
      by_cases e : p = (gp G).length
      · subst e
        rw [List.getElem?_append_right (Nat.le_refl _), Nat.sub_self] at hp'
        cases hp'
        simp [mI_uI]
      · have hlt : p < (gp G).length := by
          have := (List.getElem?_eq_some_iff.mp hp').1
          rw [List.length_append, List.length_singleton] at this
          omega
        rw [List.getElem?_append_left hlt] at hp'
        simp [mI_uI, e]
        exact w.st hp'
    · refine ⟨q.1.1.o, ?_⟩
      rw [q.1.2.1.2.1]
      have := k h' (ch.tr (c.mo (by omega) (Nat.le_refl _))) (by rw [eo, if_neg nd, if_neg (by rw [hf]; simpa using d4)]; exact q)
      rw [eo, if_neg nd, if_neg (by rw [hf]; simpa using d4)] at this
      rw [show (gp (gPoint G s l r')).length = (gp G).length + 1 by simp [gPoint, gp], pk_sub (by omega)]
      exact this
theorem c_makeLink {R : List TG × List Nat × Nat × Nat × Nat × Nat} (r : rpL h a G) {x y : Int32} {K : Int32 → AH → Prop} (k : ∀ h', chi a (a + 32) h h' → rpL h' a (aL (oLink (G, R) x y).2.2) → K (cr [-1, -2, -3] (oLink (G, R) x y)) h') : wX4_makeLink a x y h K := by
  have w := r.1
  have h12 := w.n12
  have bad : ∀ {q : RsA}, oLink (G, R) x y = q → q.2.2 = (G, R) → K (cr [-1, -2, -3] q) h := fun {q} e1 e2 => by
    have := k h (chi.rf _ _ h) (by rw [e1, e2]; exact r)
    rw [e1] at this
    exact this
  unfold wX4_makeLink
  have g0 : gn (aL ((G, R) : AG)) = gn G := rfl
  rcases iv_cases (gn G) (by omega) x with ⟨e1, hx⟩ | ⟨s, hs, rfl, e1⟩
  · simp only [c_hasN w hx, w.1.o, n0_eq, not_true_eq_false, false_implies, true_and, and_true, forall_const]
    exact bad (q := (1, nI 0, (G, R))) (by unfold oLink; rw [g0, e1]) rfl
  rcases iv_cases (gn G) (by omega) y with ⟨e2, hx⟩ | ⟨l, hl, rfl, e2⟩
  · simp only [c_has w hs, c_hasN w hx, w.1.o, n0_eq, n1_ne, not_true_eq_false, not_false_eq_true, false_implies, true_and, and_true, forall_const]
    exact bad (q := (1, nI 0, (G, R))) (by unfold oLink; rw [g0, e1, e2]) rfl
  have eo : oLink (G, R) (nI s) (nI l) = if s = l then (2, nI 0, (G, R)) else if (gf G s).isSome then (3, nI 0, (G, R)) else (0, nI (gk G + 1), (gLink G s l, R)) := by
    unfold oLink
    rw [g0, e1, e2]
    rfl
  by_cases d1 : s = l
  · simp (disch := omega) only [c_has w hs, c_has w hl, w.1.o, n0_eq, n1_ne, Nat.one_ne_zero, nI_eq, d1, not_true_eq_false, not_false_eq_true, false_implies, true_and, and_true, forall_const]
    exact bad (q := (2, nI 0, (G, R))) (by rw [eo, if_pos d1]) rfl
  cases hf : gf G s with
  | some v =>
    simp (disch := omega) only [c_has w hs, c_has w hl, c_hasExit w hs, hf, Option.isSome_some, if_true, w.1.o, n0_eq, n1_ne, Nat.one_ne_zero, nI_eq, d1, not_true_eq_false, not_false_eq_true, false_implies, true_and, and_true, forall_const]
    exact bad (q := (3, nI 0, (G, R))) (by rw [eo, if_neg d1, if_pos (by rw [hf]; rfl)]) rfl
  | none =>
    simp (disch := omega) only [c_has w hs, c_has w hl, c_hasExit w hs, hf, Option.isSome_none, Bool.false_eq_true, if_false, w.1.o, w.1.m5, w.1.m6, w.1.m7, w.1.m8, w.1.m9, w.1.m10, w.1.m11, w.1.a1, w.1.a2, w.1.a3, w.1.a4, w.1.a5, w.1.a18, w.1.a31, w.1.l1, w.1.l2, w.1.l3, w.1.l4, w.1.l5, w.1.l18, w.1.l31, w.1.z, w.1.r5, w.1.r18, w.1.a6, w.1.l6, w.1.a19, w.1.l19, isO_uI, isA_uI, ln_uI, mR_uI, isO_uR, isA_uR, ln_uR, mI_uR, isO_uL, isA_uL, ln_uL, mR_uL, mI_uL, mL_uI, mL_uR, isO_uA, isA_uA, ln_uA, mR_uA, mL_uA, mS_uI, mS_uR, mS_uL, mS_uA, n0_eq, n1_ne, Nat.one_ne_zero, nI_eq, d1, w.2.1.2.2.1, not_true_eq_false, not_false_eq_true, false_implies, true_and, and_true, forall_const, vp_in_nI, nI_clamp, forall_eq, mI_uI, show ¬ a = a + 1 by omega, show ¬ a = a + 2 by omega, show ¬ a = a + 3 by omega, show ¬ a = a + 4 by omega, false_and, if_false, nI_add]
    have i' := w.2.2.link hs hl d1 hf
    have ch : chi a (a + 32) h (uI (uI (uI h (a + 2) s (nI l)) (a + 3) s (nI l)) a 2 (nI (gk G + 1))) := ((chi.uI (by omega) (by omega)).tr (chi.uI (by omega) (by omega))).tr (chi.uI (by omega) (by omega))
    refine c_learn (G := gLink G s l) ⟨w.1.ch ch, cnG.up ?_ ?_ ?_ ?_ ?_ (fun b hb => ?_) (fun b hb => ?_) (fun b hb => ?_) (fun p t hp => ?_), i'⟩ (fun h' c q => ?_)
    · simp [mI_uI]; exact w.2.1.1
    · simp [mI_uI]; exact w.2.1.2.1
    · simp [mI_uI, gLink, gk]
    · simp [mI_uI]; exact w.2.1.2.2.2.1
    · simp [mI_uI]; exact w.2.1.2.2.2.2.1
    · simp [mI_uI]; exact w.le hb
    · show _ = oI (ups (gf G) s (some l) b)
      by_cases e : b = s
      · subst e; simp [mI_uI, ups_s, oI_some]
      · rw [ups_o e]; simp [mI_uI, e]; exact w.lf hb
    · show _ = oI (ups (gr G) s (some l) b)
      by_cases e : b = s
      · subst e; simp [mI_uI, ups_s, oI_some]
      · rw [ups_o e]; simp [mI_uI, e]; exact w.rf hb
    · simp [mI_uI]; exact w.st hp
    · refine ⟨q.1.1.o, ?_⟩
      rw [q.1.2.1.2.2.1]
      have := k h' (ch.tr (c.mo (by omega) (Nat.le_refl _))) (by rw [eo, if_neg d1, hf]; exact q)
      rw [eo, if_neg d1, hf] at this
      exact this
end MK
