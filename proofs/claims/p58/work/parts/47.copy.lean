/-! COPIES OF STATES -/
section CP
variable {h g : AH} {s d w : Nat} {A : AG} {G : LG} {P : Nat → Nat → Prop}
/-- the numbers of P are copied from s on to d on -/
def cpd (P : Nat → Nat → Prop) (s d w : Nat) (h g : AH) : Prop := chi d (d + w) h g ∧ ∀ j k, P j k → mI g (d + j) k = mI h (s + j) k
theorem cpd.mo {Q : Nat → Nat → Prop} (c : cpd P s d w h g) (hq : ∀ j k, Q j k → P j k) : cpd Q s d w h g := ⟨c.1, fun j k z => c.2 j k (hq j k z)⟩
theorem cpd.i (c : cpd P s d w h g) (hd : d + w ≤ s ∨ s + w ≤ d) {j : Nat} (hj : j < w) (k : Nat) : cpd (fun a b => P a b ∨ (a = j ∧ b = k)) s d w h (uI g (d + j) k (mI g (s + j) k)) := by
  refine ⟨c.1.tr (chi.uI (by omega) (by omega)), fun a b z => ?_⟩
  rw [mI_uI]
  by_cases e : d + a = d + j ∧ b = k
  · rw [if_pos e]
    obtain ⟨e1, rfl⟩ := e
    have : a = j := by omega
    subst this
    rw [c.1.2.2.2.2 (s + a) (by omega)]
  · rw [if_neg e]
    rcases z with z | ⟨rfl, rfl⟩
    · exact c.2 a b z
    · exact absurd ⟨rfl, rfl⟩ e
theorem cpd.a (c : cpd P s d w h g) (hd : d + w ≤ s ∨ s + w ≤ d) {j : Nat} (hj : j < w) {n : Nat} : cpd (fun a b => P a b ∨ (a = j ∧ b < n)) s d w h (uA g (d + j) (va_cpy (mI g (s + j)) (mI g (d + j)) 0 0 n)) := by
  refine ⟨c.1.tr (chi.uA (by omega) (by omega)), fun a b z => ?_⟩
  rw [mI_uA]
  by_cases e : d + a = d + j
  · rw [if_pos e]
    have : a = j := by omega
    subst this
    unfold va_cpy
    simp only [Nat.zero_le, Nat.zero_add, Nat.sub_zero, true_and]
    by_cases e2 : b < n
    · rw [if_pos e2, c.1.2.2.2.2 (s + a) (by omega)]
    · rw [if_neg e2]
      rcases z with z | ⟨-, z⟩
      · exact c.2 a b z
      · exact absurd z e2
  · rw [if_neg e]
    rcases z with z | ⟨rfl, -⟩
    · exact c.2 a b z
    · exact absurd rfl e
def CPL (x j k : Nat) : Prop := (j = 0 ∧ k < 5) ∨ (1 ≤ j ∧ j ≤ 3 ∧ k < 12) ∨ (j = 4 ∧ k < 8) ∨ (6 ≤ j ∧ j < 6 + x ∧ k < 12) ∨ (19 ≤ j ∧ j < 19 + x ∧ k < 12)
theorem copyL_l {h : AH} (ss : shL h s) (sd : shL h d) (hd : d + 32 ≤ s ∨ s + 32 ≤ d) {K : AH → Prop} (k : ∀ g, cpd (CPL 12) s d 32 h g → K g) : ∀ j x g, x + j = 12 → cpd (CPL x) s d 32 h g → wX4_copyFrom_L102 K (j + 1) d s (nI x) g := by
  intro j
  induction j with
  | zero =>
    intro x g hx c
    have hx' : x = 12 := by omega
    subst hx'
    rw [wX4_copyFrom_L102]; dsimp only
    exact ⟨fun _ => k g c, fun z => absurd (nI_le (Nat.le_refl _) (by omega)) z⟩
  | succ j ih =>
    intro x g hx c
    rw [wX4_copyFrom_L102]; dsimp only
    refine ⟨fun z => absurd z (nI_ge (by omega) (by omega)), fun _ => ?_⟩
    have s1 := ss.ch c.1
    have s2 := sd.ch c.1
    simp (disch := omega) only [s1.o, s1.m5, s1.m6, s1.m7, s1.m8, s1.m9, s1.m10, s1.m11, s1.a1, s1.a2, s1.a3, s1.a4, s1.a5, s1.a18, s1.a31, s1.l1, s1.l2, s1.l3, s1.l4, s1.l5, s1.l18, s1.l31, s1.z, s1.r5, s1.r18, s1.a6, s1.l6, s1.a19, s1.l19, s2.o, s2.m5, s2.m6, s2.m7, s2.m8, s2.m9, s2.m10, s2.m11, s2.a1, s2.a2, s2.a3, s2.a4, s2.a5, s2.a18, s2.a31, s2.l1, s2.l2, s2.l3, s2.l4, s2.l5, s2.l18, s2.l31, s2.z, s2.r5, s2.r18, s2.a6, s2.l6, s2.a19, s2.l19, nI_clamp, vp_in_nI, Nat.zero_add, Nat.le_refl, true_and]
    have z1 := ss.1
    have z2 := sd.1
    refine ⟨by show 64 ≤ s + 6 + x; omega, by show 64 ≤ d + 6 + x; omega, fun g1 e1 => ⟨by show 64 ≤ s + 19 + x; omega, by show 64 ≤ d + 19 + x; omega, fun g2 e2 => ?_⟩⟩
    have c1 := c.a hd (j := 6 + x) (by omega) (n := 12)
    simp only [← Nat.add_assoc] at c1
    rw [← e1] at c1
    have c2 := c1.a hd (j := 19 + x) (by omega) (n := 12)
    simp only [← Nat.add_assoc] at c2
    rw [← e2] at c2
    rw [nI_add]
    refine ih (x + 1) g2 (by omega) (c2.mo (fun a b z => ?_))
    unfold CPL at z ⊢
    omega
theorem c_copyL (ss : rpL h s G) (sd : shL h d) (hd : d + 32 ≤ s ∨ s + 32 ≤ d) {K : AH → Prop} (k : ∀ g, chi d (d + 32) h g → rpL g d G → K g) : wX4_copyFrom d s h K := by
  have s1 := ss.1.1
  unfold wX4_copyFrom
  simp (disch := omega) only [s1.o, s1.m5, s1.m6, s1.m7, s1.m8, s1.m9, s1.m10, s1.m11, s1.a1, s1.a2, s1.a3, s1.a4, s1.a5, s1.a18, s1.a31, s1.l1, s1.l2, s1.l3, s1.l4, s1.l5, s1.l18, s1.l31, s1.z, s1.r5, s1.r18, s1.a6, s1.l6, s1.a19, s1.l19, sd.o, sd.m5, sd.m6, sd.m7, sd.m8, sd.m9, sd.m10, sd.m11, sd.a1, sd.a2, sd.a3, sd.a4, sd.a5, sd.a18, sd.a31, sd.l1, sd.l2, sd.l3, sd.l4, sd.l5, sd.l18, sd.l31, sd.z, sd.r5, sd.r18, sd.a6, sd.l6, sd.a19, sd.l19, nI_clamp, Nat.zero_add, Nat.le_refl, true_and]
  intro g1 e1 g2 e2 g3 e3 g4 e4 g5 e5 g6 e6 g7 e7 g8 e8 g9 e9
  have c0 : cpd (fun _ _ => False) s d 32 h h := ⟨chi.rf _ _ _, fun _ _ z => z.elim⟩
  have c1 := c0.i hd (j := 0) (by omega) 0
  rw [Nat.add_zero, Nat.add_zero, ← e1] at c1
  have c2 := c1.i hd (j := 0) (by omega) 1
  rw [Nat.add_zero, Nat.add_zero, ← e2] at c2
  have c3 := c2.i hd (j := 0) (by omega) 2
  rw [Nat.add_zero, Nat.add_zero, ← e3] at c3
  have c4 := c3.i hd (j := 0) (by omega) 3
  rw [Nat.add_zero, Nat.add_zero, ← e4] at c4
  have c5 := c4.i hd (j := 0) (by omega) 4
  rw [Nat.add_zero, Nat.add_zero, ← e5] at c5
  have c6 := c5.a hd (j := 1) (by omega) (n := 12)
  rw [← e6] at c6
  have c7 := c6.a hd (j := 2) (by omega) (n := 12)
  rw [← e7] at c7
  have c8 := c7.a hd (j := 3) (by omega) (n := 12)
  rw [← e8] at c8
  have c9 := c8.a hd (j := 4) (by omega) (n := 8)
  rw [← e9] at c9
  refine ⟨13, copyL_l s1 sd hd (fun g c => k g c.1 ?_) 12 0 g9 rfl (c9.mo (fun a b z => ?_))⟩
  · obtain ⟨⟨-, ⟨q1, q2, q3, q4, q5, q6, q7, q8, q9⟩, i⟩, q, x⟩ := ss
    have h12 := i.1
    have h8 := i.2.2.2.2.1
    have e0 : ∀ k, k < 5 → mI g d k = mI h s k := fun k hk => c.2 0 k (Or.inl ⟨rfl, hk⟩)
    have e : ∀ j k, CPL 12 j k → mI g (d + j) k = mI h (s + j) k := c.2
    refine ⟨⟨sd.ch c.1, ⟨by rw [e0 0 (by omega)]; exact q1, by rw [e0 1 (by omega)]; exact q2, by rw [e0 2 (by omega)]; exact q3, by rw [e0 3 (by omega)]; exact q4, by rw [e0 4 (by omega)]; exact q5, fun b hb => by rw [e 1 b (by unfold CPL; omega)]; exact q6 b hb, fun b hb => by rw [e 2 b (by unfold CPL; omega)]; exact q7 b hb, fun b hb => by rw [e 3 b (by unfold CPL; omega)]; exact q8 b hb, fun p t hp => ?_⟩, i⟩, fun t b ht hb => ?_, x⟩
    · have hl := (List.getElem?_eq_some_iff.mp hp).1
      rw [e 4 p (by unfold CPL; omega)]
      exact q9 p t hp
    · rw [Nat.add_assoc, Nat.add_assoc, e (6 + t) b (by unfold CPL; omega), e (19 + t) b (by unfold CPL; omega), ← Nat.add_assoc, ← Nat.add_assoc]
      exact q t b ht hb
  · unfold CPL at z
    omega
theorem c_copyT (h1 : isO h s 6) (h2 : isO h d 6) (hd : d ≠ s) {K : AH → Prop} (k : ∀ g, chi d (d + 1) h g → (∀ i, i < 6 → mI g d i = mI h s i) → K g) : wX8_copyFrom d s h K := by
  have hd' : d + 1 ≤ s ∨ s + 1 ≤ d := by omega
  unfold wX8_copyFrom
  refine ⟨h1, h2, fun g1 e1 g2 e2 g3 e3 g4 e4 g5 e5 g6 e6 => ?_⟩
  have c0 : cpd (fun _ _ => False) s d 1 h h := ⟨chi.rf _ _ _, fun _ _ z => z.elim⟩
  have c1 := c0.i hd' (j := 0) (by omega) 0
  rw [Nat.add_zero, Nat.add_zero, ← e1] at c1
  have c2 := c1.i hd' (j := 0) (by omega) 1
  rw [Nat.add_zero, Nat.add_zero, ← e2] at c2
  have c3 := c2.i hd' (j := 0) (by omega) 2
  rw [Nat.add_zero, Nat.add_zero, ← e3] at c3
  have c4 := c3.i hd' (j := 0) (by omega) 3
  rw [Nat.add_zero, Nat.add_zero, ← e4] at c4
  have c5 := c4.i hd' (j := 0) (by omega) 4
  rw [Nat.add_zero, Nat.add_zero, ← e5] at c5
  have c6 := c5.i hd' (j := 0) (by omega) 5
  rw [Nat.add_zero, Nat.add_zero, ← e6] at c6
  exact k g6 c6.1 (fun i hi => c6.2 0 i (by omega))
/-- trains below x are copied -/
def cpS (s d x : Nat) (h g : AH) (G : LG) : Prop := chi d (d + 43) h g ∧ rpL g (d + 1) G ∧ ∀ i, i < x → ∀ k, k < 6 → mI g (mR h (d + 33) i) k = mI h (mR h (s + 33) i) k
theorem copyS_l {h : AH} (ss : shS h s) (sd : shS h d) (hd : d + 43 ≤ s ∨ s + 43 ≤ d) {K : AH → Prop} (k : ∀ g', cpS s d 8 h g' G → wX7_copyFrom_L13 K 1 d s (nI 8) g') : ∀ j x g, x + j = 8 → cpS s d x h g G → wX7_copyFrom_L13 K (j + 1) d s (nI x) g := by
  intro j
  induction j with
  | zero =>
    intro x g hx c
    have hx' : x = 8 := by omega
    subst hx'
    exact k g c
  | succ j ih =>
    intro x g hx c
    rw [wX7_copyFrom_L13]; dsimp only
    refine ⟨fun z => absurd z (nI_ge (by omega) (by omega)), fun _ => ?_⟩
    obtain ⟨c1, c2, c3⟩ := c
    have s1 := ss.ch c1
    have s2 := sd.ch c1
    have r1 := s1.tR (show x < 8 by omega)
    have r2 := s2.tR (show x < 8 by omega)
    simp (disch := omega) only [s1.o, s1.m0, s1.m1, s1.m2, s1.a33, s1.l33, s1.a34, s1.l34, s1.lg.o, s2.o, s2.m0, s2.m1, s2.m2, s2.a33, s2.l33, s2.a34, s2.l34, s2.lg.o, nI_clamp, vp_in_nI, s1.tO (show x < 8 by omega), s2.tO (show x < 8 by omega), true_and]
    refine c_copyT (s1.tO (by omega)) (s2.tO (by omega)) (by omega) (fun g' k1 k2 => ?_)
    rw [nI_add]
    have eR : mR g = mR h := c1.2.2.1
    refine ih (x + 1) g' (by omega) ⟨c1.tr (k1.mo (by omega) (by omega)), c2.fr k1.chg (by omega), fun i hi q hq => ?_⟩
    by_cases e : i = x
    · subst e
      rw [← eR, k2 q hq, c1.2.2.2.2 _ (by omega)]
    · have r3 := s2.tR (show i < 8 by omega)
      have hne : mR g (d + 33) i ≠ mR g (d + 33) x := fun z => e (s2.ti (by omega) (by omega) z)
      rw [← eR, k1.2.2.2.2 _ (by omega), eR]
      exact c3 i (by omega) q hq
theorem shS.of_R {h' : AH} {S lo hi : Nat} (s : shS h S) (c : chg lo hi h h') (e : mR h' = mR h) : shS h' S := by
  unfold shS shL at s ⊢
  rw [c.2.1, e]
  exact s
theorem c_copyS (p : rpS h s A) (sd : shS h d) (hd : d + 43 ≤ s ∨ s + 43 ≤ d) {K : AH → Prop} (k : ∀ g, chg d (d + 43) h g → mR g = mR h → rpS g d A → K g) : wX7_copyFrom d s h K := by
  have ss := p.1
  unfold wX7_copyFrom
  simp (disch := omega) only [ss.o, ss.m0, ss.m1, ss.m2, ss.a33, ss.l33, ss.a34, ss.l34, ss.lg.o, sd.o, sd.m0, sd.m1, sd.m2, sd.a33, sd.l33, sd.a34, sd.l34, sd.lg.o, true_and]
  refine c_copyL p.2.1 sd.1 (by omega) (fun g c r => ⟨9, copyS_l ss sd hd (fun g' c' => ?_) 8 0 g rfl ⟨c.mo (by omega) (by omega), r, fun i hi => absurd hi (Nat.not_lt_zero _)⟩⟩)
  obtain ⟨c1, c2, c3⟩ := c'
  have s1 := ss.ch c1
  have s2 := sd.ch c1
  rw [wX7_copyFrom_L13]; dsimp only
  refine ⟨fun _ => ?_, fun z => absurd (nI_le (Nat.le_refl _) (by omega)) z⟩
  simp (disch := omega) only [s1.o, s1.m0, s1.m1, s1.m2, s1.a33, s1.l33, s1.a34, s1.l34, s1.lg.o, s2.o, s2.m0, s2.m1, s2.m2, s2.a33, s2.l33, s2.a34, s2.l34, s2.lg.o, s1.z, s2.z, nI_clamp, Nat.zero_add, Nat.le_refl, true_and]
  intro g1 e1 g2 e2 g3 e3 g4 e4 g5 e5 g6 e6 g7 e7
  have f1 : chi (d + 34) (d + 35) g' g1 := by rw [e1]; exact chi.uA (by omega) (by omega)
  have f2 : chi d (d + 1) g1 g6 := by
    rw [e6, e5, e4, e3, e2]
    exact ((((chi.uI (by omega) (by omega)).tr (chi.uI (by omega) (by omega))).tr (chi.uI (by omega) (by omega))).tr (chi.uI (by omega) (by omega))).tr (chi.uI (by omega) (by omega))
  have f3 : chg d (d + 1) g6 g7 := by rw [e7]; exact chg.uL (by omega) (by omega)
  have f4 : chi d (d + 43) h g6 := (c1.tr (f1.mo (by omega) (by omega))).tr (f2.mo (by omega) (by omega))
  have f5 : chg d (d + 43) h g7 := f4.chg.tr (f3.mo (by omega) (by omega))
  have hs : mI g' s = mI h s := c1.2.2.2.2 s (by omega)
  have hs1 : mI g1 s = mI h s := (f1.2.2.2.2 s (by omega)).trans hs
  have hsd : s ≠ d := by omega
  have eR : mR g7 = mR h := by rw [e7, mR_uL]; exact f4.2.2.1
  have eI : mI g7 = mI g6 := by rw [e7, mI_uL]
  obtain ⟨-, -, p1, p2, p3, p4, p5, p6, p7, p8, p9, p10⟩ := p
  refine k g7 f5 eR ⟨sd.of_R f5 eR, ((c2.fr f1.chg (by omega)).fr f2.chg (by omega)).fr f3 (by omega), ?_, ?_, ?_, ?_, ?_, ?_, fun i t ht => ?_, fun i q hq => ?_, p9, p10⟩
  · rw [eI, e6, e5, e4, e3, e2]; simp [mI_uI, hs1]; exact p1
  · rw [eI, e6, e5, e4, e3, e2]; simp [mI_uI, hs1, hsd]; exact p2
  · rw [eI, e6, e5, e4, e3, e2]; simp [mI_uI, hs1, hsd]; exact p3
  · rw [eI, e6, e5, e4, e3, e2]; simp [mI_uI, hs1, hsd]; exact p4
  · rw [eI, e6, e5, e4, e3, e2]; simp [mI_uI, hs1, hsd]; exact p5
  · rw [e7, mL_uL, if_pos ⟨rfl, rfl⟩, f4.2.2.2.1]; exact p6
  · have hi : i < 8 := Nat.lt_of_lt_of_le (List.getElem?_eq_some_iff.mp ht).1 p9
    have r2 := sd.tR hi
    have ee : ∀ k, k < 6 → mI g7 (mR h (d + 33) i) k = mI h (mR h (s + 33) i) k := fun k hk => by
      rw [eI, f2.2.2.2.2 _ (by omega), f1.2.2.2.2 _ (by omega)]
      exact c3 i hi k hk
    obtain ⟨t1, t2, t3, t4, t5, t6⟩ := p7 i t ht
    rw [eR]
    exact ⟨by rw [ee 0 (by omega)]; exact t1, by rw [ee 1 (by omega)]; exact t2, by rw [ee 2 (by omega)]; exact t3, by rw [ee 3 (by omega)]; exact t4, fun z => by rw [ee 4 (by omega)]; exact t5 z, by rw [ee 5 (by omega)]; exact t6⟩
  · have hi : i < 8 := Nat.lt_of_lt_of_le (List.getElem?_eq_some_iff.mp hq).1 p10
    rw [eI, f2.2.2.2.2 _ (by omega), e1, mI_uA, if_pos rfl]
    unfold va_cpy
    rw [if_pos (by omega), Nat.sub_zero, Nat.zero_add, c1.2.2.2.2 _ (by omega)]
    exact p8 i q hq
end CP
