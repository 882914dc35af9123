/-! THE CLASS'S BOX: its cells -/
/-- a box: the state, those before the changes that can be undone (the newest first), the saved one, the output, the program buffer, the refusal's sign and block, the error position, the failed command -/
abbrev BG : Type := AG × List AG × Option AG × List Nat × List Nat × Nat × Option Nat × Option Nat × Option Nat
def bA (X : BG) : AG := X.1
def bH (X : BG) : List AG := X.2.1
def bS (X : BG) : Option AG := X.2.2.1
def bO (X : BG) : List Nat := X.2.2.2.1
def bF (X : BG) : List Nat := X.2.2.2.2.1
def bY (X : BG) : Nat := X.2.2.2.2.2.1
def bB (X : BG) : Option Nat := X.2.2.2.2.2.2.1
def bE (X : BG) : Option Nat := X.2.2.2.2.2.2.2.1
def bX (X : BG) : Option Nat := X.2.2.2.2.2.2.2.2
/-- a cell is as it was -/
def sa (h g : AH) (a : Nat) : Prop := mS g a = mS h a ∧ mI g a = mI h a ∧ mR g a = mR h a ∧ mL g a = mL h a
theorem sa.rf (h : AH) (a : Nat) : sa h h a := ⟨rfl, rfl, rfl, rfl⟩
theorem sa.tr {h g k : AH} {a : Nat} (e : sa h g a) (f : sa g k a) : sa h k a := ⟨f.1.trans e.1, f.2.1.trans e.2.1, f.2.2.1.trans e.2.2.1, f.2.2.2.trans e.2.2.2⟩
theorem chg.sa {lo hi : Nat} {h g : AH} (c : chg lo hi h g) {a : Nat} (ha : a < lo ∨ hi ≤ a) : sa h g a := ⟨by rw [c.2.1], (c.2.2 a ha).1, (c.2.2 a ha).2.1, (c.2.2 a ha).2.2⟩
section BX_
variable {h g : AH} {S a : Nat} {A : AG} {G : LG}
theorem shL.sm (s : shL h a) (e : ∀ q, a ≤ q → q < a + 32 → sa h g q) : shL g a :=
  ⟨s.1, fun o ho => by rw [(e (a + o) (by omega) (by omega)).1]; exact s.2.1 o ho, fun k h1 h2 => by rw [(e a (by omega) (by omega)).2.2.1]; exact s.2.2.1 k h1 h2, fun i hi => by rw [(e (a + 5) (by omega) (by omega)).2.2.1]; exact s.2.2.2.1 i hi, fun i hi => by rw [(e (a + 18) (by omega) (by omega)).2.2.1]; exact s.2.2.2.2 i hi⟩
theorem rpL.sm (r : rpL h a G) (e : ∀ q, a ≤ q → q < a + 32 → sa h g q) : rpL g a G := by
  obtain ⟨⟨s, q, i⟩, c, x⟩ := r
  have e0 : mI g a = mI h a := (e a (by omega) (by omega)).2.1
  have e1 : ∀ k, k < 32 → mI g (a + k) = mI h (a + k) := fun k hk => (e (a + k) (by omega) (by omega)).2.1
  obtain ⟨g1, g2, g3, g4, g5, g6, g7, g8, g9⟩ := q
  have h12 := i.1
  refine ⟨⟨s.sm e, ⟨by rw [e0]; exact g1, by rw [e0]; exact g2, by rw [e0]; exact g3, by rw [e0]; exact g4, by rw [e0]; exact g5, fun b hb => by rw [e1 1 (by decide)]; exact g6 b hb, fun b hb => by rw [e1 2 (by decide)]; exact g7 b hb, fun b hb => by rw [e1 3 (by decide)]; exact g8 b hb, fun p t hp => by rw [e1 4 (by decide)]; exact g9 p t hp⟩, i⟩, fun t b ht hb => ?_, x⟩
  rw [Nat.add_assoc, Nat.add_assoc, e1 (6 + t) (by omega), e1 (19 + t) (by omega), ← Nat.add_assoc, ← Nat.add_assoc]
  exact c t b ht hb
theorem shS.sm (s : shS h S) (e : ∀ q, S ≤ q → q < S + 43 → sa h g q) : shS g S := by
  obtain ⟨s1, s2, s3, s4, s5, s6, s7, s8, s9, s10⟩ := s
  have e0 := e S (by omega) (by omega)
  have e1 := e (S + 33) (by omega) (by omega)
  have e2 := e (S + 34) (by omega) (by omega)
  exact ⟨s1.sm (fun q h1 h2 => e q (by omega) (by omega)), by rw [e0.1]; exact s2, by rw [e1.1]; exact s3, by rw [e2.1]; exact s4, fun i hi => by rw [(e (S + 35 + i) (by omega) (by omega)).1]; exact s5 i hi, by rw [e0.2.2.1]; exact s6, by rw [e0.2.2.1]; exact s7, by rw [e0.2.2.1]; exact s8, fun i hi => by rw [e1.2.2.1]; exact s9 i hi, fun i j hi hj z => s10 i j hi hj (by rw [e1.2.2.1] at z; exact z)⟩
theorem rpS.sm (p : rpS h S A) (e : ∀ q, S ≤ q → q < S + 43 → sa h g q) : rpS g S A := by
  obtain ⟨s, r, p1, p2, p3, p4, p5, p6, p7, p8, p9, p10⟩ := p
  have e0 := e S (by omega) (by omega)
  have e1 := e (S + 33) (by omega) (by omega)
  have e2 := e (S + 34) (by omega) (by omega)
  refine ⟨s.sm e, r.sm (fun q h1 h2 => e q (by omega) (by omega)), by rw [e0.2.1]; exact p1, by rw [e0.2.1]; exact p2, by rw [e0.2.1]; exact p3, by rw [e0.2.1]; exact p4, by rw [e0.2.1]; exact p5, by rw [e0.2.2.2]; exact p6, fun i t ht => ?_, fun i q hq => by rw [e2.2.1]; exact p8 i q hq, p9, p10⟩
  have hi : i < 8 := Nat.lt_of_lt_of_le (List.getElem?_eq_some_iff.mp ht).1 p9
  have r1 := s.tR hi
  rw [e1.2.2.1]
  exact (p7 i t ht).ch (e _ (by omega) (by omega)).2.1
/-- the box's own cells, the history's, the relation's and the program's: their kinds -/
def sB0 (h : AH) : Prop := mS h 64 = (1, 0) ∧ (mR h 64 0 = 65 ∧ mR h 64 1 = 108 ∧ mR h 64 2 = 151 ∧ mR h 64 3 = 194 ∧ mR h 64 4 = 583 ∧ mR h 64 5 = 587 ∧ mR h 64 6 = 604) ∧ (mS h 194 = (2, 0) ∧ mR h 194 0 = 195 ∧ mS h 195 = (105, 9) ∧ ∀ i, i < 9 → mR h 195 i = 196 + 43 * i) ∧ (mS h 583 = (5, 0) ∧ mR h 583 1 = 584 ∧ mR h 583 2 = 585 ∧ mR h 583 3 = 586 ∧ mS h 584 = (100, 8) ∧ mS h 585 = (100, 8) ∧ mS h 586 = (100, 8)) ∧ (mS h 587 = (4, 0) ∧ mR h 587 0 = 588 ∧ mR h 587 2 = 589 ∧ mR h 587 3 = 590 ∧ mS h 588 = (104, 60) ∧ mS h 589 = (107, 13) ∧ mS h 590 = (108, 13) ∧ ∀ i, i < 13 → mR h 590 i = 591 + i ∧ mS h (591 + i) = (100, 3)) ∧ mS h 604 = (9, 0)
def shT (h : AH) : Prop := shS h 65 ∧ shS h 108 ∧ shS h 151 ∧ ∀ i, i < 9 → shS h (196 + 43 * i)
/-- the states that can be taken back stand behind the place p in a ring -/
def hsO (h : AH) (p : Nat) (H : List AG) : Prop := p < 9 ∧ mI h 194 1 = nI p ∧ mI h 194 2 = nI H.length ∧ H.length ≤ 8 ∧ ∀ i B, H[i]? = some B → rpS h (196 + 43 * ((p + 8 - i) % 9)) B
def svO (h : AH) (s : Option AG) : Prop := match s with
  | none => mI h 64 7 = nI 0
  | some B => mI h 64 7 = nI 1 ∧ rpS h 108 B
def pgO (h : AH) (b : List Nat) : Prop := mI h 587 1 = nI b.length ∧ b.length ≤ 60 ∧ ∀ i c, b[i]? = some c → mI h 588 i = nI c ∧ c < 65536
/-- the output: a text of bytes in an array that may be made anew -/
def sbO (h : AH) (o : List Nat) : Prop := isA h (mR h 604 0) 3 ∧ (mR h 604 0 = 605 ∨ 607 ≤ mR h 604 0) ∧ (mR h 604 0 < mN h ∧ 607 ≤ mN h) ∧ o.length ≤ ln h (mR h 604 0) ∧ (ln h (mR h 604 0) = 16 ∨ ln h (mR h 604 0) = 34 ∨ ln h (mR h 604 0) = 70) ∧ mI h 604 1 = nI 0 ∧ mI h 604 3 = nI o.length ∧ (∀ i c, o[i]? = some c → mI h (mR h 604 0) i = nI c) ∧ ∀ i, ∃ c, c < 128 ∧ mI h (mR h 604 0) i = nI c
def rcO (h : AH) (y : Nat) (b e x : Option Nat) : Prop := mI h 64 8 = nI y ∧ mI h 64 9 = oI b ∧ mI h 64 10 = oI e ∧ mI h 64 11 = oI x
def RBp (h : AH) (p : Nat) (X : BG) : Prop := sB0 h ∧ shT h ∧ rpS h 65 (bA X) ∧ hsO h p (bH X) ∧ svO h (bS X) ∧ pgO h (bF X) ∧ sbO h (bO X) ∧ rcO h (bY X) (bB X) (bE X) (bX X)
def RBc (h : AH) (X : BG) : Prop := ∃ p, RBp h p X
theorem sB0.sm (s : sB0 h) (e : ∀ q, (q = 64 ∨ q = 194 ∨ q = 195 ∨ (583 ≤ q ∧ q < 605)) → sa h g q) : sB0 g := by
  obtain ⟨s1, ⟨r0, r1, r2, r3, r4, r5, r6⟩, ⟨t1, t2, t3, t4⟩, ⟨u1, u2, u3, u4, u5, u6, u7⟩, ⟨v1, v2, v3, v4, v5, v6, v7, v8⟩, w⟩ := s
  have e64 := e 64 (by omega)
  have e194 := e 194 (by omega)
  have e195 := e 195 (by omega)
  have e583 := e 583 (by omega)
  have e587 := e 587 (by omega)
  have e590 := e 590 (by omega)
  refine ⟨by rw [e64.1]; exact s1, ⟨by rw [e64.2.2.1]; exact r0, by rw [e64.2.2.1]; exact r1, by rw [e64.2.2.1]; exact r2, by rw [e64.2.2.1]; exact r3, by rw [e64.2.2.1]; exact r4, by rw [e64.2.2.1]; exact r5, by rw [e64.2.2.1]; exact r6⟩, ⟨by rw [e194.1]; exact t1, by rw [e194.2.2.1]; exact t2, by rw [e195.1]; exact t3, fun i hi => by rw [e195.2.2.1]; exact t4 i hi⟩, ⟨by rw [e583.1]; exact u1, by rw [e583.2.2.1]; exact u2, by rw [e583.2.2.1]; exact u3, by rw [e583.2.2.1]; exact u4, by rw [(e 584 (by omega)).1]; exact u5, by rw [(e 585 (by omega)).1]; exact u6, by rw [(e 586 (by omega)).1]; exact u7⟩, ⟨by rw [e587.1]; exact v1, by rw [e587.2.2.1]; exact v2, by rw [e587.2.2.1]; exact v3, by rw [e587.2.2.1]; exact v4, by rw [(e 588 (by omega)).1]; exact v5, by rw [(e 589 (by omega)).1]; exact v6, by rw [e590.1]; exact v7, fun i hi => ⟨by rw [e590.2.2.1]; exact (v8 i hi).1, by rw [(e (591 + i) (by omega)).1]; exact (v8 i hi).2⟩⟩, by rw [(e 604 (by omega)).1]; exact w⟩
theorem shT.sm (s : shT h) (e : ∀ q, ((65 ≤ q ∧ q < 194) ∨ (196 ≤ q ∧ q < 583)) → sa h g q) : shT g := ⟨s.1.sm (fun q h1 h2 => e q (by omega)), s.2.1.sm (fun q h1 h2 => e q (by omega)), s.2.2.1.sm (fun q h1 h2 => e q (by omega)), fun i hi => (s.2.2.2 i hi).sm (fun q h1 h2 => e q (by omega))⟩
theorem hsO.sm {p : Nat} {H : List AG} (s : hsO h p H) (e : ∀ q, (q = 194 ∨ (196 ≤ q ∧ q < 583)) → sa h g q) : hsO g p H := by
  obtain ⟨s1, s2, s3, s4, s5⟩ := s
  have e0 := e 194 (by omega)
  exact ⟨s1, by rw [e0.2.1]; exact s2, by rw [e0.2.1]; exact s3, s4, fun i B hB => (s5 i B hB).sm (fun q h1 h2 => e q (by omega))⟩
theorem svO.sm {s : Option AG} (v : svO h s) (e : ∀ q, (q = 64 ∨ (108 ≤ q ∧ q < 151)) → sa h g q) : svO g s := by
  unfold svO at v ⊢
  cases s with
  | none => simp only at v ⊢; rw [(e 64 (by omega)).2.1]; exact v
  | some B => simp only at v ⊢; rw [(e 64 (by omega)).2.1]; exact ⟨v.1, v.2.sm (fun q h1 h2 => e q (by omega))⟩
theorem pgO.sm {b : List Nat} (s : pgO h b) (e : ∀ q, (q = 587 ∨ q = 588) → sa h g q) : pgO g b := by
  unfold pgO
  rw [(e 587 (by omega)).2.1, (e 588 (by omega)).2.1]
  exact s
theorem sbO.sm {o : List Nat} (s : sbO h o) (hN : mN h ≤ mN g) (e : ∀ q, (q = 604 ∨ q = mR h 604 0) → sa h g q) : sbO g o := by
  obtain ⟨s1, s2, s3, s4, s5, s6, s7, s8, s9⟩ := s
  have e0 := e 604 (by omega)
  have e1 := e (mR h 604 0) (by omega)
  have l1 : ln g (mR h 604 0) = ln h (mR h 604 0) := congrArg Prod.snd e1.1
  refine ⟨?_, ?_, ?_, ?_, ?_, ?_, ?_, fun i c hc => ?_, fun i => ?_⟩
  · rw [e0.2.2.1]; unfold isA; rw [e1.1]; exact s1
  · rw [e0.2.2.1]; exact s2
  · rw [e0.2.2.1]; exact ⟨Nat.lt_of_lt_of_le s3.1 hN, Nat.le_trans s3.2 hN⟩
  · rw [e0.2.2.1, l1]; exact s4
  · rw [e0.2.2.1, l1]; exact s5
  · rw [e0.2.1]; exact s6
  · rw [e0.2.1]; exact s7
  · rw [e0.2.2.1, e1.2.1]; exact s8 i c hc
  · rw [e0.2.2.1, e1.2.1]; exact s9 i
theorem rcO.sm {y : Nat} {b e x : Option Nat} (s : rcO h y b e x) (z : mI g 64 = mI h 64) : rcO g y b e x := by
  unfold rcO
  rw [z]
  exact s
/-- the class's cells are as they were -/
theorem RBp.sm {p : Nat} {X : BG} (r : RBp h p X) (hN : mN h ≤ mN g) (e : ∀ q, ((64 ≤ q ∧ q < 605) ∨ q = mR h 604 0) → sa h g q) : RBp g p X := by
  obtain ⟨r1, r2, r3, r4, r5, r6, r7, r8⟩ := r
  exact ⟨r1.sm (fun q hq => e q (by omega)), r2.sm (fun q hq => e q (by omega)), r3.sm (fun q h1 h2 => e q (by omega)), r4.sm (fun q hq => e q (by omega)), r5.sm (fun q hq => e q (by omega)), r6.sm (fun q hq => e q (by omega)), r7.sm hN (fun q hq => e q (by omega)), r8.sm (e 64 (by omega)).2.1⟩
theorem RBp.sR {p : Nat} {X : BG} (r : RBp h p X) : mR h 604 0 = 605 ∨ 607 ≤ mR h 604 0 := r.2.2.2.2.2.2.1.2.1
/-- the state has changed -/
theorem RBp.now {p : Nat} {X : BG} (r : RBp h p X) {A' : AG} (c : chg 65 108 h g) (q : rpS g 65 A') : RBp g p (A', X.2) := by
  have hs := r.sR
  obtain ⟨r1, r2, r3, r4, r5, r6, r7, r8⟩ := r
  exact ⟨r1.sm (fun q hq => c.sa (by omega)), ⟨q.1, r2.2.1.sm (fun q h1 h2 => c.sa (by omega)), r2.2.2.1.sm (fun q h1 h2 => c.sa (by omega)), fun i hi => (r2.2.2.2 i hi).sm (fun q h1 h2 => c.sa (by omega))⟩, q, r4.sm (fun q hq => c.sa (by omega)), r5.sm (fun q hq => c.sa (by omega)), r6.sm (fun q hq => c.sa (by omega)), r7.sm (Nat.le_of_eq c.1.symm) (fun q hq => c.sa (by omega)), r8.sm (c.sa (a := 64) (by omega)).2.1⟩
/-- the copy has changed -/
theorem RBp.cpy {p : Nat} {X : BG} (r : RBp h p X) (c : chg 151 194 h g) (q : shS g 151) : RBp g p X := by
  have hs := r.sR
  obtain ⟨r1, r2, r3, r4, r5, r6, r7, r8⟩ := r
  exact ⟨r1.sm (fun q hq => c.sa (by omega)), ⟨r2.1.sm (fun q h1 h2 => c.sa (by omega)), r2.2.1.sm (fun q h1 h2 => c.sa (by omega)), q, fun i hi => (r2.2.2.2 i hi).sm (fun q h1 h2 => c.sa (by omega))⟩, r3.sm (fun q h1 h2 => c.sa (by omega)), r4.sm (fun q hq => c.sa (by omega)), r5.sm (fun q hq => c.sa (by omega)), r6.sm (fun q hq => c.sa (by omega)), r7.sm (Nat.le_of_eq c.1.symm) (fun q hq => c.sa (by omega)), r8.sm (c.sa (a := 64) (by omega)).2.1⟩
/-- the relation's numbers have changed -/
theorem RBp.rel {p : Nat} {X : BG} (r : RBp h p X) (c : chi 583 587 h g) : RBp g p X := by
  have hs := r.sR
  have c' := c.chg
  obtain ⟨r1, r2, r3, r4, r5, r6, r7, r8⟩ := r
  refine ⟨?_, r2.sm (fun q hq => c'.sa (by omega)), r3.sm (fun q h1 h2 => c'.sa (by omega)), r4.sm (fun q hq => c'.sa (by omega)), r5.sm (fun q hq => c'.sa (by omega)), r6.sm (fun q hq => c'.sa (by omega)), r7.sm (Nat.le_of_eq c.1.symm) (fun q hq => c'.sa (by omega)), r8.sm (c'.sa (a := 64) (by omega)).2.1⟩
  unfold sB0
  rw [c.2.1, c.2.2.1]
  exact r1
/-- the place under way in the ring has changed -/
theorem RBp.slot {p : Nat} {X : BG} (r : RBp h p X) (c : chg (196 + 43 * p) (196 + 43 * p + 43) h g) (q : shS g (196 + 43 * p)) : RBp g p X := by
  have hs := r.sR
  obtain ⟨r1, r2, r3, r4, r5, r6, r7, r8⟩ := r
  have hp := r4.1
  obtain ⟨h1, h2, h3, h4, h5⟩ := r4
  refine ⟨r1.sm (fun q hq => c.sa (by omega)), ⟨r2.1.sm (fun q h1 h2 => c.sa (by omega)), r2.2.1.sm (fun q h1 h2 => c.sa (by omega)), r2.2.2.1.sm (fun q h1 h2 => c.sa (by omega)), fun i hi => ?_⟩, r3.sm (fun q h1 h2 => c.sa (by omega)), ⟨h1, by rw [(c.sa (a := 194) (by omega)).2.1]; exact h2, by rw [(c.sa (a := 194) (by omega)).2.1]; exact h3, h4, fun i B hB => ?_⟩, r5.sm (fun q hq => c.sa (by omega)), r6.sm (fun q hq => c.sa (by omega)), r7.sm (Nat.le_of_eq c.1.symm) (fun q hq => c.sa (by omega)), r8.sm (c.sa (a := 64) (by omega)).2.1⟩
  · by_cases e : i = p
    · subst e; exact q
    · exact (r2.2.2.2 i hi).sm (fun q h1 h2 => c.sa (by omega))
  · have hi := (List.getElem?_eq_some_iff.mp hB).1
    have hne : (p + 8 - i) % 9 ≠ p := by omega
    exact (h5 i B hB).sm (fun q h1 h2 => c.sa (by omega))
end BX_
