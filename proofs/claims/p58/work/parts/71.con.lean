/-! THE CONSTRUCTORS: regions of new cells -/
section CON
variable {h0 h g : AH} {S n o m k v : Nat} {sh : Nat → Nat × Nat} {re : Nat → Nat → Nat}
/-- the first n cells from S on: their shapes and references, no numbers in them; what lies below is as it was -/
def Rg (h0 h : AH) (S n : Nat) (sh : Nat → Nat × Nat) (re : Nat → Nat → Nat) : Prop := mN h = S + n ∧ (∀ a, a < S → sa h0 h a) ∧ ∀ o, o < n → mS h (S + o) = sh o ∧ (∀ j, mI h (S + o) j = nI 0) ∧ (∀ j, mR h (S + o) j = if re o j = 0 then 0 else S + re o j) ∧ ∀ j, mL h (S + o) j = 0
theorem sa.nw {a : Nat} (ha : a ≠ mN h) : sa h (nw h k m) a := ⟨by rw [mS_nw, if_neg ha], by funext j; rw [mI_nw, if_neg ha], by funext j; rw [mR_nw, if_neg ha], by funext j; rw [mL_nw, if_neg ha]⟩
theorem Rg.al (R : Rg h0 h S n sh re) (e : g = nw h k m) : Rg h0 g S (n + 1) (fun o => if o = n then (k, m) else sh o) (fun o j => if o = n then 0 else re o j) := by
  subst e
  obtain ⟨r1, r2, r3⟩ := R
  refine ⟨by rw [mN_nw, r1]; rfl, fun a ha => (r2 a ha).tr (sa.nw (by omega)), fun o ho => ?_⟩
  dsimp only
  by_cases z : o = n
  · have e : S + o = mN h := by omega
    refine ⟨?_, fun j => ?_, fun j => ?_, fun j => ?_⟩
    · rw [mS_nw, if_pos e, if_pos z]
    · rw [mI_nw, if_pos e]; rfl
    · rw [mR_nw, if_pos e]; simp only [z, if_true]
    · rw [mL_nw, if_pos e]
  · have e : S + o ≠ mN h := by omega
    obtain ⟨a1, a2, a3, a4⟩ := r3 o (by omega)
    have t := sa.nw (h := h) (k := k) (m := m) e
    rw [t.1, t.2.1, t.2.2.1, t.2.2.2]
    simp only [z, if_false]
    exact ⟨a1, a2, a3, a4⟩
theorem Rg.alM (R : Rg h0 h S n sh re) (e : g = nwM h m k) : Rg h0 g S (n + 1 + m) (fun o => if o = n then (108, m) else if n < o then (100, k) else sh o) (fun o j => if o = n then (if j < m then n + 1 + j else 0) else if n < o then 0 else re o j) := by
  subst e
  obtain ⟨r1, r2, r3⟩ := R
  refine ⟨?_, fun a ha => (r2 a ha).tr ⟨mS_nwMo (by omega), mI_nwMo (by omega), mR_nwMo (by omega), mL_nwMo (by omega)⟩, fun o ho => ?_⟩
  · show mN h + 1 + m = _
    omega
  · dsimp only
    rcases Nat.lt_trichotomy o n with z | z | z
    · obtain ⟨a1, a2, a3, a4⟩ := r3 o z
      rw [mS_nwMo (by omega), mI_nwMo (by omega), mR_nwMo (by omega), mL_nwMo (by omega)]
      simp only [show ¬ o = n by omega, show ¬ n < o by omega, if_false]
      exact ⟨a1, a2, a3, a4⟩
    · refine ⟨?_, fun j => ?_, fun j => ?_, fun j => ?_⟩
      · show (if S + o = mN h then (108, m) else if mN h < S + o ∧ S + o ≤ mN h + m then (100, k) else mS h (S + o)) = _
        rw [if_pos (by omega), if_pos z]
      · show (if mN h ≤ S + o ∧ S + o ≤ mN h + m then 0 else mI h (S + o) j) = _
        rw [if_pos (by omega)]; rfl
      · show (if S + o = mN h then (if j < m then mN h + 1 + j else 0) else if mN h < S + o ∧ S + o ≤ mN h + m then 0 else mR h (S + o) j) = _
        simp only [z, if_true]
        rw [if_pos (by omega)]
        by_cases y : j < m
        · rw [if_pos y, if_pos y, if_neg (by omega)]; omega
        · rw [if_neg y, if_neg y, if_pos rfl]
      · show (if mN h ≤ S + o ∧ S + o ≤ mN h + m then 0 else mL h (S + o) j) = _
        rw [if_pos (by omega)]
    · refine ⟨?_, fun j => ?_, fun j => ?_, fun j => ?_⟩
      · show (if S + o = mN h then (108, m) else if mN h < S + o ∧ S + o ≤ mN h + m then (100, k) else mS h (S + o)) = _
        rw [if_neg (by omega), if_pos (by omega), if_neg (by omega), if_pos z]
      · show (if mN h ≤ S + o ∧ S + o ≤ mN h + m then 0 else mI h (S + o) j) = _
        rw [if_pos (by omega)]; rfl
      · show (if S + o = mN h then (if j < m then mN h + 1 + j else 0) else if mN h < S + o ∧ S + o ≤ mN h + m then 0 else mR h (S + o) j) = _
        simp only [show ¬ o = n by omega, z, if_false, if_true]
        rw [if_neg (by omega), if_pos (by omega)]
      · show (if mN h ≤ S + o ∧ S + o ≤ mN h + m then 0 else mL h (S + o) j) = _
        rw [if_pos (by omega)]
theorem Rg.ui (R : Rg h0 h S n sh re) {a j : Nat} (ha : S ≤ a) (e : g = uI h a j (nI 0)) : Rg h0 g S n sh re := by
  subst e
  obtain ⟨r1, r2, r3⟩ := R
  refine ⟨r1, fun b hb => (r2 b hb).tr ⟨rfl, mI_o (by omega), rfl, rfl⟩, fun o ho => ?_⟩
  obtain ⟨a1, a2, a3, a4⟩ := r3 o ho
  refine ⟨a1, fun i => ?_, a3, a4⟩
  rw [mI_uI]
  split
  · rfl
  · exact a2 i
theorem Rg.ul (R : Rg h0 h S n sh re) {a j : Nat} (ha : S ≤ a) (e : g = uL h a j 0) : Rg h0 g S n sh re := by
  subst e
  obtain ⟨r1, r2, r3⟩ := R
  refine ⟨r1, fun b hb => (r2 b hb).tr ⟨rfl, rfl, rfl, mL_o (by omega)⟩, fun o ho => ?_⟩
  obtain ⟨a1, a2, a3, a4⟩ := r3 o ho
  refine ⟨a1, a2, a3, fun i => ?_⟩
  rw [mL_uL]
  split
  · rfl
  · exact a4 i
theorem Rg.ur (R : Rg h0 h S n sh re) {j : Nat} (hv : v ≠ 0) (e : g = uR h (S + o) j (S + v)) : Rg h0 g S n sh (fun o' j' => if o' = o ∧ j' = j then v else re o' j') := by
  subst e
  obtain ⟨r1, r2, r3⟩ := R
  refine ⟨r1, fun b hb => (r2 b hb).tr ⟨rfl, rfl, mR_o (by omega), rfl⟩, fun o' ho => ?_⟩
  obtain ⟨a1, a2, a3, a4⟩ := r3 o' ho
  refine ⟨a1, a2, fun i => ?_, a4⟩
  dsimp only
  rw [mR_uR]
  by_cases z : o' = o ∧ i = j
  · rw [if_pos ⟨by omega, z.2⟩]
    simp only [z, and_self, if_true]
    rw [if_neg hv]
  · rw [if_neg (fun y => z ⟨by omega, y.2⟩)]
    simp only [z, if_false]
    exact a3 i
theorem Rg.cg (R : Rg h0 h S n sh re) {sh' : Nat → Nat × Nat} {re' : Nat → Nat → Nat} (h1 : ∀ o, o < n → sh' o = sh o) (h2 : ∀ o, o < n → ∀ j, re' o j = re o j) : Rg h0 h S n sh' re' := ⟨R.1, R.2.1, fun o ho => by
  obtain ⟨a1, a2, a3, a4⟩ := R.2.2 o ho
  exact ⟨by rw [h1 o ho]; exact a1, a2, fun j => by rw [h2 o ho]; exact a3 j, a4⟩⟩
theorem Rg.s (R : Rg h0 h S n sh re) {o : Nat} (ho : o < n) : mS h (S + o) = sh o := (R.2.2 o ho).1
theorem Rg.i (R : Rg h0 h S n sh re) {o : Nat} (ho : o < n) (j : Nat) : mI h (S + o) j = nI 0 := (R.2.2 o ho).2.1 j
theorem Rg.r (R : Rg h0 h S n sh re) {o v j : Nat} (ho : o < n) (hv : v ≠ 0) (e : re o j = v) : mR h (S + o) j = S + v := by
  rw [(R.2.2 o ho).2.2.1 j, e, if_neg hv]
theorem Rg.st (hN : mN h = S + 1) (s : mS h S = (k, m)) (z : (∀ j, mI h S j = 0) ∧ (∀ j, mR h S j = 0) ∧ ∀ j, mL h S j = 0) : Rg h h S 1 (fun _ => (k, m)) (fun _ _ => 0) := by
  refine ⟨hN, fun _ _ => sa.rf _ _, fun o ho => ?_⟩
  have : o = 0 := by omega
  subst this
  exact ⟨s, fun j => z.1 j, fun j => z.2.1 j, z.2.2⟩
/-- the state with nothing in it -/
def A_0 : AG := ((0, fun _ => 0, fun _ => none, fun _ => none, [], 0, 0, 0), [], [], 0, 0, 0, 0)
theorem rp_0 (hz : 64 ≤ S) (R : Rg h0 h S 43 sh re) (h1 : (∀ o, o < 32 → sh (1 + o) = lS o) ∧ sh 0 = (6, 0) ∧ sh 33 = (106, 8) ∧ sh 34 = (100, 8) ∧ ∀ i, i < 8 → sh (35 + i) = (7, 0)) (h2 : (∀ k, k < 12 → 5 ≤ k → re 1 k = 1 + lR k) ∧ (∀ i, i < 12 → re 6 i = 7 + i) ∧ (∀ i, i < 12 → re 19 i = 20 + i) ∧ re 0 0 = 1 ∧ re 0 1 = 33 ∧ re 0 2 = 34 ∧ ∀ i, i < 8 → re 33 i = 35 + i) : rpS h S A_0 := by
  obtain ⟨s1, s2, s3, s4, s5⟩ := h1
  obtain ⟨t1, t2, t3, t4, t5, t6, t7⟩ := h2
  have lr : ∀ k, k < 12 → 5 ≤ k → 1 + lR k < 43 := by decide
  have r33 : ∀ i, i < 8 → mR h (S + 33) i = S + 35 + i := fun i hi => by rw [R.r (by decide) (by omega) (t7 i hi)]; omega
  have hI : IL (aL A_0) := by
    refine ⟨Nat.zero_le _, fun b hb => absurd hb (Nat.not_lt_zero b), fun b hb => absurd hb (Nat.not_lt_zero b), List.nodup_nil, Nat.zero_le _, fun s hs => absurd hs List.not_mem_nil, fun b hb => absurd hb (Nat.not_lt_zero b), by decide, fun b hb => ?_, rfl⟩
    have hb : (0 : Nat).testBit b = true := hb
    rw [Nat.zero_testBit] at hb
    cases hb
  have hL : shL h (S + 1) := by
    refine ⟨by omega, fun o ho => ?_, fun k k1 k2 => ?_, fun i hi => ?_, fun i hi => ?_⟩
    · rw [Nat.add_assoc, R.s (by omega), s1 o ho]
    · have := lr k k2 k1
      rw [R.r (o := 1) (by decide) (by omega) (t1 k k2 k1)]; omega
    · rw [show S + 1 + 5 = S + 6 by omega, R.r (by decide) (by omega) (t2 i hi)]; omega
    · rw [show S + 1 + 18 = S + 19 by omega, R.r (by decide) (by omega) (t3 i hi)]; omega
  have i0 : ∀ j, mI h S j = nI 0 := fun j => R.i (o := 0) (by decide) j
  have i1 : ∀ j, mI h (S + 1) j = nI 0 := fun j => R.i (o := 1) (by decide) j
  refine ⟨⟨hL, ?_, ?_, ?_, fun i hi => ?_, ?_, ?_, ?_, fun i hi => ?_, fun i j hi hj e => ?_⟩, ⟨⟨hL, ⟨i1 0, i1 1, i1 2, i1 3, i1 4, fun b hb => absurd hb (Nat.not_lt_zero b), fun b hb => absurd hb (Nat.not_lt_zero b), fun b hb => absurd hb (Nat.not_lt_zero b), fun p s hp => (by cases hp)⟩, hI⟩, fun t b ht => absurd ht (Nat.not_lt_zero t), bx_all _⟩, i0 3, i0 4, i0 5, i0 6, i0 7, ?_, fun i t ht => (by cases ht), fun i q hq => (by cases hq), Nat.zero_le _, Nat.zero_le _⟩
  · exact (R.s (o := 0) (by decide)).trans s2
  · exact (R.s (by decide)).trans s3
  · exact (R.s (by decide)).trans s4
  · rw [Nat.add_assoc, R.s (by omega), s5 i hi]
  · exact R.r (o := 0) (by decide) (by decide) t4
  · exact R.r (o := 0) (by decide) (by decide) t5
  · exact R.r (o := 0) (by decide) (by decide) t6
  · rw [r33 i hi]; omega
  · rw [r33 i hi, r33 j hj] at e; omega
  · exact ((R.2.2 0 (by decide)).2.2.2 8).trans rfl
theorem c_trn (hz : 64 ≤ S) {shA : Nat → Nat × Nat} {reA : Nat → Nat → Nat} (s0 : shA 0 = (6, 0)) (s33 : shA 33 = (106, 8)) (r01 : reA 0 1 = 33) {K : AH → Prop} (kk : ∀ g, Rg h0 g S 43 (fun o => if o < 35 then shA o else (7, 0)) (fun o j => if o = 33 ∧ j < 8 then 35 + j else if o < 35 then reA o j else 0) → K g) : ∀ d i g, i + d = 8 → Rg h0 g S (35 + i) (fun o => if o < 35 then shA o else (7, 0)) (fun o j => if o = 33 ∧ j < i then 35 + j else if o < 35 then reA o j else 0) → wX7_init_L64 K (d + 1) S (nI i) g := by
  intro d
  induction d with
  | zero =>
    intro i g hi R
    have hi' : i = 8 := hi
    subst hi'
    rw [wX7_init_L64]; dsimp only
    exact ⟨fun _ => kk g R, fun z => absurd (nI_le (by decide) (by decide)) z⟩
  | succ d ih =>
    intro i g hi R
    have e0 : mS g S = (6, 0) := (R.s (o := 0) (by omega)).trans s0
    have m1 : mR g S 1 = S + 33 := R.r (o := 0) (by omega) (by decide) r01
    rw [wX7_init_L64]; dsimp only
    refine ⟨fun z => absurd z (nI_ge (by omega) (by decide)), fun _ => ⟨e0, fun h21 e21 => ⟨by rw [R.1]; omega, ?_⟩⟩⟩
    have R1 := R.al e21
    have hN := R.1
    have eo : mS h21 (S + (35 + i)) = (7, 0) := by rw [R1.s (by omega), if_pos rfl]
    rw [m1, hN]
    unfold wX8_init
    refine ⟨by omega, eo, fun h3 e3 h4 e4 h5 e5 h6 e6 h7 e7 h8 e8 => ?_⟩
    have R2 := (((((R1.ui (by omega) e3).ui (by omega) e4).ui (by omega) e5).ui (by omega) e6).ui (by omega) e7).ui (by omega) e8
    have a33 : mS h8 (S + 33) = (106, 8) := by rw [R2.s (by omega), if_neg (by omega)]; exact s33
    have l33 : ln h8 (S + 33) = 8 := congrArg Prod.snd a33
    refine ⟨congrArg Prod.fst a33, ?_, by show 64 ≤ S + 33; omega, by rw [l33]; exact vp_in_nI (by omega) (by decide), fun h28 e28 => ?_⟩
    · show mS h8 (S + (35 + i)) = (7, 0)
      rw [R2.s (by omega), if_pos rfl]
    · rw [nI_clamp (by omega)] at e28
      rw [nI_add]
      refine ih (i + 1) h28 (by omega) ((R2.ur (o := 33) (v := 35 + i) (by omega) e28).cg (fun o ho => ?_) (fun o ho j => ?_))
      · by_cases z : o = 35 + i
        · rw [if_pos z, if_neg (by omega)]
        · rw [if_neg z]
      · show (if o = 33 ∧ j < i + 1 then 35 + j else if o < 35 then reA o j else 0) = if o = 33 ∧ j = i then 35 + i else if o = 35 + i then 0 else if o = 33 ∧ j < i then 35 + j else if o < 35 then reA o j else 0
        repeat' split
        all_goals omega
theorem c_trn0 (hz : 64 ≤ S) (Q : Rg h0 g S 35 sh re) (s0 : sh 0 = (6, 0)) (s33 : sh 33 = (106, 8)) (r01 : re 0 1 = 33) (h1 : (∀ o, o < 32 → (if 1 + o < 35 then sh (1 + o) else (7, 0)) = lS o) ∧ (if 0 < 35 then sh 0 else (7, 0)) = (6, 0) ∧ (if 33 < 35 then sh 33 else (7, 0)) = (106, 8) ∧ (if 34 < 35 then sh 34 else (7, 0)) = (100, 8) ∧ ∀ i, i < 8 → (if 35 + i < 35 then sh (35 + i) else (7, 0)) = (7, 0)) (h2 : (∀ k, k < 12 → 5 ≤ k → re 1 k = 1 + lR k) ∧ (∀ i, i < 12 → re 6 i = 7 + i) ∧ (∀ i, i < 12 → re 19 i = 20 + i) ∧ re 0 0 = 1 ∧ re 0 1 = 33 ∧ re 0 2 = 34) {K : AH → Prop} (kk : ∀ g, mN g = S + 43 → (∀ a, a < S → sa h0 g a) → rpS g S A_0 → K g) : wX7_init_L64 K 9 S (nI 0) g := by
  refine c_trn (h0 := h0) (shA := sh) (reA := re) hz s0 s33 r01 (fun g R => kk g R.1 R.2.1 (rp_0 hz R h1 ?_)) 8 0 g rfl (Q.cg (fun o ho => if_pos ho) (fun o ho j => ?_))
  · obtain ⟨t1, t2, t3, t4, t5, t6⟩ := h2
    refine ⟨fun k k1 k2 => ?_, fun i hi => ?_, fun i hi => ?_, ?_, ?_, ?_, fun i hi => ?_⟩
    · rw [if_neg (fun u => absurd u.1 (by decide)), if_pos (by decide)]; exact t1 k k1 k2
    · rw [if_neg (fun u => absurd u.1 (by decide)), if_pos (by decide)]; exact t2 i hi
    · rw [if_neg (fun u => absurd u.1 (by decide)), if_pos (by decide)]; exact t3 i hi
    · exact t4
    · exact t5
    · exact t6
    · rw [if_pos ⟨rfl, hi⟩]
  · rw [if_neg (fun u => absurd u.2 (Nat.not_lt_zero j)), if_pos ho]
theorem c_st0 (hz : 64 ≤ S) (hN : mN h = S + 1) (s : mS h S = (6, 0)) (z : (∀ j, mI h S j = 0) ∧ (∀ j, mR h S j = 0) ∧ ∀ j, mL h S j = 0) {K : AH → Prop} (kk : ∀ g, mN g = S + 43 → (∀ a, a < S → sa h g a) → rpS g S A_0 → K g) : wX7_init S h K := by
  have R0 := Rg.st hN s z
  unfold wX7_init
  rw [hN]
  refine ⟨by omega, fun h2 e2 => ⟨by omega, ?_⟩⟩
  have R1 := R0.al e2
  unfold wX4_init
  refine ⟨by omega, R1.s (by decide), fun h3 e3 h4 e4 h5 e5 h6 e6 h7 e7 h8 e8 => ?_⟩
  have R7 := ((((R1.ui (by omega) e3).ui (by omega) e4).ui (by omega) e5).ui (by omega) e6).ui (by omega) e7
  have R8 := R7.al e8
  refine ⟨R8.s (by decide), fun h10 e10 h11 e11 => ?_⟩
  rw [R7.1] at e10
  have R10 := R8.ur (by decide) e10
  have R11 := R10.al e11
  refine ⟨R11.s (by decide), fun h13 e13 h14 e14 => ?_⟩
  rw [R10.1] at e13
  have R13 := R11.ur (by decide) e13
  have R14 := R13.al e14
  refine ⟨R14.s (by decide), fun h16 e16 h17 e17 => ?_⟩
  rw [R13.1] at e16
  have R16 := R14.ur (by decide) e16
  have R17 := R16.al e17
  refine ⟨R17.s (by decide), fun h19 e19 h20 e20 => ?_⟩
  rw [R16.1] at e19
  have R19 := R17.ur (by decide) e19
  have R20 := R19.alM e20
  refine ⟨R20.s (by decide), fun h22 e22 h23 e23 => ?_⟩
  rw [R19.1] at e22
  have R22 := R20.ur (by decide) e22
  have R23 := R22.alM e23
  refine ⟨R23.s (by decide), fun h25 e25 h26 e26 => ?_⟩
  rw [R22.1] at e25
  have R25 := R23.ur (by decide) e25
  have R26 := R25.al e26
  refine ⟨R26.s (by decide), fun h28 e28 => ?_⟩
  rw [R25.1] at e28
  have R28 := R26.ur (by decide) e28
  refine ⟨R28.s (o := 0) (by decide), fun y6 f6 y7 f7 => ?_⟩
  have Q6 := R28.ur (o := 0) (v := 1) (by decide) f6
  have Q7 := Q6.al f7
  refine ⟨Q7.s (o := 0) (by decide), fun y9 f9 y10 f10 => ?_⟩
  rw [Q6.1] at f9
  have Q9 := Q7.ur (o := 0) (by decide) f9
  have Q10 := Q9.al f10
  refine ⟨Q10.s (o := 0) (by decide), fun y12 f12 y13 f13 y14 f14 y15 f15 y16 f16 y17 f17 y18 f18 => ?_⟩
  rw [Q9.1] at f12
  have Q12 := Q10.ur (o := 0) (by decide) f12
  have Q18 := (((((Q12.ui (by omega) f13).ui (by omega) f14).ui (by omega) f15).ui (by omega) f16).ui (by omega) f17).ul (by omega) f18
  refine ⟨9, by decide, c_trn0 hz Q18 ?_ ?_ ?_ ?_ ?_ kk⟩
  · decide +kernel
  · decide +kernel
  · decide +kernel
  · decide +kernel
  · decide +kernel
end CON
