/-! THE CLASS'S LINE: reads -/
section LIN
variable {h : AH} {a : Nat} {G : LG}
theorem c_con {m b : Nat} (hm : m < 2 ^ 31) (hb : b < 31) {h : AH} {K : Int32 → AH → Prop} : wX9_contains (nI m) (nI b) h K ↔ K (if m.testBit b = true then nI 1 else nI 0) h := by
  unfold wX9_contains
  rw [c_bit hm hb, lt0_f (by omega)]
  cases m.testBit b <;> simp
theorem c_con_m {x : Int32} {h : AH} {K : Int32 → AH → Prop} : wX9_contains x (-1) h K ↔ K (nI 0) h := by
  unfold wX9_contains
  have : (-1 : Int32) < nI 0 := m_lt 0 (by decide)
  simp [this]
theorem rpW.n12 (r : rpW h a G) : gn G ≤ 12 := r.2.2.1
theorem c_has (r : rpW h a G) {b : Nat} (hb : b < gn G) {K : Int32 → AH → Prop} : wX4_has a (nI b) h K ↔ K (nI 1) h := by
  have h12 := r.n12
  unfold wX4_has
  rw [r.2.1.1, lt0_f (by omega), nI_leI (by omega) (by omega)]
  simp [r.1.o, show ¬ gn G ≤ b by omega]
theorem c_hasN (r : rpW h a G) {x : Int32} (hx : x < nI 0 ∨ nI (gn G) ≤ x) {K : Int32 → AH → Prop} : wX4_has a x h K ↔ K (nI 0) h := by
  unfold wX4_has
  rw [r.2.1.1]
  by_cases h0 : x < nI 0
  · simp [h0, r.1.o]
  · have := hx.resolve_left h0
    simp [h0, this, r.1.o]
theorem c_has_m (r : rpW h a G) {K : Int32 → AH → Prop} : wX4_has a (-1) h K ↔ K (nI 0) h := c_hasN r (Or.inl (m_lt 0 (by decide)))
theorem c_hasO (r : rpW h a G) {x : Option Nat} (hx : ∀ k, x = some k → k < gn G) {K : Int32 → AH → Prop} : wX4_has a (oI x) h K ↔ K (if x.isSome then nI 1 else nI 0) h := by
  cases x with
  | none => exact c_has_m r
  | some k => exact c_has r (hx k rfl)
theorem c_hasPoint (r : rpW h a G) {b : Nat} (hb : b < (gp G).length) {K : Int32 → AH → Prop} : wX4_hasPoint a (nI b) h K ↔ K (nI 1) h := by
  have h8 : (gp G).length ≤ 8 := r.2.2.2.2.2.2.1
  unfold wX4_hasPoint
  rw [r.2.1.2.1, lt0_f (by omega), nI_leI (by omega) (by omega)]
  simp [r.1.o, show ¬ (gp G).length ≤ b by omega]
theorem c_hasPointN (r : rpW h a G) {x : Int32} (hx : x < nI 0 ∨ nI (gp G).length ≤ x) {K : Int32 → AH → Prop} : wX4_hasPoint a x h K ↔ K (nI 0) h := by
  unfold wX4_hasPoint
  rw [r.2.1.2.1]
  by_cases h0 : x < nI 0
  · simp [h0, r.1.o]
  · have := hx.resolve_left h0
    simp [h0, this, r.1.o]
theorem rpW.sm (r : rpW h a G) {b : Nat} (hb : b < gn G) : (∀ k, gf G b = some k → k < 2 ^ 31) ∧ (∀ k, gr G b = some k → k < 2 ^ 31) := by
  have h12 := r.n12
  rcases r.2.2.2.2.1 b hb with ⟨h1, h2⟩ | ⟨l, r', h1, h2, h3, h4, -, -⟩
  · exact ⟨fun k hk => by (rw [h1] at hk; cases hk), fun k hk => by (rw [h2] at hk; cases hk)⟩
  · exact ⟨fun k hk => by (rw [h1] at hk; cases hk; omega), fun k hk => by (rw [h2] at hk; cases hk; omega)⟩
theorem rpW.lf (r : rpW h a G) {b : Nat} (hb : b < gn G) : mI h (a + 2) b = oI (gf G b) := r.2.1.2.2.2.2.2.2.1 b hb
theorem rpW.rf (r : rpW h a G) {b : Nat} (hb : b < gn G) : mI h (a + 3) b = oI (gr G b) := r.2.1.2.2.2.2.2.2.2.1 b hb
theorem rpW.le (r : rpW h a G) {b : Nat} (hb : b < gn G) : mI h (a + 1) b = nI (gl G b) := r.2.1.2.2.2.2.2.1 b hb
theorem rpW.st (r : rpW h a G) {p s : Nat} (hp : (gp G)[p]? = some s) : mI h (a + 4) p = nI s := r.2.1.2.2.2.2.2.2.2.2 p s hp
theorem rpW.gl9 (r : rpW h a G) {b : Nat} (hb : b < gn G) : 1 ≤ gl G b ∧ gl G b ≤ 9 := r.2.2.2.1 b hb
theorem c_hasExit (r : rpW h a G) {b : Nat} (hb : b < gn G) {K : Int32 → AH → Prop} : wX4_hasExit a (nI b) h K ↔ K (if (gf G b).isSome then nI 1 else nI 0) h := by
  have h12 := r.n12
  unfold wX4_hasExit
  simp (disch := omega) only [c_has r hb, r.1.o, r.1.m5, r.1.m6, r.1.m7, r.1.m8, r.1.m9, r.1.m10, r.1.m11, r.1.a1, r.1.a2, r.1.a3, r.1.a4, r.1.a5, r.1.a18, r.1.a31, r.1.l1, r.1.l2, r.1.l3, r.1.l4, r.1.l5, r.1.l18, r.1.l31, r.1.z, r.1.r5, r.1.r18, r.1.a6, r.1.l6, r.1.a19, r.1.l19, nI_add, pk_mul, nI_clamp, nI_leI, nI_ltI, nI_eq, vp_in_nI, r.lf hb, oI_eqm (r.sm hb).1, and_true, true_and]
  cases hf : gf G b <;> simp
theorem c_leadsTo (r : rpW h a G) {b e : Nat} (hb : b < gn G) (he : e < 2 ^ 31) {K : Int32 → AH → Prop} : wX4_leadsTo a (nI b) (nI e) h K ↔ ((ex G b e → K (nI 1) h) ∧ (¬ ex G b e → K (nI 0) h)) := by
  have h12 := r.n12
  have e1 : (oI (gf G b) = nI e) = (gf G b = some e) := by rw [← oI_some, oI_inj (r.sm hb).1 (fun k hk => by cases hk; exact he)]
  have e2 : (oI (gr G b) = nI e) = (gr G b = some e) := by rw [← oI_some, oI_inj (r.sm hb).2 (fun k hk => by cases hk; exact he)]
  unfold wX4_leadsTo ex
  simp (disch := omega) only [c_has r hb, r.1.o, r.1.m5, r.1.m6, r.1.m7, r.1.m8, r.1.m9, r.1.m10, r.1.m11, r.1.a1, r.1.a2, r.1.a3, r.1.a4, r.1.a5, r.1.a18, r.1.a31, r.1.l1, r.1.l2, r.1.l3, r.1.l4, r.1.l5, r.1.l18, r.1.l31, r.1.z, r.1.r5, r.1.r18, r.1.a6, r.1.l6, r.1.a19, r.1.l19, nI_add, pk_mul, nI_clamp, nI_leI, nI_ltI, nI_eq, vp_in_nI, r.lf hb, r.rf hb, e1, e2]
  by_cases h1 : gf G b = some e <;> by_cases h2 : gr G b = some e <;> simp [h1, h2]
theorem c_lengthOf (r : rpW h a G) {b : Nat} (hb : b < gn G) {K : Int32 → AH → Prop} : wX4_lengthOf a (nI b) h K ↔ K (nI (gl G b)) h := by
  have h12 := r.n12
  unfold wX4_lengthOf
  simp (disch := omega) only [c_has r hb, r.1.o, r.1.m5, r.1.m6, r.1.m7, r.1.m8, r.1.m9, r.1.m10, r.1.m11, r.1.a1, r.1.a2, r.1.a3, r.1.a4, r.1.a5, r.1.a18, r.1.a31, r.1.l1, r.1.l2, r.1.l3, r.1.l4, r.1.l5, r.1.l18, r.1.l31, r.1.z, r.1.r5, r.1.r18, r.1.a6, r.1.l6, r.1.a19, r.1.l19, nI_add, pk_mul, nI_clamp, nI_leI, nI_ltI, nI_eq, vp_in_nI, r.le hb]
  simp
theorem c_lengthOf_m (r : rpW h a G) {K : Int32 → AH → Prop} : wX4_lengthOf a (-1) h K ↔ K (nI 0) h := by
  unfold wX4_lengthOf
  simp [c_has_m r, r.1.o]
theorem c_stemOf (r : rpW h a G) {p s : Nat} (hp : (gp G)[p]? = some s) {K : Int32 → AH → Prop} : wX4_stemOf a (nI p) h K ↔ K (nI s) h := by
  have h8 : (gp G).length ≤ 8 := r.2.2.2.2.2.2.1
  have hl : p < (gp G).length := (List.getElem?_eq_some_iff.mp hp).1
  unfold wX4_stemOf
  simp (disch := omega) only [c_hasPoint r hl, r.1.o, r.1.m5, r.1.m6, r.1.m7, r.1.m8, r.1.m9, r.1.m10, r.1.m11, r.1.a1, r.1.a2, r.1.a3, r.1.a4, r.1.a5, r.1.a18, r.1.a31, r.1.l1, r.1.l2, r.1.l3, r.1.l4, r.1.l5, r.1.l18, r.1.l31, r.1.z, r.1.r5, r.1.r18, r.1.a6, r.1.l6, r.1.a19, r.1.l19, nI_add, pk_mul, nI_clamp, nI_leI, nI_ltI, nI_eq, vp_in_nI, r.st hp]
  simp
/-- the exit as the points lie -/
def xo (G : LG) (b : Nat) : Option Nat := if (gd G).testBit b then gr G b else gf G b
theorem IL.d12 (i : IL G) : gd G < 2 ^ 12 := by
  obtain ⟨i1, -, -, -, -, i6, -, -, i9, -⟩ := i
  refine Nat.lt_pow_two_of_testBit _ fun b hb => ?_
  cases hc : (gd G).testBit b with
  | false => rfl
  | true =>
    have := (i6 b (i9 b hc)).1
    omega
theorem IL.h12 (i : IL G) : gh G < 2 ^ 12 := Nat.lt_of_lt_of_le i.2.2.2.2.2.2.2.1 (Nat.pow_le_pow_right (by decide) i.1)
theorem c_exitOf (r : rpW h a G) {b : Nat} (hb : b < gn G) {K : Int32 → AH → Prop} : wX4_exitOf a (nI b) h K ↔ K (oI (xo G b)) h := by
  have h12 := r.n12
  have hd := r.2.2.d12
  unfold wX4_exitOf xo
  simp (disch := omega) only [c_has r hb, r.1.o, r.1.m5, r.1.m6, r.1.m7, r.1.m8, r.1.m9, r.1.m10, r.1.m11, r.1.a1, r.1.a2, r.1.a3, r.1.a4, r.1.a5, r.1.a18, r.1.a31, r.1.l1, r.1.l2, r.1.l3, r.1.l4, r.1.l5, r.1.l18, r.1.l31, r.1.z, r.1.r5, r.1.r18, r.1.a6, r.1.l6, r.1.a19, r.1.l19, nI_add, pk_mul, nI_clamp, nI_leI, nI_ltI, nI_eq, vp_in_nI, r.lf hb, r.rf hb, r.2.1.2.2.2.2.1, c_con (show gd G < 2 ^ 31 by omega) (show b < 31 by omega)]
  cases hc : (gd G).testBit b <;> simp (disch := omega) [nI_eq]
theorem c_pointsLeft (r : rpW h a G) {p s : Nat} (hp : (gp G)[p]? = some s) {K : Int32 → AH → Prop} : wX4_pointsLeft a (nI p) h K ↔ K (if (gd G).testBit s = true then nI 0 else nI 1) h := by
  have hd := r.2.2.d12
  have hs : s < gn G := (r.2.2.2.2.2.2.2.1 s (List.mem_of_getElem? hp)).1
  have h12 := r.n12
  unfold wX4_pointsLeft
  simp (disch := omega) only [c_stemOf r hp, r.1.o, r.1.m5, r.1.m6, r.1.m7, r.1.m8, r.1.m9, r.1.m10, r.1.m11, r.1.a1, r.1.a2, r.1.a3, r.1.a4, r.1.a5, r.1.a18, r.1.a31, r.1.l1, r.1.l2, r.1.l3, r.1.l4, r.1.l5, r.1.l18, r.1.l31, r.1.z, r.1.r5, r.1.r18, r.1.a6, r.1.l6, r.1.a19, r.1.l19, nI_add, pk_mul, nI_clamp, nI_leI, nI_ltI, nI_eq, vp_in_nI, r.2.1.2.2.2.2.1, c_con (show gd G < 2 ^ 31 by omega) (show s < 31 by omega)]
  cases hc : (gd G).testBit s <;> simp (disch := omega) [nI_eq]
theorem c_routeBlocks (r : rpL h a G) {b t : Nat} (hb : b < gn G) (ht : t < gn G) {K : Int32 → AH → Prop} : wX4_routeBlocks a (nI b) (nI t) h K ↔ K (nI (bts (rt G b t))) h := by
  have h12 := r.1.n12
  have e1 := (r.2.1 t b ht hb).2
  unfold wX4_routeBlocks
  simp (disch := omega) only [c_has r.1 hb, c_has r.1 ht, r.1.1.o, r.1.1.m5, r.1.1.m6, r.1.1.m7, r.1.1.m8, r.1.1.m9, r.1.1.m10, r.1.1.m11, r.1.1.a1, r.1.1.a2, r.1.1.a3, r.1.1.a4, r.1.1.a5, r.1.1.a18, r.1.1.a31, r.1.1.l1, r.1.1.l2, r.1.1.l3, r.1.1.l4, r.1.1.l5, r.1.1.l18, r.1.1.l31, r.1.1.z, r.1.1.r5, r.1.1.r18, r.1.1.a6, r.1.1.l6, r.1.1.a19, r.1.1.l19, nI_add, pk_mul, nI_clamp, nI_leI, nI_ltI, nI_eq, vp_in_nI, e1]
  simp
theorem c_nextOnRoute (r : rpL h a G) {b t : Nat} (hb : b < gn G) (ht : t < gn G) {K : Int32 → AH → Prop} : wX4_nextOnRoute a (nI b) (nI t) h K ↔ K (oI (nx G t b)) h := by
  have h12 := r.1.n12
  have e1 := (r.2.1 t b ht hb).1
  unfold wX4_nextOnRoute
  simp (disch := omega) only [c_has r.1 hb, c_has r.1 ht, r.1.1.o, r.1.1.m5, r.1.1.m6, r.1.1.m7, r.1.1.m8, r.1.1.m9, r.1.1.m10, r.1.1.m11, r.1.1.a1, r.1.1.a2, r.1.1.a3, r.1.1.a4, r.1.1.a5, r.1.1.a18, r.1.1.a31, r.1.1.l1, r.1.1.l2, r.1.1.l3, r.1.1.l4, r.1.1.l5, r.1.1.l18, r.1.1.l31, r.1.1.z, r.1.1.r5, r.1.1.r18, r.1.1.a6, r.1.1.l6, r.1.1.a19, r.1.1.l19, nI_add, pk_mul, nI_clamp, nI_leI, nI_ltI, nI_eq, vp_in_nI, e1]
  simp
theorem c_nextOnRoute_m (r : rpW h a G) {t : Nat} {K : Int32 → AH → Prop} : wX4_nextOnRoute a (-1) (nI t) h K ↔ K (-1) h := by
  unfold wX4_nextOnRoute
  simp [c_has_m r, r.1.o]
theorem c_isStem (r : rpW h a G) {b : Nat} (hb : b < gn G) {K : Int32 → AH → Prop} : wX4_isStem a (nI b) h K ↔ K (if gf G b = gr G b then nI 0 else nI 1) h := by
  have h12 := r.n12
  unfold wX4_isStem
  simp (disch := omega) only [c_has r hb, r.1.o, r.1.m5, r.1.m6, r.1.m7, r.1.m8, r.1.m9, r.1.m10, r.1.m11, r.1.a1, r.1.a2, r.1.a3, r.1.a4, r.1.a5, r.1.a18, r.1.a31, r.1.l1, r.1.l2, r.1.l3, r.1.l4, r.1.l5, r.1.l18, r.1.l31, r.1.z, r.1.r5, r.1.r18, r.1.a6, r.1.l6, r.1.a19, r.1.l19, nI_add, pk_mul, nI_clamp, nI_leI, nI_ltI, nI_eq, vp_in_nI, r.lf hb, r.rf hb, oI_inj (r.sm hb).1 (r.sm hb).2]
  by_cases h1 : gf G b = gr G b <;> simp [h1]
end LIN
