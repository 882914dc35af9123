/-! THE MODEL SETS A ROUTE: the loop's run -/
def tmW (G : LG) (m : Nat) (l : List Nat) : Nat := match l with
  | [] => m
  | b :: l => tms G m b l
section S9
variable {h g : AH} {A : AG} {f F : Nat → Int32} {W : List Nat} {num j : Nat}
theorem tm_n {G : LG} (i : IL G) {m b c : Nat} (hm : m < 2 ^ 32) (hb : b ∉ gp G) : ∀ y ∈ gp G, (tm G m b c).testBit y = m.testBit y := by
  intro y hy
  have e : ¬ b = y := fun z => hb (z ▸ hy)
  unfold tm
  by_cases e1 : gf G b = some c
  · rw [if_pos e1, clr_bit hm]; simp [e]
  · rw [if_neg e1]
    by_cases e2 : gr G b = some c
    · rw [if_pos e2, tb_or]; simp [e]
    · rw [if_neg e2]
theorem tm_o {G : LG} {m b c : Nat} (hm : m < 2 ^ 32) : ∀ y ∈ gp G, y ≠ b → (tm G m b c).testBit y = m.testBit y := by
  intro y _ hy
  have e : ¬ b = y := fun z => hy z.symm
  unfold tm
  by_cases e1 : gf G b = some c
  · rw [if_pos e1, clr_bit hm]; simp [e]
  · rw [if_neg e1]
    by_cases e2 : gr G b = some c
    · rw [if_pos e2, tb_or]; simp [e]
    · rw [if_neg e2]
theorem tm_s {G : LG} {m b c : Nat} (hm : m < 2 ^ 32) (hx : ex G b c) : bitE (tm G m b c) b = if gf G b = some c then 0 else 1 := by
  unfold tm bitE
  by_cases e1 : gf G b = some c
  · rw [if_pos e1, if_pos e1, clr_bit hm]; simp
  · rw [if_neg e1, if_neg e1, if_pos (hx.resolve_left e1), tb_or]; simp
theorem tm_12 {G : LG} {m b c : Nat} (hm : m < 2 ^ 12) (hb : b < 12) : tm G m b c < 2 ^ 12 := by
  unfold tm
  by_cases e1 : gf G b = some c
  · rw [if_pos e1]; exact Nat.lt_of_le_of_lt (clr_le _ _) hm
  · rw [if_neg e1]
    by_cases e2 : gr G b = some c
    · rw [if_pos e2]; exact or_lt hm (p2_lt hb)
    · rw [if_neg e2]; exact hm
theorem m_J73 (i : IMs A) (r : rm (mI h 607) A) (hj : j < 8) (w : wyM h W) (hW : W.length ≤ 12) (hw : ∀ y ∈ W, y < gn (aL A)) (hx : ∀ k b c, W[k]? = some b → W[k + 1]? = some c → ex (aL A) b c) (hn : num < 9000) {X : Int32 → AH → Prop} {c27 : Nat → Int32 → Int32 → Int32 → Int32 → AH → Prop} {v : Int32} {x xb xc m b M : Nat} (hb : W[x]? = some b) (s : sM g) (cg : mf [607] [] h g) (u : stI (mI h 607) (mI g 607) (aL A) W num j xb xc x m) (hm : m < 2 ^ 12) (hM : tmW (aL A) m (W.drop x) = M) (kk : ∀ g m, mf [607] [] h g → stI (mI h 607) (mI g 607) (aL A) W num j xb xc (x + 1) m → m < 2 ^ 12 → tmW (aL A) m (W.drop (x + 1)) = M → c27 606 (nI j) v (nI num) (nI (x + 1)) g) : wX10_sets_J73 X c27 606 (nI j) v (nI num) (nI x) g := by
  have h12 := i.1.1
  have hxl := (List.getElem?_eq_some_iff.mp hb).1
  have hbn := hw b (List.mem_of_getElem? hb)
  have hw12 : ∀ y ∈ W, y < 12 := fun y hy => by have := hw y hy; omega
  have w1 : mI g 606 20 = nI W.length := by rw [cg.f (by decide)]; exact w.1
  have w2 : ∀ k c, W[k]? = some c → mI g 616 k = nI c := fun k c hc => by rw [cg.c (by decide) (by decide)]; exact w.2 k c hc
  have w3 := w2 x b hb
  have hm32 : m < 2 ^ 32 := Nat.lt_of_lt_of_le hm (by decide)
  have r2 : ∀ b, b < 12 → mI g 607 (9 + 6 * b + 3) = nI (stE (aL A) b) := fun b hb => (u.1 _ (by omega) (by omega) (by omega)).trans (r.2.1 b hb).2.2.2
  have hd : W.drop x = b :: W.drop (x + 1) := by
    rw [List.drop_eq_getElem_cons hxl]
    have := (List.getElem?_eq_some_iff.mp hb).2
    rw [this]
  unfold wX10_sets_J73
  simp (disch := omega) only [s.o, s.r12, s.a16, s.l16, nI_add, pk_mul, nI_clamp, nI_leI, nI_ltI, nI_eq, vp_in_nI, true_and, w3, m_pointAt s r2 i.1 (show b < 12 by omega), w1]
  rw [nI_sub (by omega)]
  simp (disch := omega) only [nI_add, pk_mul, nI_clamp, nI_leI, nI_ltI, nI_eq, vp_in_nI, true_and]
  refine ⟨fun z => ?_, fun z => ?_⟩
  · have hd2 : W.drop (x + 1) = [] := List.drop_eq_nil_of_le (by omega)
    refine kk g m cg (u.e0 hb (Or.inl (by omega))) hm ?_
    rw [hd, hd2] at hM
    rw [hd2]
    exact hM
  have hx1 : x + 1 < W.length := by omega
  have hc : W[x + 1]? = some W[x + 1] := List.getElem?_eq_getElem hx1
  generalize W[x + 1] = c at hc
  have hcn := hw c (List.mem_of_getElem? hc)
  have hd2 : W.drop (x + 1) = c :: W.drop (x + 2) := by
    rw [List.drop_eq_getElem_cons hx1]
    have := (List.getElem?_eq_some_iff.mp hc).2
    rw [this]
  have hM2 : tmW (aL A) (tm (aL A) m b c) (W.drop (x + 1)) = M := by
    rw [hd, hd2] at hM
    rw [hd2]
    exact hM
  have hex := hx x b c hb hc
  by_cases hp : b ∈ gp (aL A)
  · rw [if_pos hp]
    obtain ⟨p1, p2⟩ := i.1.p8 hp
    generalize (gp (aL A)).idxOf b = p at p1 p2
    refine ⟨fun _ => ?_, fun z => absurd z (by rw [nI_nem (by omega)]; exact id)⟩
    have e3 : mI g 607 (81 + 5 * p + 1) = oI (gf (aL A) b) := (u.1 _ (by omega) (by omega) (by omega)).trans ((r.2.2.1 p p1).1 b p2).2.1
    have e4 := w2 (x + 1) c hc
    have gfl : ∀ k, gf (aL A) b = some k → k < 2 ^ 31 := fun k hk => by have := (ex_lt i.1 hbn (Or.inl hk)).1; omega
    have e5 : (oI (gf (aL A) b) = nI c) = (gf (aL A) b = some c) := by rw [← oI_some, oI_inj gfl (fun k hk => by cases hk; omega)]
    have key : ∀ v9, v9 = bitE (tm (aL A) m b c) b → wX10_sets_J143 X c27 606 (nI j) v (nI num) (nI x) (nI p) 607 (nI (81 + 5 * p + 3)) (nI v9) g := by
      intro v9 hv9
      unfold wX10_sets_J143
      simp (disch := omega) only [isO_uI, isA_uI, ln_uI, mR_uI, isO_uR, isA_uR, ln_uR, mI_uR, isO_uL, isA_uL, ln_uL, mR_uL, mI_uL, mL_uI, mL_uR, isO_uA, isA_uA, ln_uA, mR_uA, mL_uA, mS_uI, mS_uR, mS_uL, mS_uA, s.o, s.r1, s.a7, s.l7, nz7, true_and, nI_add, pk_mul, nI_clamp, nI_leI, nI_ltI, nI_eq, vp_in_nI, forall_eq]
      have c2 : mf [607] [] g (uI (uI g 607 (81 + 5 * p + 3) (nI v9)) 607 (81 + 5 * p + 4) (nI (num + 1))) := (mf.ui (by decide) (by decide)).tr (mf.ui (by decide) (by decide))
      refine kk _ (tm (aL A) m b c) (cg.tr c2) ?_ (tm_12 hm (by omega)) hM2
      rw [mI_up, mI_up]
      exact u.e i.1 hj hb hx1 hw12 p2 hv9 (tm_o hm32)
    simp (disch := omega) only [m_point s p1, s.o, s.r1, s.r12, s.a16, s.l16, nI_add, pk_mul, nI_clamp, nI_leI, nI_ltI, nI_eq, vp_in_nI, true_and, e3, e4, e5]
    have hs := tm_s (m := m) hm32 hex
    refine ⟨fun z => key 1 ?_, fun z => key 0 ?_⟩
    · rw [hs, if_neg z]
    · rw [hs, if_pos z]
  · rw [if_neg hp]
    refine ⟨fun z => absurd rfl z, fun _ => ?_⟩
    exact kk g _ cg ((u.e0 hb (Or.inr hp)).mm (tm_n i.1 hm32 hp)) (tm_12 hm (by omega)) hM2
theorem m_L27 (i : IMs A) (r : rm (mI h 607) A) (hj : j < 8) (w : wyM h W) (hW : W.length ≤ 12) (hw : ∀ y ∈ W, y < gn (aL A)) (hex : ∀ k b c, W[k]? = some b → W[k + 1]? = some c → ex (aL A) b c) (hn : num < 9000) {X : Int32 → AH → Prop} {v : Int32} {M : Nat} (s : sM h) (kk : ∀ g, mf [607] [] h g → stI (mI h 607) (mI g 607) (aL A) W num j W.length W.length W.length M → wX10_sets_L27 X 1 606 (nI j) v (nI num) (nI W.length) g) : ∀ n x m g, x + n = W.length → mf [607] [] h g → stI (mI h 607) (mI g 607) (aL A) W num j x x x m → m < 2 ^ 12 → tmW (aL A) m (W.drop x) = M → wX10_sets_L27 X (n + 1) 606 (nI j) v (nI num) (nI x) g := by
  have h12 := i.1.1
  intro n
  induction n with
  | zero =>
    intro x m g hx cg u hm hM
    have hx' : x = W.length := hx
    subst hx'
    rw [List.drop_eq_nil_of_le (Nat.le_refl _)] at hM
    exact kk g cg (hM ▸ u)
  | succ n ih =>
    intro x m g hx cg u hm hM
    have s' := cg.s s
    have hxl : x < W.length := by omega
    have hb : W[x]? = some W[x] := List.getElem?_eq_getElem hxl
    generalize W[x] = b at hb
    have hbn := hw b (List.mem_of_getElem? hb)
    have hw12 : ∀ y ∈ W, y < 12 := fun y hy => by have := hw y hy; omega
    have w1 : mI g 606 20 = nI W.length := by rw [cg.f (by decide)]; exact w.1
    have w2 : mI g 616 x = nI b := by rw [cg.c (by decide) (by decide)]; exact w.2 x b hb
    rw [wX10_sets_L27]; dsimp only
    simp (disch := omega) only [s'.o, s'.r12, s'.a16, s'.l16, nI_add, pk_mul, nI_clamp, nI_leI, nI_ltI, nI_eq, vp_in_nI, true_and, w1, w2, m_tells s' hj (show 7 + x < 19 by omega), isO_uI, isA_uI, ln_uI, mR_uI, isO_uR, isA_uR, ln_uR, mI_uR, isO_uL, isA_uL, ln_uL, mR_uL, mI_uL, mL_uI, mL_uR, isO_uA, isA_uA, ln_uA, mR_uA, mL_uA, mS_uI, mS_uR, mS_uL, mS_uA]
    refine ⟨fun z => absurd z (by omega), fun _ => ?_⟩
    have c1 : mf [607] [] h (uI g 607 (121 + 19 * j + (7 + x)) (nI b)) := cg.tr (mf.ui (by decide) (by decide))
    have u1 : stI (mI h 607) (mI (uI g 607 (121 + 19 * j + (7 + x)) (nI b)) 607) (aL A) W num j (x + 1) x x m := by
      rw [mI_up]
      exact u.b i.1 hj (by omega) hw12 hb
    have e616 : mI (uI g 607 (121 + 19 * j + (7 + x)) (nI b)) 616 x = nI b := by rw [mI_o (by decide)]; exact w2
    by_cases hx0 : x ≤ 0
    · have hx0' : x = 0 := by omega
      subst hx0'
      refine ⟨fun _ => ?_, fun z => absurd hx0 z⟩
      exact m_J73 i r hj w hW hw hex hn hb (c1.s s) c1 u1.c0 hm hM (fun g2 m2 c2 u2 hm2 hM2 => ih 1 m2 g2 (by omega) c2 u2 hm2 hM2)
    · refine ⟨fun z => absurd z hx0, fun _ => ?_⟩
      simp (disch := omega) only [e616, m_puts (c1.s s) (show b < 12 by omega) (show 5 < 6 by decide)]
      have c2 : mf [607] [] h (uI (uI g 607 (121 + 19 * j + (7 + x)) (nI b)) 607 (9 + 6 * b + 5) (nI (num + 1))) := c1.tr (mf.ui (by decide) (by decide))
      refine m_J73 i r hj w hW hw hex hn hb (c2.s s) c2 (xb := x + 1) (xc := x + 1) ?_ hm hM (fun g2 m2 c3 u2 hm2 hM2 => ih (x + 1) m2 g2 (by omega) c3 u2 hm2 hM2)
      rw [mI_up]
      exact u1.c i.1 hj (by omega) hw12 hb
end S9
