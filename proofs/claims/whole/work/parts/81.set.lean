/-! THE MODEL SETS A ROUTE: the loop -/
def tm (G : LG) (m b c : Nat) : Nat := if gf G b = some c then clr m b else if gr G b = some c then m ||| 2 ^ b else m
def tms (G : LG) (m : Nat) : Nat → List Nat → Nat
  | _, [] => m
  | b, c :: l => tms G (tm G m b c) c l
/-- how far the numbers of a route are set: way, reserved blocks, points -/
def stI (f F : Nat → Int32) (G : LG) (W : List Nat) (num j xb xc xe m : Nat) : Prop := (∀ k, (∀ b, b < 12 → k ≠ 9 + 6 * b + 5) → (∀ p, p < 8 → k ≠ 81 + 5 * p + 3 ∧ k ≠ 81 + 5 * p + 4) → ¬ (128 + 19 * j ≤ k ∧ k < 140 + 19 * j) → F k = f k) ∧ (∀ k c, k < xb → W[k]? = some c → F (121 + 19 * j + (7 + k)) = nI c) ∧ (∀ k b, 1 ≤ k → k < xc → W[k]? = some b → F (9 + 6 * b + 5) = nI (num + 1)) ∧ (∀ b, b < 12 → (∀ k, 1 ≤ k → k < xc → W[k]? ≠ some b) → F (9 + 6 * b + 5) = f (9 + 6 * b + 5)) ∧ (∀ p y, (gp G)[p]? = some y → F (81 + 5 * p + 3) = nI (bitE m y)) ∧ (∀ p, p < 8 → (gp G).length ≤ p → F (81 + 5 * p + 3) = f (81 + 5 * p + 3)) ∧ (∀ k y p, k < xe → k + 1 < W.length → W[k]? = some y → (gp G)[p]? = some y → F (81 + 5 * p + 4) = nI (num + 1)) ∧ (∀ p, p < 8 → (∀ k y, k < xe → k + 1 < W.length → W[k]? = some y → (gp G)[p]? ≠ some y) → F (81 + 5 * p + 4) = f (81 + 5 * p + 4))
section ST9
variable {h g : AH} {A : AG} {G : LG} {f F : Nat → Int32} {W : List Nat} {num j xb xc xe m : Nat}
theorem turn1_tm (b c : Nat) : turn1 (gSide G m) b c = gSide G (tm G m b c) := by
  unfold turn1 tm
  show (if gf G b = some c then _ else if gr G b = some c then _ else _) = _
  by_cases e1 : gf G b = some c
  · rw [if_pos e1, if_pos e1]; rfl
  · rw [if_neg e1, if_neg e1]
    by_cases e2 : gr G b = some c
    · rw [if_pos e2, if_pos e2]; rfl
    · rw [if_neg e2, if_neg e2]
theorem tnr_tms : ∀ (l : List Nat) (m b : Nat), tnr (gSide G m) b l = gSide G (tms G m b l) := by
  intro l
  induction l with
  | nil => intro m b; rfl
  | cons c l ih =>
    intro m b
    rw [tnr, turn1_tm, ih]
    rfl
theorem gSide_self (G : LG) : gSide G (gd G) = G := rfl
theorem stI.b (u : stI f F G W num j xb xc xe m) (i : IL G) (hj : j < 8) (hx : xb < 12) (hw : ∀ y ∈ W, y < 12) {c : Nat} (hc : W[xb]? = some c) : stI f (ups F (121 + 19 * j + (7 + xb)) (nI c)) G W num j (xb + 1) xc xe m := by
  obtain ⟨u1, u2, u3, u4, u5, u6, u7, u8⟩ := u
  have hW : ∀ p y, (gp G)[p]? = some y → p < 8 := fun p y hp => Nat.lt_of_lt_of_le (List.getElem?_eq_some_iff.mp hp).1 i.2.2.2.2.1
  refine ⟨fun k h1 h2 h3 => ?_, fun k c' hk hc' => ?_, fun k b h1 h2 h3 => ?_, fun b hb h1 => ?_, fun p y hp => ?_, fun p hp h1 => ?_, fun k y p h1 h2 h3 h4 => ?_, fun p hp h1 => ?_⟩
  · rw [ups_o (by omega)]; exact u1 k h1 h2 h3
  · by_cases e : k = xb
    · subst e
      rw [hc] at hc'
      cases hc'
      rw [ups_s]
    · rw [ups_o (by omega)]; exact u2 k c' (by omega) hc'
  · have hb := hw b (List.mem_of_getElem? h3)
    rw [ups_o (by omega)]; exact u3 k b h1 h2 h3
  · rw [ups_o (by omega)]; exact u4 b hb h1
  · have := hW p y hp
    rw [ups_o (by omega)]; exact u5 p y hp
  · rw [ups_o (by omega)]; exact u6 p hp h1
  · have := hW p y h4
    rw [ups_o (by omega)]; exact u7 k y p h1 h2 h3 h4
  · rw [ups_o (by omega)]; exact u8 p hp h1
theorem stI.c0 (u : stI f F G W num j xb 0 xe m) : stI f F G W num j xb 1 xe m := by
  obtain ⟨u1, u2, u3, u4, u5, u6, u7, u8⟩ := u
  exact ⟨u1, u2, fun k b h1 h2 => absurd h1 (by omega), fun b hb _ => u4 b hb (fun k h1 h2 => absurd h1 (by omega)), u5, u6, u7, u8⟩
theorem stI.c (u : stI f F G W num j xb xc xe m) (i : IL G) (hj : j < 8) (hx : 1 ≤ xc) (hw : ∀ y ∈ W, y < 12) {c : Nat} (hc : W[xc]? = some c) : stI f (ups F (9 + 6 * c + 5) (nI (num + 1))) G W num j xb (xc + 1) xe m := by
  obtain ⟨u1, u2, u3, u4, u5, u6, u7, u8⟩ := u
  have hc12 := hw c (List.mem_of_getElem? hc)
  have hW : ∀ p y, (gp G)[p]? = some y → p < 8 := fun p y hp => Nat.lt_of_lt_of_le (List.getElem?_eq_some_iff.mp hp).1 i.2.2.2.2.1
  refine ⟨fun k h1 h2 h3 => ?_, fun k c' hk hc' => ?_, fun k b h1 h2 h3 => ?_, fun b hb h1 => ?_, fun p y hp => ?_, fun p hp h1 => ?_, fun k y p h1 h2 h3 h4 => ?_, fun p hp h1 => ?_⟩
  · rw [ups_o (h1 c hc12)]; exact u1 k h1 h2 h3
  · rw [ups_o (by omega)]; exact u2 k c' hk hc'
  · by_cases e : b = c
    · rw [e, ups_s]
    · rw [ups_o (by omega)]
      have hk : k ≠ xc := fun z => e (by rw [z, hc] at h3; exact (Option.some.inj h3).symm)
      exact u3 k b h1 (by omega) h3
  · have e : b ≠ c := fun z => h1 xc hx (by omega) (by rw [z]; exact hc)
    rw [ups_o (by omega)]; exact u4 b hb (fun k h2 h3 => h1 k h2 (by omega))
  · rw [ups_o (by omega)]; exact u5 p y hp
  · rw [ups_o (by omega)]; exact u6 p hp h1
  · rw [ups_o (by omega)]; exact u7 k y p h1 h2 h3 h4
  · rw [ups_o (by omega)]; exact u8 p hp h1
/-- the last block, or one that is no stem -/
theorem stI.e0 (u : stI f F G W num j xb xc xe m) {c : Nat} (hc : W[xe]? = some c) (hn : xe + 1 = W.length ∨ c ∉ gp G) : stI f F G W num j xb xc (xe + 1) m := by
  obtain ⟨u1, u2, u3, u4, u5, u6, u7, u8⟩ := u
  refine ⟨u1, u2, u3, u4, u5, u6, fun k y p h1 h2 h3 h4 => ?_, fun p hp h1 => u8 p hp (fun k y h2 h3 h4 => h1 k y (by omega) h3 h4)⟩
  by_cases e : k = xe
  · subst e
    rw [hc] at h3
    cases h3
    rcases hn with z | z
    · omega
    · exact absurd (List.mem_of_getElem? h4) z
  · exact u7 k y p (by omega) h2 h3 h4
theorem stI.mm (u : stI f F G W num j xb xc xe m) {m' : Nat} (h : ∀ y ∈ gp G, m'.testBit y = m.testBit y) : stI f F G W num j xb xc xe m' := by
  obtain ⟨u1, u2, u3, u4, u5, u6, u7, u8⟩ := u
  refine ⟨u1, u2, u3, u4, fun p y hp => ?_, u6, u7, u8⟩
  rw [u5 p y hp]
  unfold bitE
  rw [h y (List.mem_of_getElem? hp)]
theorem stI.e (u : stI f F G W num j xb xc xe m) (i : IL G) (hj : j < 8) {y p v m' : Nat} (hc : W[xe]? = some y) (hn : xe + 1 < W.length) (hw : ∀ y ∈ W, y < 12) (hp : (gp G)[p]? = some y) (hv : v = bitE m' y) (hm : ∀ c ∈ gp G, c ≠ y → m'.testBit c = m.testBit c) : stI f (ups (ups F (81 + 5 * p + 3) (nI v)) (81 + 5 * p + 4) (nI (num + 1))) G W num j xb xc (xe + 1) m' := by
  obtain ⟨u1, u2, u3, u4, u5, u6, u7, u8⟩ := u
  have h8 := i.2.2.2.2.1
  have hpl := (List.getElem?_eq_some_iff.mp hp).1
  have inj : ∀ p' y', (gp G)[p']? = some y' → p' ≠ p → y' ≠ y := fun p' y' h1 h2 z => h2 ((List.getElem?_inj (List.getElem?_eq_some_iff.mp h1).1 i.2.2.2.1).mp (by rw [h1, hp, z]))
  refine ⟨fun k h1 h2 h3 => ?_, fun k c' hk hc' => ?_, fun k b h1 h2 h3 => ?_, fun b hb h1 => ?_, fun p' y' hp' => ?_, fun p' hp' h1 => ?_, fun k y' p' h1 h2 h3 h4 => ?_, fun p' hp' h1 => ?_⟩
  · have := h2 p (by omega)
    rw [ups_o this.2, ups_o this.1]; exact u1 k h1 h2 h3
  · rw [ups_o (by omega), ups_o (by omega)]; exact u2 k c' hk hc'
  · have := hw b (List.mem_of_getElem? h3)
    rw [ups_o (by omega), ups_o (by omega)]; exact u3 k b h1 h2 h3
  · rw [ups_o (by omega), ups_o (by omega)]; exact u4 b hb h1
  · by_cases e : p' = p
    · subst e
      rw [hp] at hp'
      cases hp'
      rw [ups_o (by omega), ups_s, hv]
    · rw [ups_o (by omega), ups_o (by omega), u5 p' y' hp']
      unfold bitE
      rw [hm y' (List.mem_of_getElem? hp') (inj p' y' hp' e)]
  · rw [ups_o (by omega), ups_o (by omega)]; exact u6 p' hp' h1
  · by_cases e : p' = p
    · subst e; rw [ups_s]
    · have hy := inj p' y' h4 e
      have hk : k ≠ xe := fun z => hy (by rw [z, hc] at h3; exact (Option.some.inj h3).symm)
      rw [ups_o (by omega), ups_o (by omega)]; exact u7 k y' p' (by omega) h2 h3 h4
  · have e : p' ≠ p := fun z => h1 xe y (by omega) hn hc (by rw [z]; exact hp)
    rw [ups_o (by omega), ups_o (by omega)]; exact u8 p' hp' (fun k y2 h2 h3 h4 => h1 k y2 (by omega) h3 h4)
theorem m_pointAt (s : sM h) (r2 : ∀ b, b < 12 → mI h 607 (9 + 6 * b + 3) = nI (stE G b)) (i : IL G) {b : Nat} (hb : b < 12) {K : Int32 → AH → Prop} : wX10_pointAt 606 (nI b) h K ↔ K (if b ∈ gp G then nI ((gp G).idxOf b) else -1) h := by
  unfold wX10_pointAt
  simp (disch := omega) only [s.o, m_block s hb, r2 b hb, true_and]
  unfold stE
  by_cases z : b ∈ gp G
  · rw [if_pos z, if_pos z, nI_sub (by omega), Nat.add_sub_cancel]
  · rw [if_neg z, if_neg z]
    have : nI 0 - nI 1 = (-1 : Int32) := by decide
    rw [this]
end ST9
