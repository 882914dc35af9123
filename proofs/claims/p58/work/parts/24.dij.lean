/-! THE CLASS FINDS ROUTES -/
theorem n1_ne : (nI 1 = nI 0) = False := by rw [nI_eq (by decide) (by decide)]; simp
theorem n0_eq : (nI 0 = nI 0) = True := eq_true rfl
theorem fill_l {f0 : Nat → Int32} {a : Nat} {v : Int32} {n : Nat} {K : AH → Prop} : ∀ (k x : Nat) (h : AH), isA h a 0 → nZ ≤ a → ln h a = n → n < 2 ^ 31 → x + k = n → (∀ b, b < x → mI h a b = v) → (∀ b, n ≤ b → mI h a b = f0 b) → (∀ h', chi a (a + 1) h h' → (∀ b, b < n → mI h' a b = v) → K h') → wJ7_fill_53178_L5 K (k + 1) a v (nI x) (nI n) h := by
  intro k
  induction k with
  | zero =>
    intro x h hA hz hl hn hx hv h0 kk
    rw [wJ7_fill_53178_L5]
    have hx' : x = n := by omega
    subst hx'
    refine ⟨fun _ => kk h (chi.rf _ _ h) hv, fun z => absurd (nI_le (Nat.le_refl x) hn) z⟩
  | succ k ih =>
    intro x h hA hz hl hn hx hv h0 kk
    rw [wJ7_fill_53178_L5]
    refine ⟨fun z => absurd z (nI_ge (by omega) hn), fun _ => ⟨hA, hz, by rw [hl]; exact vp_in_nI (by omega) hn, ?_⟩⟩
    intro h6 e6
    rw [nI_clamp (by omega)] at e6
    rw [nI_add]
    subst e6
    refine ih (x + 1) (uI h a x v) hA hz hl hn (by omega) (fun b hb => ?_) (fun b hb => ?_) (fun h' c k9 => kk h' ((chi.uI (Nat.le_refl a) (Nat.lt_succ_self a)).tr c) k9)
    · rw [mI_uI]
      by_cases hb2 : b = x
      · rw [if_pos ⟨rfl, hb2⟩]
      · rw [if_neg (fun z => hb2 z.2)]
        exact hv b (by omega)
    · rw [mI_uI, if_neg (fun z => by have := z.2; omega)]
      exact h0 b hb
theorem w_fill {a : Nat} {v : Int32} {n : Nat} {h : AH} {K : AH → Prop} (hA : isA h a 0) (hz : nZ ≤ a) (hl : ln h a = n) (hn : n < 2 ^ 31) (kk : ∀ h', chi a (a + 1) h h' → (∀ b, b < n → mI h' a b = v) → K h') : wJ7_fill_53178 a v h K := by
  unfold wJ7_fill_53178
  rw [hl]
  exact ⟨hA, n + 1, fill_l (f0 := mI h a) n 0 h hA hz hl hn (by omega) (fun b hb => by omega) (fun b _ => rfl) kk⟩
/-- while the routes to one block are found: costs, next blocks, sets of blocks -/
def DH (h : AH) (a : Nat) (G : LG) (to : Nat) (c : Nat → Nat) (N : Nat → Option Nat) (R : Nat → Nat) : Prop := shL h a ∧ cnG h a G ∧ (∀ b, b < gn G → mI h (a + 31) b = nI (c b)) ∧ (∀ b, b < gn G → mI h (a + 6 + to) b = oI (N b)) ∧ ∀ b, b < gn G → mI h (a + 19 + to) b = nI (R b)
def nrI (G : LG) (c : Nat → Nat) (L : List Nat) (x : Nat) (r : Option Nat) (least : Nat) : Prop := match r with
  | none => least = 1000000 ∧ ∀ y, y < x → y ∉ L → 1000000 ≤ c y
  | some b => b < x ∧ b ∉ L ∧ c b = least ∧ least < 1000000 ∧ ∀ y, y < x → y ∉ L → least ≤ c y
section DJ
variable {a : Nat} {G : LG} {to : Nat}
theorem d_near_l {h : AH} {c : Nat → Nat} {N : Nat → Option Nat} {R : Nat → Nat} {L : List Nat} {K : Int32 → AH → Prop} (d : DH h a G to c N R) (i : IL G) (hc : ∀ b, b < gn G → c b ≤ 1000000) (hL : ∀ x ∈ L, x < gn G) (kk : ∀ r least, nrI G c L (gn G) r least → K (oI r) h) : ∀ k x r least, x + k = gn G → least ≤ 1000000 → nrI G c L x r least → wX4_nearestBlock_L8 K (k + 1) a (nI (bts L)) (oI r) (nI least) (nI x) h := by
  obtain ⟨s, g, d1, -, -⟩ := d
  have h12 := i.1
  have hb : bts L < 2 ^ 31 := Nat.lt_of_lt_of_le (bts_lt hL) (Nat.pow_le_pow_right (by decide) (by omega))
  intro k
  induction k with
  | zero =>
    intro x r least hx hl hI
    rw [wX4_nearestBlock_L8]; dsimp only; rw [g.1]
    have hx' : x = gn G := by omega
    subst hx'
    exact ⟨s.o, fun _ => kk r least hI, fun z => absurd (nI_le (Nat.le_refl _) (by omega)) z⟩
  | succ k ih =>
    intro x r least hx hl hI
    rw [wX4_nearestBlock_L8]; dsimp only; rw [g.1]
    refine ⟨s.o, fun z => absurd z (nI_ge (by omega) (by omega)), fun _ => ?_⟩
    rw [c_con hb (by omega), bts_tb, nI_add]
    by_cases hxL : x ∈ L
    · simp only [hxL, decide_true, if_true, n1_ne, not_false_eq_true, forall_const, false_implies, and_true]
      refine ih (x + 1) r least (by omega) hl ?_
      cases r with
      | none => exact ⟨hI.1, fun y hy hyL => hI.2 y (by have : y ≠ x := fun z => hyL (z ▸ hxL); omega) hyL⟩
      | some b => exact ⟨by have := hI.1; omega, hI.2.1, hI.2.2.1, hI.2.2.2.1, fun y hy hyL => hI.2.2.2.2 y (by have : y ≠ x := fun z => hyL (z ▸ hxL); omega) hyL⟩
    · have hcx := hc x (by omega)
      simp only [hxL, decide_false, Bool.false_eq_true, if_false, n0_eq, not_true_eq_false, false_implies, true_and, forall_const]
      simp (disch := omega) only [s.o, s.m5, s.m6, s.m7, s.m8, s.m9, s.m10, s.m11, s.a1, s.a2, s.a3, s.a4, s.a5, s.a18, s.a31, s.l1, s.l2, s.l3, s.l4, s.l5, s.l18, s.l31, s.z, s.r5, s.r18, s.a6, s.l6, s.a19, s.l19, nI_clamp, vp_in_nI, d1 x (by omega), nI_leI, true_and]
      by_cases hlt : least ≤ c x
      · simp only [hlt, not_true_eq_false, false_implies, and_true, forall_const]
        refine ih (x + 1) r least (by omega) hl ?_
        cases r with
        | none => exact ⟨hI.1, fun y hy hyL => by
            by_cases e : y = x
            · have := hI.1; subst e; omega
            · exact hI.2 y (by omega) hyL⟩
        | some b => exact ⟨by have := hI.1; omega, hI.2.1, hI.2.2.1, hI.2.2.2.1, fun y hy hyL => by
            by_cases e : y = x
            · subst e; exact hlt
            · exact hI.2.2.2.2 y (by omega) hyL⟩
      · simp only [hlt, not_false_eq_true, false_implies, true_and, forall_const]
        refine ih (x + 1) (some x) (c x) (by omega) hcx ?_
        refine ⟨by omega, hxL, rfl, by omega, fun y hy hyL => ?_⟩
        by_cases e : y = x
        · subst e; exact Nat.le_refl _
        · cases r with
          | none => have := hI.2 y (by omega) hyL; omega
          | some b => have := hI.2.2.2.2 y (by omega) hyL; omega
theorem d_near {h : AH} {c : Nat → Nat} {N : Nat → Option Nat} {R : Nat → Nat} {L : List Nat} {K : Int32 → AH → Prop} (d : DH h a G to c N R) (i : IL G) (hc : ∀ b, b < gn G → c b ≤ 1000000) (hL : ∀ x ∈ L, x < gn G) (kk : ∀ r least, nrI G c L (gn G) r least → K (oI r) h) : wX4_nearestBlock a (nI (bts L)) h K :=
  ⟨gn G + 1, d_near_l d i hc hL kk (gn G) 0 none 1000000 (by omega) (Nat.le_refl _) ⟨rfl, fun y hy => by omega⟩⟩
end DJ
