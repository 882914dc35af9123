/-! THE CLASS'S MINUTES: trains that have arrived go -/
section GO
variable {h : AH} {S a : Nat} {A : AG} {G : LG}
def arr (t : TG) : Bool := decide (tb t = td t)
def stay (t : TG) : Bool := decide (tb t ≠ td t)
def RM (h : AH) (S : Nat) (A : AG) (x : Nat) (g : AH) : Prop := mN g = mN h ∧ mS g = mS h ∧ mL g = mL h ∧ (∀ a, a ≠ S → mI g a = mI h a) ∧ (∀ j, j ≠ 6 → mI g S j = mI h S j) ∧ mI g S 6 = nI (aO A + ((aT A).take x).countP arr) ∧ (∀ a, a ≠ S + 33 → mR g a = mR h a) ∧ (∀ i, i < 8 → S + 35 ≤ mR g (S + 33) i ∧ mR g (S + 33) i < S + 43) ∧ (∀ i j, i < 8 → j < 8 → mR g (S + 33) i = mR g (S + 33) j → i = j) ∧ (∀ i t, (((aT A).take x).filter stay)[i]? = some t → cnT h (mR g (S + 33) i) t) ∧ ∀ i, x ≤ i → mR g (S + 33) i = mR h (S + 33) i
theorem RM.sh {x : Nat} {g : AH} (m : RM h S A x g) (s : shS h S) : shS g S := by
  obtain ⟨-, m2, -, -, -, -, m7, m8, m9, -⟩ := m
  obtain ⟨s1, s2, s3, s4, s5, s6, s7, s8, s9, s10⟩ := s
  exact ⟨s1.of m2 (fun k => by rw [m7 _ (by omega)]) (fun k => by rw [m7 _ (by omega)]) (fun k => by rw [m7 _ (by omega)]), by rw [m2]; exact s2, by rw [m2]; exact s3, by rw [m2]; exact s4, by rw [m2]; exact s5, by rw [m7 _ (by omega)]; exact s6, by rw [m7 _ (by omega)]; exact s7, by rw [m7 _ (by omega)]; exact s8, m8, m9⟩
theorem RM.cg {x : Nat} {g : AH} (m : RM h S A x g) : chg S (S + 43) h g := by
  obtain ⟨m1, m2, m3, m4, -, -, m7, -⟩ := m
  exact ⟨m1, m2, fun a ha => ⟨m4 a (by omega), m7 a (by omega), by rw [m3]⟩⟩
theorem remove_l (p : rpS h S A) (i : IT A) {K : AH → Prop} (k : ∀ g, chg S (S + 43) h g → mI g (S + 34) = mI h (S + 34) → rpS g S (aL A, (aT A).filter stay, aQ A, aC A, aO A + (aT A).countP arr, aM A, aD A) → K g) : ∀ j x g, x + j = (aT A).length → RM h S A x g → wX7_removeArrived_L4 K (j + 1) S (nI (((aT A).take x).filter stay).length) (nI x) g := by
  have h8 := i.1
  have h12 := p.2.1.1.n12
  intro j
  induction j with
  | zero =>
    intro x g hx m
    have hx' : x = (aT A).length := by omega
    subst hx'
    have s := m.sh p.1
    have cg := m.cg
    have e3 : mI g S 3 = nI (aT A).length := by rw [m.2.2.2.2.1 3 (by decide)]; exact p.2.2.1
    rw [wX7_removeArrived_L4]; dsimp only; rw [e3]
    refine ⟨s.o, fun _ h3 e => ?_, fun z => absurd (nI_le (Nat.le_refl _) (by omega)) z⟩
    subst e
    obtain ⟨m1, m2, m3, m4, m5, m6, m7, m8, m9, m10, m11⟩ := m
    rw [List.take_length] at m6 m10 ⊢
    obtain ⟨s0, r, c1, c2, c3, c4, c5, c6, c7, c8, c9, c10⟩ := p
    refine k _ (cg.tr (chg.uI (by omega) (by omega))) (by rw [mI_o (by omega), m4 _ (by omega)]) ⟨s.ch (chi.uI (Nat.le_refl S) (Nat.lt_succ_self S)), ?_, ?_, ?_, ?_, ?_, ?_, ?_, fun i t ht => ?_, fun i q hq => ?_, ?_, c10⟩
    · have rr : rpL g (S + 1) (aL A) := by
        obtain ⟨⟨s9, g9, i9⟩, q9, x9⟩ := r
        refine ⟨⟨s.lg, ?_, i9⟩, fun t b ht hb => ?_, x9⟩
        · unfold cnG
          rw [m4 (S + 1) (by omega), m4 (S + 1 + 1) (by omega), m4 (S + 1 + 2) (by omega), m4 (S + 1 + 3) (by omega), m4 (S + 1 + 4) (by omega)]
          exact g9
        · rw [m4 _ (by omega), m4 _ (by omega)]
          exact q9 t b ht hb
      exact rr.uI (by omega)
    · simp [mI_uI, aT]
    · simp [mI_uI, m5]; exact c2
    · simp [mI_uI, m5]; exact c3
    · simp [mI_uI, m6, aO]
    · simp [mI_uI, m5]; exact c5
    · rw [mL_uI, m3]; exact c6
    · rw [mR_uI]
      have hi : i < 8 := Nat.lt_of_lt_of_le (List.getElem?_eq_some_iff.mp ht).1 (Nat.le_trans (List.length_filter_le _ _) c9)
      have := m8 i hi
      exact (m10 i t ht).ch (by rw [mI_o (by omega), m4 _ (by omega)])
    · rw [mI_o (by omega), m4 _ (by omega)]; exact c8 i q hq
    · exact Nat.le_trans (List.length_filter_le _ _) c9
  | succ j ih =>
    intro x g hx m
    have hxl : x < (aT A).length := by omega
    have hx8 : x < 8 := by omega
    obtain ⟨t, ht, hmem⟩ := T_get hxl
    obtain ⟨t1, t2, -⟩ := i.2 t hmem
    have s := m.sh p.1
    have e3 : mI g S 3 = nI (aT A).length := by rw [m.2.2.2.2.1 3 (by decide)]; exact p.2.2.1
    obtain ⟨m1, m2, m3, m4, m5, m6, m7, m8, m9, m10, m11⟩ := id m
    have q := p.t ht
    have hcx := m8 x hx8
    have ecx := m11 x (Nat.le_refl _)
    have q' : cnT g (mR g (S + 33) x) t := by rw [ecx]; rw [ecx] at hcx; exact q.ch (m4 _ (by omega))
    have hy : (((aT A).take x).filter stay).length ≤ x := Nat.le_trans (List.length_filter_le _ _) (by rw [List.length_take]; omega)
    have hsn := take_s ht
    rw [wX7_removeArrived_L4]; dsimp only; rw [e3]
    refine ⟨s.o, fun z => absurd z (nI_ge hxl (by omega)), fun _ => ?_⟩
    simp (disch := omega) only [s.o, s.m0, s.m1, s.m2, s.a33, s.l33, s.a34, s.l34, s.lg.o, nI_clamp, vp_in_nI, s.tO hx8, s.tO (show (((aT A).take x).filter stay).length < 8 by omega), q'.2.1, q'.2.2.1, nI_eq, nI_add, true_and, forall_eq, isO_uI, isA_uI, ln_uI, mR_uI, isO_uR, isA_uR, ln_uR, mI_uR, isO_uL, isA_uL, ln_uL, mR_uL, mI_uL, mL_uI, mL_uR, isO_uA, isA_uA, ln_uA, mR_uA, mL_uA, mS_uI, mS_uR, mS_uL, mS_uA, mR_uR, show ¬ S = S + 33 by omega, false_and, if_false]
    by_cases e : tb t = td t
    · have ef : ((aT A).take (x + 1)).filter stay = ((aT A).take x).filter stay := by
        rw [hsn, List.filter_append, List.filter_cons_of_neg (by simp [stay, e]), List.filter_nil, List.append_nil]
      simp only [e, not_true_eq_false, false_implies, true_and, forall_const]
      have := ih (x + 1) (uI g S 6 (mI g S 6 + nI 1)) (by omega) ⟨m1, m2, m3, fun a ha => by rw [mI_o ha, m4 a ha], fun j hj => by simp [mI_uI, hj, m5 j hj], ?_, m7, m8, m9, by rw [ef]; exact m10, fun i hi => m11 i (by omega)⟩
      · rw [ef] at this
        exact this
      · simp only [mI_uI, and_self, if_true, m6, nI_add]
        rw [hsn, List.countP_append, List.countP_cons_of_pos (by simp [arr, e]), List.countP_nil]
        rfl
    · have ef : ((aT A).take (x + 1)).filter stay = ((aT A).take x).filter stay ++ [t] := by
        rw [hsn, List.filter_append, List.filter_cons_of_pos (by simp [stay, e]), List.filter_nil]
      simp only [e, not_false_eq_true, false_implies, and_true, forall_const]
      generalize hyy : (((aT A).take x).filter stay).length = y at *
      have := ih (x + 1) (uR (uR g (S + 33) x (mR g (S + 33) y)) (S + 33) y (mR g (S + 33) x)) (by omega) ⟨m1, m2, m3, m4, m5, ?_, fun a ha => by rw [mR_o ha, mR_o ha, m7 a ha], fun i hi => ?_, fun i j hi hj hh => ?_, fun i u hu => ?_, fun i hi => ?_⟩
      · rw [ef, List.length_append, List.length_singleton, hyy] at this
        exact ⟨s.z 33 (by decide), s.z 33 (by decide), this⟩
      · rw [hsn, List.countP_append, List.countP_cons_of_neg (by simp [arr, e]), List.countP_nil]
        exact m6
      · simp only [mR_uR, true_and]
        by_cases e1 : i = y
        · rw [if_pos e1]; exact m8 x hx8
        · rw [if_neg e1]
          by_cases e2 : i = x
          · rw [if_pos e2]; exact m8 y (by omega)
          · rw [if_neg e2]; exact m8 i hi
      · simp only [mR_uR, true_and] at hh
        have n1 := m9 i j hi hj
        have n2 := m9 x j hx8 hj
        have n3 := m9 y j (by omega) hj
        have n4 := m9 i x hi hx8
        have n5 := m9 i y hi (by omega)
        have n6 := m9 x y hx8 (by omega)
        have n7 := m9 y x (by omega) hx8
        by_cases e1 : i = y
        · by_cases e2 : j = y
          · omega
          · rw [if_pos e1, if_neg e2] at hh
            by_cases e3 : j = x
            · rw [if_pos e3] at hh; have := n6 hh; omega
            · rw [if_neg e3] at hh; have := n2 hh; omega
        · rw [if_neg e1] at hh
          by_cases e2 : j = y
          · rw [if_pos e2] at hh
            by_cases e3 : i = x
            · rw [if_pos e3] at hh; have := n7 hh; omega
            · rw [if_neg e3] at hh; have := n4 hh; omega
          · rw [if_neg e2] at hh
            by_cases e3 : i = x
            · rw [if_pos e3] at hh
              by_cases e4 : j = x
              · omega
              · rw [if_neg e4] at hh; have := n3 hh; omega
            · rw [if_neg e3] at hh
              by_cases e4 : j = x
              · rw [if_pos e4] at hh; have := n5 hh; omega
              · rw [if_neg e4] at hh; exact n1 hh
      · rw [ef] at hu
        simp only [mR_uR, true_and]
        by_cases e1 : i = y
        · rw [if_pos e1]
          subst e1
          rw [← hyy, List.getElem?_append_right (Nat.le_refl _), Nat.sub_self] at hu
          cases hu
          rw [ecx]; exact q
        · rw [if_neg e1]
          have hlt : i < (((aT A).take x).filter stay).length := by
            have := (List.getElem?_eq_some_iff.mp hu).1
            rw [List.length_append, List.length_singleton] at this
            omega
          rw [List.getElem?_append_left hlt] at hu
          rw [if_neg (by omega)]
          exact m10 i u hu
      · simp only [mR_uR, true_and]
        rw [if_neg (by omega), if_neg (by omega)]
        exact m11 i (by omega)
end GO
