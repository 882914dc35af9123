/-! THE CLASS'S OUTPUT -/
/-- a number's signs -/
def nch (v : Nat) : List Nat := (if 999 < v then [48 + v / 1000 % 10] else []) ++ ((if 99 < v then [48 + v / 100 % 10] else []) ++ ((if 9 < v then [48 + v / 10 % 10] else []) ++ [48 + v % 10]))
/-- the JDK's digits -/
def stD (h : AH) : Prop := isA h 14 3 ∧ isA h 15 3 ∧ ln h 14 = 100 ∧ ln h 15 = 100 ∧ ∀ r, r < 100 → mI h 14 r = nI (48 + r / 10) ∧ mI h 15 r = nI (48 + r % 10)
/-- the text may have changed, or have a new place -/
def fcs (h g : AH) : Prop := mN h ≤ mN g ∧ mS g 604 = mS h 604 ∧ (mR g 604 0 = mR h 604 0 ∨ mN h ≤ mR g 604 0) ∧ ∀ a, a < mN h → a ≠ 604 → a ≠ mR h 604 0 → sa h g a
section OU
variable {h g h0 : AH} {p w : Nat} {X : BG} {A : AG} {o : List Nat} {K : Int32 → AH → Prop} {T : String → AH → Prop}
theorem stD.sm (s : stD h) (e : ∀ a, a < 64 → sa h g a) : stD g := by
  have e14 := e 14 (by decide)
  have e15 := e 15 (by decide)
  unfold stD isA ln at s ⊢
  rw [e14.1, e15.1, e14.2.1, e15.2.1]
  exact s
theorem stD.fcl (s : stD h) (f : fcl h g) : stD g := s.sm (fun a ha => f.2.2 a (Or.inl ha))
theorem fcs.rf (h : AH) : fcs h h := ⟨Nat.le_refl _, rfl, Or.inl rfl, fun _ _ _ _ => sa.rf _ _⟩
theorem fcs.tr {k : AH} (c : fcs h g) (d : fcs g k) : fcs h k := by
  obtain ⟨c1, c2, c3, c4⟩ := c
  obtain ⟨d1, d2, d3, d4⟩ := d
  refine ⟨Nat.le_trans c1 d1, d2.trans c2, ?_, fun a h1 h2 h3 => (c4 a h1 h2 h3).tr (d4 a (by omega) h2 ?_)⟩
  · rcases d3 with z | z
    · rw [z]; exact c3
    · exact Or.inr (by omega)
  · rcases c3 with z | z
    · rw [z]; exact h3
    · omega
theorem fcs.low (c : fcs h g) (q : sbO h o) {a : Nat} (ha : a < 604) : sa h g a := by
  obtain ⟨-, q2, q3, -⟩ := q
  exact c.2.2.2 a (by omega) (by omega) (by omega)
theorem fcs.fcl (c : fcs h g) (q : sbO h o) : fcl h g := by
  have q2 := q.2.1
  have q3 := q.2.2.1
  exact ⟨c.1, c.2.2.1, fun a ha => c.2.2.2 a (by omega) (by omega) (by omega)⟩
theorem RBp.txt (r : RBp h p X) (c : fcs h g) {o : List Nat} (q : sbO g o) : RBp g p (bA X, bH X, bS X, o, X.2.2.2.2) := by
  have c4 : ∀ a, a < 604 → sa h g a := fun a ha => c.low r.2.2.2.2.2.2.1 ha
  obtain ⟨r1, r2, r3, r4, r5, r6, r7, r8⟩ := r
  refine ⟨?_, r2.sm (fun q hq => c4 q (by omega)), r3.sm (fun q h1 h2 => c4 q (by omega)), r4.sm (fun q hq => c4 q (by omega)), r5.sm (fun q hq => c4 q (by omega)), r6.sm (fun q hq => c4 q (by omega)), q, r8.sm (c4 64 (by omega)).2.1⟩
  obtain ⟨s1, s2, s3, s4, s5, s6⟩ := r1
  have e64 := c4 64 (by omega)
  have e194 := c4 194 (by omega)
  have e195 := c4 195 (by omega)
  have e583 := c4 583 (by omega)
  have e587 := c4 587 (by omega)
  have e590 := c4 590 (by omega)
  unfold sB0
  rw [e64.1, e64.2.2.1, e194.1, e194.2.2.1, e195.1, e195.2.2.1, e583.1, e583.2.2.1, (c4 584 (by omega)).1, (c4 585 (by omega)).1, (c4 586 (by omega)).1, e587.1, e587.2.2.1, (c4 588 (by omega)).1, (c4 589 (by omega)).1, e590.1, e590.2.2.1, c.2.1]
  exact ⟨s1, s2, s3, s4, ⟨s5.1, s5.2.1, s5.2.2.1, s5.2.2.2.1, s5.2.2.2.2.1, s5.2.2.2.2.2.1, s5.2.2.2.2.2.2.1, fun i hi => ⟨(s5.2.2.2.2.2.2.2 i hi).1, by rw [(c4 (591 + i) (by omega)).1]; exact (s5.2.2.2.2.2.2.2 i hi).2⟩⟩, s6⟩
theorem shl0 : ∀ m, m < 200 → nI m <<< (nI 0 &&& nI 31) = nI m ∧ nI m >>> (nI 0 &&& nI 31) = nI m := by decide +kernel
theorem byt_c : ∀ c, c < 128 → vp_nar .byte (nI c) = nI c ∧ vp_nar .byte (nI c).toInt8.toInt32 = nI c ∧ fits .byte (.int (nI c)) = true ∧ ((nI c &&& nI 255).toUInt32 % 65536).toInt32 = nI c := by decide +kernel
theorem nch_l (v : Nat) : (nch v).length ≤ 4 ∧ 1 ≤ (nch v).length := by
  unfold nch
  simp only [List.length_append, List.length_singleton]
  split <;> split <;> split <;> simp <;> omega
theorem nch_c (v : Nat) : ∀ c ∈ nch v, c < 128 := by
  intro c hc
  unfold nch at hc
  simp only [List.mem_append] at hc
  rcases hc with hc | hc | hc | hc
  · split at hc
    · rw [List.mem_singleton.mp hc]; omega
    · cases hc
  · split at hc
    · rw [List.mem_singleton.mp hc]; omega
    · cases hc
  · split at hc
    · rw [List.mem_singleton.mp hc]; omega
    · cases hc
  · rw [List.mem_singleton.mp hc]; omega
theorem cap_n : ∀ l, l < 64 → ∀ k, k < 5 → 15 < l → 0 < k → (nI l + (if (nI (l + k) <<< (nI 0 &&& nI 31)) - nI l < nI l + (nI 2 <<< (nI 0 &&& nI 31)) then nI l + (nI 2 <<< (nI 0 &&& nI 31)) else (nI (l + k) <<< (nI 0 &&& nI 31)) - nI l)) = nI (2 * l + 2) := by decide +kernel
/-- room for more signs -/
theorem sb_ens (s : isO h 604 8) (q : sbO h o) {m : Nat} (h1 : m ≤ o.length + 4) (h2 : m ≤ 68) {K : AH → Prop} (k : ∀ g, fcs h g → mI g 604 = mI h 604 → sbO g o → m ≤ ln g (mR g 604 0) → isO g 604 8 → K g) : wJ5_ensureCapacityInternal_d00df 604 (nI m) h K := by
  obtain ⟨q1, q2, q3, q4, q5, q6, q7, q8, q9⟩ := id q
  unfold wJ5_ensureCapacityInternal_d00df
  refine ⟨s, q1, fun v3 e3 => ?_⟩
  have hl : ln h (mR h 604 0) < 200 := by omega
  rw [q6, (shl0 _ hl).2] at e3
  subst e3
  by_cases e : m ≤ ln h (mR h 604 0)
  · refine ⟨fun _ => k h (fcs.rf h) rfl q e s, fun z => absurd ?_ z⟩
    rw [Int32.le_iff_toInt_le]
    have : nI m - nI (ln h (mR h 604 0)) = -(nI (ln h (mR h 604 0) - m)) := by
      rw [← nI_sub e]
      exact Int32.neg_sub.symm
    have key : ∀ d, d < 100 → (-(nI d)).toInt ≤ (nI 0).toInt := by decide +kernel
    rw [this]
    exact key _ (by omega)
  · obtain ⟨d, hd, hd2, hd3⟩ : ∃ d, m = ln h (mR h 604 0) + d ∧ 0 < d ∧ d < 5 := ⟨m - ln h (mR h 604 0), by omega, by omega, by omega⟩
    have hl64 : ln h (mR h 604 0) < 64 := by omega
    refine ⟨fun z => ?_, fun _ => ?_⟩
    · exfalso
      rw [nI_sub (by omega)] at z
      rw [nI_leI (by omega) (by decide)] at z
      omega
    · unfold wJ5_newCapacity_0f7a4
      rw [q6]
      refine ⟨s, q1, fun v e => ?_⟩
      subst e
      unfold wJ8_newLength_cabcc
      rw [hd, cap_n _ hl64 d hd3 (by omega) hd2]
      refine ⟨fun z => ?_, fun _ => ⟨fun z => ?_, fun _ => ⟨fun _ => ⟨s, ?_⟩, fun z => ?_⟩⟩⟩
      · exfalso
        rw [nI_leI (by omega) (by decide)] at z
        omega
      · exfalso
        rw [nI_ltI (by decide) (by omega)] at z
        omega
      · rw [q6, (shl0 _ (by omega : 2 * ln h (mR h 604 0) + 2 < 200)).2]
        dsimp only
        rw [q6, (shl0 _ (by omega : 2 * ln h (mR h 604 0) + 2 < 200)).1]
        unfold wJ7_copyOf_9075b
        refine ⟨s, q1, fun _ => ⟨nI_pos (by omega), ?_, fun h5 e5 => ?_⟩, fun z => ?_⟩
        · rw [nI_clamp (by omega)]; omega
        · rw [nI_clamp (by omega)] at e5
          have hN := q3.1
          have m5 : ∀ a, a < mN h → sa h h5 a := fun a ha => by
            subst e5
            exact ⟨by rw [mS_nw, if_neg (by omega)], by funext i; rw [mI_nw, if_neg (by omega)], by funext i; rw [mR_nw, if_neg (by omega)], by funext i; rw [mL_nw, if_neg (by omega)]⟩
          have a5 := m5 _ hN
          have l5 : ln h5 (mR h 604 0) = ln h (mR h 604 0) := congrArg Prod.snd a5.1
          have nS : mS h5 (mN h) = (103, 2 * ln h (mR h 604 0) + 2) := by rw [e5, mS_nw, if_pos rfl]
          have nl : ln h5 (mN h) = 2 * ln h (mR h 604 0) + 2 := congrArg Prod.snd nS
          have na : isA h5 (mN h) 3 := congrArg Prod.fst nS
          have hif : (if nI (2 * ln h (mR h 604 0) + 2) < nI (ln h5 (mR h 604 0)) then nI (2 * ln h (mR h 604 0) + 2) else nI (ln h5 (mR h 604 0))) = nI (ln h (mR h 604 0)) := by
            rw [l5, if_neg (by rw [nI_ltI (by omega) (by omega)]; omega)]
          rw [hif, nl, l5, nI_clamp (n := ln h (mR h 604 0)) (by omega), nI_clamp (n := 0) (by decide), Nat.zero_add]
          have a5' : isA h5 (mR h 604 0) 3 := by unfold isA; rw [a5.1]; exact q1
          have z1 : nZ ≤ mR h 604 0 := by show 64 ≤ _; omega
          have z2 : nZ ≤ mN h := by show 64 ≤ _; omega
          refine ⟨a5', na, z1, z2, nI_pos (by omega), Nat.le_refl _, by omega, fun i hi => ?_, fun h14 e14 => ?_⟩
          · obtain ⟨c, hc, ec⟩ := q9 (0 + i)
            rw [a5.2.1, ec]
            exact (byt_c c hc).2.2.1
          · have m14 : ∀ a, a < mN h → sa h h14 a := fun a ha => by
              refine (m5 a ha).tr ?_
              rw [e14]
              exact ⟨rfl, mI_uAo (by omega), rfl, rfl⟩
            have o14 : isO h14 604 8 := by unfold isO; rw [(m14 604 (by omega)).1]; exact s
            refine ⟨o14, fun h12 e12 => ?_⟩
            have b1 : mI h12 = mI h14 := by rw [e12, mI_uR]
            have b2 : mS h12 = mS h14 := by rw [e12, mS_uR]
            have b3 : mR h12 604 0 = mN h := by rw [e12, mR_uR, if_pos ⟨rfl, rfl⟩]
            have bN : mN h12 = mN h + 1 := by rw [e12, mN_uR, e14]; show mN h5 = _; rw [e5, mN_nw]
            have S14 : mS h14 (mN h) = (103, 2 * ln h (mR h 604 0) + 2) := by rw [e14]; exact nS
            have I14 : ∀ i, mI h14 (mN h) i = if i < ln h (mR h 604 0) then mI h (mR h 604 0) i else 0 := fun i => by
              rw [e14, mI_uA, if_pos rfl]
              unfold va_cpy
              by_cases z : i < ln h (mR h 604 0)
              · rw [if_pos ⟨Nat.zero_le _, by omega⟩, if_pos z, Nat.sub_zero, Nat.zero_add, a5.2.1]
              · rw [if_neg (by omega), if_neg z, e5, mI_nw, if_pos rfl]
            have f12 : fcs h h12 := by
              refine ⟨by omega, by rw [b2]; exact (m14 604 (by omega)).1, Or.inr (by omega), fun a ha h604 _ => ?_⟩
              refine (m14 a ha).tr ?_
              rw [e12]
              exact ⟨rfl, rfl, mR_o h604, rfl⟩
            refine k h12 f12 (by rw [b1]; exact (m14 604 (by omega)).2.1) ⟨?_, Or.inr (by omega), ⟨by omega, by omega⟩, ?_, ?_, ?_, ?_, fun i c hc => ?_, fun i => ?_⟩ ?_ (by unfold isO; rw [b2]; exact o14)
            · rw [b3]; unfold isA; rw [b2, S14]
            · rw [b3]; unfold ln; rw [b2, S14]; show o.length ≤ 2 * ln h (mR h 604 0) + 2; omega
            · rw [b3]; unfold ln; rw [b2, S14]; show 2 * ln h (mR h 604 0) + 2 = 16 ∨ 2 * ln h (mR h 604 0) + 2 = 34 ∨ 2 * ln h (mR h 604 0) + 2 = 70; omega
            · rw [b1, (m14 604 (by omega)).2.1]; exact q6
            · rw [b1, (m14 604 (by omega)).2.1]; exact q7
            · have hi := (List.getElem?_eq_some_iff.mp hc).1
              rw [b3, b1, I14, if_pos (by omega)]
              exact q8 i c hc
            · rw [b3, b1, I14]
              by_cases z : i < ln h (mR h 604 0)
              · rw [if_pos z]; exact q9 i
              · rw [if_neg z]; exact ⟨0, by decide, rfl⟩
            · rw [b3]; unfold ln; rw [b2, S14]; show m ≤ 2 * ln h (mR h 604 0) + 2; omega
        · rw [nI_eq (by omega) (by omega)] at z
          omega
      · rw [show (nI (2 * ln h (mR h 604 0) + 2) = (nI 2147483647)) = (2 * ln h (mR h 604 0) + 2 = 2147483647) from propext (nI_eq (by omega) (by decide))] at z
        omega
theorem isLat (s : isO h 604 8) (q : sbO h o) {K : Int32 → AH → Prop} (k : K (nI 1) h) : wJ5_isLatin1_aae02 604 h K := by
  unfold wJ5_isLatin1_aae02
  refine ⟨fun z => absurd z (by rw [n1_ne]; exact id), fun _ => ⟨s, ?_⟩⟩
  rw [q.2.2.2.2.2.1]
  exact ⟨fun z => absurd rfl z, fun _ => k⟩
/-- a sign is written into the room -/
theorem sb_put (q : sbO h o) {c : Nat} (hc : c < 128) (hl : o.length + 1 ≤ ln h (mR h 604 0)) {g : AH} (hg : g = uI (uI h 604 3 (nI (o.length + 1))) (mR h 604 0) o.length (nI c)) : fcs h g ∧ sbO g (o ++ [c]) := by
  obtain ⟨q1, q2, q3, q4, q5, q6, q7, q8, q9⟩ := q
  have eR : mR g = mR h := by rw [hg]; rfl
  have eS : mS g = mS h := by rw [hg]; rfl
  have eL : mL g = mL h := by rw [hg]; rfl
  have eN : mN g = mN h := by rw [hg]; rfl
  have eI : ∀ a, a ≠ 604 → a ≠ mR h 604 0 → mI g a = mI h a := fun a h1 h2 => by rw [hg, mI_o h2, mI_o h1]
  have e4 : ∀ j, j ≠ 3 → mI g 604 j = mI h 604 j := fun j hj => by rw [hg, mI_o (by omega), mI_uI, if_neg (by omega)]
  have eA : ∀ i, mI g (mR h 604 0) i = if i = o.length then nI c else mI h (mR h 604 0) i := fun i => by
    rw [hg, mI_uI]
    by_cases z : i = o.length
    · rw [if_pos ⟨rfl, z⟩, if_pos z]
    · rw [if_neg (fun y => z y.2), if_neg z, mI_o (by omega)]
  refine ⟨⟨Nat.le_of_eq eN.symm, by rw [eS], Or.inl (by rw [eR]), fun a _ h1 h2 => ⟨by rw [eS], eI a h1 h2, by rw [eR], by rw [eL]⟩⟩, ?_, ?_, ?_, ?_, ?_, ?_, ?_, fun i d hd => ?_, fun i => ?_⟩
  · rw [eR]; unfold isA; rw [eS]; exact q1
  · rw [eR]; exact q2
  · rw [eR, eN]; exact q3
  · rw [eR]; unfold ln; rw [eS, List.length_append]; exact hl
  · rw [eR]; unfold ln; rw [eS]; exact q5
  · rw [e4 1 (by omega)]; exact q6
  · rw [hg, mI_o (by omega), mI_uI, if_pos ⟨rfl, rfl⟩, List.length_append]; rfl
  · rw [eR, eA]
    by_cases z : i = o.length
    · rw [if_pos z]
      rw [z, List.getElem?_append_right (Nat.le_refl _), Nat.sub_self, List.getElem?_cons_zero] at hd
      cases hd
      rfl
    · rw [if_neg z]
      have hi := (List.getElem?_eq_some_iff.mp hd).1
      rw [List.length_append, List.length_singleton] at hi
      rw [List.getElem?_append_left (by omega)] at hd
      exact q8 i d hd
  · rw [eR, eA]
    by_cases z : i = o.length
    · rw [if_pos z]; exact ⟨c, hc, rfl⟩
    · rw [if_neg z]; exact q9 i
theorem sb_chr (s : isO h 604 8) (q : sbO h o) {c : Nat} (hc : c < 128) (ho : o.length ≤ 64) {K : Nat → AH → Prop} (k : ∀ g, fcs h g → isO g 604 8 → sbO g (o ++ [c]) → K 604 g) : wJ4_append_cf468 604 (nI c) h K := by
  unfold wJ4_append_cf468 wJ5_append_3fe6f
  rw [q.2.2.2.2.2.2.1, nI_add]
  refine ⟨s, s, sb_ens s q (by omega) (by omega) (fun g f1 e1 q1 hl s1 => ⟨s1, isLat s1 q1 ⟨fun z => absurd z (by rw [n1_ne]; exact id), fun _ => ?_⟩⟩)⟩
  unfold wJ1_canEncode_fc78d
  refine ⟨fun z => ?_, fun _ => ⟨fun z => absurd z (by rw [n1_ne]; exact id), fun _ => ⟨s1, ?_⟩⟩⟩
  · exfalso
    rw [nI_ltI (by decide) (by omega)] at z
    omega
  · rw [q1.2.2.2.2.2.2.1, nI_add, (byt_c c hc).2.1, nI_clamp (by omega)]
    intro g2 e2
    have hr := q1.2.1
    have z1 : nZ ≤ mR g 604 0 := by show 64 ≤ _; omega
    have hln := q1.2.2.2.2.1
    refine ⟨q1.1, z1, vp_in_nI hl (by omega), fun g3 e3 => ?_⟩
    rw [e2] at e3
    obtain ⟨f2, q2⟩ := sb_put q1 hc hl e3
    exact k g3 (f1.tr f2) (by unfold isO; rw [f2.2.1]; exact s1) q2
end OU
