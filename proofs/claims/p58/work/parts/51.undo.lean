/-! THE CLASS'S UNDO, SAVED STATE, PROGRAM BUFFER -/
section UN
variable {h g : AH} {p w : Nat} {X : BG} {B : AG}
theorem c_putBack (r : RBp h p X) (q : rpS h (196 + 43 * p) B) {K : AH → Prop} (k : ∀ g, chg 65 108 h g → RBp g p (B, X.2) → rpS g 65 B → K g) : wX2_putBack 194 65 h K := by
  have s := r.1
  have hp := r.2.2.2.1.1
  have e1 := r.2.2.2.1.2.1
  have st := r.2.2.1.1
  unfold wX2_putBack
  simp (disch := omega) only [s.o, s.f0, s.f1, s.f2, s.f3, s.f4, s.f5, s.f6, s.ho, s.h0, s.ha, s.hl, s.eo, s.e1, s.e2, s.e3, s.ea1, s.ea2, s.ea3, s.el1, s.el2, s.el3, s.po, s.p0, s.p2, s.p3, s.pa0, s.pa2, s.pa3, s.pl0, s.pl2, s.pl3, s.so, e1, nI_clamp, vp_in_nI, s.hr, st.o, true_and]
  exact c_copyS q st (by omega) (fun g c _ q2 => k g c (r.now c q2) q2)
/-- the ring without its newest state -/
theorem RBp.back {H : List AG} (r : RBp h p X) (e : bH X = B :: H) {g : AH} (hg : g = uI (uI h 194 2 (nI (bH X).length - nI 1)) 194 1 (nI ((p + 8) % 9))) : chi 194 195 h g ∧ RBp g ((p + 8) % 9) (bA X, H, X.2.2) ∧ rpS g (196 + 43 * ((p + 8) % 9)) B := by
  have hs := r.sR
  obtain ⟨r1, r2, r3, r4, r5, r6, r7, r8⟩ := r
  obtain ⟨h1, h2, h3, h4, h5⟩ := r4
  have c : chi 194 195 h g := by
    rw [hg]
    exact (chi.uI (by omega) (by omega)).tr (chi.uI (by omega) (by omega))
  have c' := c.chg
  have hl : (bH X).length = H.length + 1 := by rw [e]; rfl
  refine ⟨c, ⟨?_, r2.sm (fun q hq => c'.sa (by omega)), r3.sm (fun q h1 h2 => c'.sa (by omega)), ⟨by omega, ?_, ?_, ?_, fun i C hC => ?_⟩, r5.sm (fun q hq => c'.sa (by omega)), r6.sm (fun q hq => c'.sa (by omega)), r7.sm (Nat.le_of_eq c.1.symm) (fun q hq => c'.sa (by omega)), r8.sm (c'.sa (a := 64) (by omega)).2.1⟩, ?_⟩
  · unfold sB0
    rw [c.2.1, c.2.2.1]
    exact r1
  · rw [hg, mI_uI, if_pos ⟨rfl, rfl⟩]
  · rw [hg, hl, nI_sub (by omega)]; simp [mI_uI, bH]
  · show H.length ≤ 8
    omega
  · have hC' : H[i]? = some C := hC
    have hi := (List.getElem?_eq_some_iff.mp hC').1
    have := h5 (i + 1) C (by rw [e, List.getElem?_cons_succ]; exact hC')
    rw [show (p + 8 - (i + 1)) % 9 = ((p + 8) % 9 + 8 - i) % 9 by omega] at this
    exact this.sm (fun q h1 h2 => c'.sa (by omega))
  · have := h5 0 B (by rw [e]; rfl)
    rw [Nat.sub_zero] at this
    exact this.sm (fun q h1 h2 => c'.sa (by omega))
theorem c9_undo (r : RBc h X) {K : Int32 → AH → Prop} {T : String → AH → Prop} (k : ∀ B H, bH X = B :: H → ∀ g, fcl h g → RBc g (B, H, X.2.2) → K (nI H.length) g) (kT : bH X = [] → T "java/lang/IllegalStateException" h) : wX9_undo 64 h K T := by
  obtain ⟨p, r⟩ := r
  have s := r.1
  have hp := r.2.2.2.1.1
  have e1 := r.2.2.2.1.2.1
  have e2 := r.2.2.2.1.2.2.1
  have e3 := r.2.2.2.1.2.2.2.1
  unfold wX9_undo
  refine ⟨s.o, ?_⟩
  rw [s.f3, s.f0]
  refine ⟨s.ho, ?_⟩
  unfold wX2_takeBack
  rw [e2]
  refine ⟨s.ho, ?_⟩
  cases hb : bH X with
  | nil =>
    exact ⟨fun z => absurd rfl z, fun _ => ⟨fun z => absurd rfl z, fun _ => kT hb⟩⟩
  | cons B H =>
    have hl : (bH X).length = H.length + 1 := by rw [hb]; rfl
    refine ⟨fun _ g1 h1 g2 h2 => ?_, fun z => absurd z (by rw [nI_z (by rw [← hb]; omega)]; simp)⟩
    have h3 : mI g1 194 1 = nI p := by rw [h1]; simp [mI_uI]; exact e1
    rw [h3, ring_p p hp, h1, ← hb] at h2
    obtain ⟨c, r2, q⟩ := r.back hb h2
    refine c_putBack r2 q (fun g3 c3 r3 q3 => ⟨fun _ => ⟨r3.1.o, ?_⟩, fun z => absurd z (by rw [n1_ne]; exact id)⟩)
    rw [r3.1.f3]
    refine ⟨r3.1.ho, ?_⟩
    rw [r3.2.2.2.1.2.2.1]
    exact k B H hb g3 ((c.chg.fcl (by omega) (by omega)).tr (c3.fcl (by omega) (by omega))) ⟨_, r3⟩
theorem c9_save (r : RBc h X) {K : Int32 → AH → Prop} (k : ∀ g, fcl h g → RBc g (bA X, bH X, some (bA X), X.2.2.2) → K (nI (aT (bA X)).length) g) : wX9_save 64 h K := by
  obtain ⟨p, r⟩ := r
  have hs := r.sR
  have s := r.1
  have st := r.2.1.2.1
  unfold wX9_save
  refine ⟨s.o, ?_⟩
  rw [s.f1, s.f0]
  refine ⟨st.o, c_copyS r.2.2.1 st (by omega) (fun g1 c1 _ q1 => ?_)⟩
  obtain ⟨r1, r2, r3, r4, r5, r6, r7, r8⟩ := r
  have s1 : sB0 g1 := r1.sm (fun q hq => c1.sa (by omega))
  refine ⟨s1.o, fun g2 e2 => ?_⟩
  have c2 : chg 64 65 g1 g2 := by rw [e2]; exact chg.uI (by omega) (by omega)
  have c : chg 64 151 h g2 := (c1.mo (by omega) (by omega)).tr (c2.mo (by omega) (by omega))
  have q3 : rpS g2 65 (bA X) := (r3.sm (fun q h1 h2 => c1.sa (by omega))).sm (fun q h1 h2 => c2.sa (by omega))
  have e64 : ∀ j, j ≠ 7 → mI g2 64 j = mI h 64 j := fun j hj => by
    rw [e2, mI_uI, if_neg (by omega), (c1.sa (a := 64) (by omega)).2.1]
  rw [s1.f0]
  refine ⟨(r3.sm (fun q h1 h2 => c1.sa (by omega))).1.o, ?_⟩
  have e3 : mI g2 65 3 = nI (aT (bA X)).length := q3.2.2.1
  rw [e3]
  refine k g2 (c.fcl (by omega) (by omega)) ⟨p, ?_, ⟨q3.1, ?_, r2.2.2.1.sm (fun q h1 h2 => c.sa (by omega)), fun i hi => (r2.2.2.2 i hi).sm (fun q h1 h2 => c.sa (by omega))⟩, q3, r4.sm (fun q hq => c.sa (by omega)), ⟨?_, q1.sm (fun q h1 h2 => c2.sa (by omega))⟩, r6.sm (fun q hq => c.sa (by omega)), r7.sm (Nat.le_of_eq c.1.symm) (fun q hq => c.sa (by omega)), ?_⟩
  · have : sB0 g1 := s1
    unfold sB0
    rw [e2, mS_uI, mR_uI]
    exact this
  · exact q1.1.sm (fun q h1 h2 => c2.sa (by omega))
  · rw [e2, mI_uI, if_pos ⟨rfl, rfl⟩]
  · exact ⟨by rw [e64 8 (by omega)]; exact r8.1, by rw [e64 9 (by omega)]; exact r8.2.1, by rw [e64 10 (by omega)]; exact r8.2.2.1, by rw [e64 11 (by omega)]; exact r8.2.2.2⟩
theorem c9_restore (r : RBc h X) {K : Int32 → AH → Prop} {T : String → AH → Prop} (k : ∀ B, bS X = some B → ∀ g, fcl h g → RBc g (B, [], X.2.2) → K (nI (aT B).length) g) (kT : bS X = none → T "java/lang/IllegalStateException" h) : wX9_restore 64 h K T := by
  obtain ⟨p, r⟩ := r
  have s := r.1
  have hv := r.2.2.2.2.1
  unfold wX9_restore
  refine ⟨s.o, ?_⟩
  unfold svO at hv
  cases hsv : bS X with
  | none =>
    rw [hsv] at hv
    exact ⟨fun z => absurd hv z, fun _ => kT hsv⟩
  | some B =>
    rw [hsv] at hv
    obtain ⟨v1, v2⟩ := hv
    refine ⟨fun _ => ?_, fun z => absurd z (by rw [v1, n1_ne]; exact id)⟩
    rw [s.f0, s.f1]
    refine ⟨r.2.2.1.1.o, c_copyS v2 r.2.2.1.1 (by omega) (fun g1 c1 _ q1 => ?_)⟩
    have r1 := r.now c1 q1
    refine ⟨r1.1.o, ?_⟩
    rw [r1.1.f3]
    refine ⟨r1.1.ho, ?_⟩
    unfold wX2_forget
    refine ⟨r1.1.ho, fun g2 e2 => ?_⟩
    have hs := r1.sR
    obtain ⟨t1, t2, t3, t4, t5, t6, t7, t8⟩ := r1
    have c2 : chi 194 195 g1 g2 := by rw [e2]; exact chi.uI (by omega) (by omega)
    have c' := c2.chg
    have s2 : sB0 g2 := by
      unfold sB0
      rw [c2.2.1, c2.2.2.1]
      exact t1
    have q3 : rpS g2 65 B := q1.sm (fun q h1 h2 => c'.sa (by omega))
    refine ⟨s2.o, ?_⟩
    rw [s2.f0]
    refine ⟨q3.1.o, ?_⟩
    have e3 : mI g2 65 3 = nI (aT B).length := q3.2.2.1
    rw [e3]
    refine k B hsv g2 ((c1.fcl (by omega) (by omega)).tr (c'.fcl (by omega) (by omega))) ⟨p, s2, t2.sm (fun q hq => c'.sa (by omega)), q3, ⟨t4.1, ?_, ?_, Nat.zero_le _, fun i C hC => ?_⟩, t5.sm (fun q hq => c'.sa (by omega)), t6.sm (fun q hq => c'.sa (by omega)), t7.sm (Nat.le_of_eq c2.1.symm) (fun q hq => c'.sa (by omega)), t8.sm (c'.sa (a := 64) (by omega)).2.1⟩
    · rw [e2]; simp [mI_uI]; exact t4.2.1
    · rw [e2, mI_uI, if_pos ⟨rfl, rfl⟩]; rfl
    · have hC' : ([] : List AG)[i]? = some C := hC
      simp at hC'
set_option maxRecDepth 100000 in
theorem nar_c : ∀ c : Nat, c < 65536 → vp_nar .char (nI c) = nI c := by
  intro c hc
  show (nI c).toUInt32.toUInt16.toUInt32.toInt32 = nI c
  apply Int32.toBitVec_inj.mp
  show BitVec.setWidth 32 (BitVec.setWidth 16 (BitVec.ofNat 32 c)) = BitVec.ofNat 32 c
  apply BitVec.eq_of_toNat_eq
  simp
  omega
theorem chr_c (x : Int32) : ∃ c, c < 65536 ∧ (x.toUInt32 % 65536).toInt32 = nI c := by
  refine ⟨(x.toUInt32 % 65536).toNat, ?_, ?_⟩
  · rw [UInt32.toNat_mod]
    exact Nat.mod_lt _ (by decide)
  · apply Int32.toBitVec_inj.mp
    show (x.toUInt32 % 65536).toBitVec = BitVec.ofNat 32 (x.toUInt32 % 65536).toNat
    apply BitVec.eq_of_toNat_eq
    simp
    rw [Nat.mod_eq_of_lt (b := 4294967296) (Nat.lt_of_lt_of_le (Nat.mod_lt _ (by decide)) (by decide))]
    rfl
/-- the program buffer has changed -/
theorem RBp.buf (r : RBp h p X) (c : chi 587 589 h g) {b : List Nat} (q : pgO g b) : RBp g p (bA X, bH X, bS X, bO X, b, X.2.2.2.2.2) := by
  have hs := r.sR
  have c' := c.chg
  obtain ⟨r1, r2, r3, r4, r5, r6, r7, r8⟩ := r
  refine ⟨?_, r2.sm (fun q hq => c'.sa (by omega)), r3.sm (fun q h1 h2 => c'.sa (by omega)), r4.sm (fun q hq => c'.sa (by omega)), r5.sm (fun q hq => c'.sa (by omega)), q, r7.sm (Nat.le_of_eq c.1.symm) (fun q hq => c'.sa (by omega)), r8.sm (c'.sa (a := 64) (by omega)).2.1⟩
  unfold sB0
  rw [c.2.1, c.2.2.1]
  exact r1
theorem c9_type (r : RBc h X) {c : Nat} (hc : c < 65536) {K : Int32 → AH → Prop} {T : String → AH → Prop} (k : (bF X).length < 60 → ∀ g, fcl h g → RBc g (bA X, bH X, bS X, bO X, bF X ++ [c], X.2.2.2.2.2) → K (nI ((bF X).length + 1)) g) (kT : (bF X).length = 60 → T "java/lang/IllegalStateException" h) : wX9_type 64 (nI c) h K T := by
  obtain ⟨p, r⟩ := r
  have s := r.1
  obtain ⟨b1, b2, b3⟩ := r.2.2.2.2.2.1
  unfold wX9_type
  refine ⟨s.o, ?_⟩
  rw [s.f5]
  refine ⟨s.po, ?_⟩
  unfold wX5_append
  rw [b1, s.p0, s.pl0, nar_c c hc, nI_clamp (by omega)]
  refine ⟨s.po, fun hlt => ?_, fun hge => ?_⟩
  · rw [nI_ltI (by omega) (by decide)] at hlt
    refine ⟨s.pa0, by decide, vp_in_nI hlt (by decide), fun g1 e1 g2 e2 => ⟨fun _ => ?_, fun z => absurd z (by rw [n1_ne]; exact id)⟩⟩
    have c1 : chi 587 589 h g2 := by
      rw [e2, e1]
      exact (chi.uI (by omega) (by omega)).tr (chi.uI (by omega) (by omega))
    have e3 : mI g2 587 1 = nI ((bF X).length + 1) := by
      rw [e2, mI_uI, if_pos ⟨rfl, rfl⟩, e1, mI_uI, if_neg (by omega), b1, nI_add]
    have r2 := r.buf c1 (b := bF X ++ [c]) ⟨by rw [e3, List.length_append]; rfl, by rw [List.length_append, List.length_singleton]; omega, fun i d hd => ?_⟩
    · refine ⟨r2.1.o, ?_⟩
      rw [r2.1.f5]
      refine ⟨r2.1.po, ?_⟩
      rw [e3]
      exact k hlt g2 (c1.chg.fcl (by omega) (by omega)) ⟨p, r2⟩
    · rw [e2, mI_o (by omega), e1, mI_uI]
      by_cases e : i = (bF X).length
      · subst e
        rw [if_pos ⟨rfl, rfl⟩]
        rw [List.getElem?_append_right (Nat.le_refl _), Nat.sub_self, List.getElem?_cons_zero] at hd
        cases hd
        exact ⟨rfl, hc⟩
      · rw [if_neg (by omega)]
        have hi := (List.getElem?_eq_some_iff.mp hd).1
        rw [List.length_append, List.length_singleton] at hi
        rw [List.getElem?_append_left (by omega)] at hd
        exact b3 i d hd
  · rw [nI_ltI (by omega) (by decide)] at hge
    exact ⟨fun z => absurd rfl z, fun _ => kT (by omega)⟩
end UN
