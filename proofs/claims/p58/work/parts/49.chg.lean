/-! THE CLASS'S CHANGES -/
section CH
variable {h g : AH} {S a p w : Nat} {A : AG} {G : LG} {X : BG}
theorem sB0.o (s : sB0 h) : isO h 64 0 := s.1
theorem sB0.f0 (s : sB0 h) : mR h 64 0 = 65 := s.2.1.1
theorem sB0.f1 (s : sB0 h) : mR h 64 1 = 108 := s.2.1.2.1
theorem sB0.f2 (s : sB0 h) : mR h 64 2 = 151 := s.2.1.2.2.1
theorem sB0.f3 (s : sB0 h) : mR h 64 3 = 194 := s.2.1.2.2.2.1
theorem sB0.f4 (s : sB0 h) : mR h 64 4 = 583 := s.2.1.2.2.2.2.1
theorem sB0.f5 (s : sB0 h) : mR h 64 5 = 587 := s.2.1.2.2.2.2.2.1
theorem sB0.f6 (s : sB0 h) : mR h 64 6 = 604 := s.2.1.2.2.2.2.2.2
theorem sB0.ho (s : sB0 h) : isO h 194 1 := s.2.2.1.1
theorem sB0.h0 (s : sB0 h) : mR h 194 0 = 195 := s.2.2.1.2.1
theorem sB0.ha (s : sB0 h) : isA h 195 5 := congrArg Prod.fst s.2.2.1.2.2.1
theorem sB0.hl (s : sB0 h) : ln h 195 = 9 := congrArg Prod.snd s.2.2.1.2.2.1
theorem sB0.hr (s : sB0 h) {i : Nat} (hi : i < 9) : mR h 195 i = 196 + 43 * i := s.2.2.1.2.2.2 i hi
theorem sB0.eo (s : sB0 h) : isO h 583 4 := s.2.2.2.1.1
theorem sB0.e1 (s : sB0 h) : mR h 583 1 = 584 := s.2.2.2.1.2.1
theorem sB0.e2 (s : sB0 h) : mR h 583 2 = 585 := s.2.2.2.1.2.2.1
theorem sB0.e3 (s : sB0 h) : mR h 583 3 = 586 := s.2.2.2.1.2.2.2.1
theorem sB0.ea1 (s : sB0 h) : isA h 584 0 := congrArg Prod.fst s.2.2.2.1.2.2.2.2.1
theorem sB0.ea2 (s : sB0 h) : isA h 585 0 := congrArg Prod.fst s.2.2.2.1.2.2.2.2.2.1
theorem sB0.ea3 (s : sB0 h) : isA h 586 0 := congrArg Prod.fst s.2.2.2.1.2.2.2.2.2.2
theorem sB0.el1 (s : sB0 h) : ln h 584 = 8 := congrArg Prod.snd s.2.2.2.1.2.2.2.2.1
theorem sB0.el2 (s : sB0 h) : ln h 585 = 8 := congrArg Prod.snd s.2.2.2.1.2.2.2.2.2.1
theorem sB0.el3 (s : sB0 h) : ln h 586 = 8 := congrArg Prod.snd s.2.2.2.1.2.2.2.2.2.2
theorem sB0.po (s : sB0 h) : isO h 587 3 := s.2.2.2.2.1.1
theorem sB0.p0 (s : sB0 h) : mR h 587 0 = 588 := s.2.2.2.2.1.2.1
theorem sB0.p2 (s : sB0 h) : mR h 587 2 = 589 := s.2.2.2.2.1.2.2.1
theorem sB0.p3 (s : sB0 h) : mR h 587 3 = 590 := s.2.2.2.2.1.2.2.2.1
theorem sB0.pa0 (s : sB0 h) : isA h 588 4 := congrArg Prod.fst s.2.2.2.2.1.2.2.2.2.1
theorem sB0.pa2 (s : sB0 h) : isA h 589 7 := congrArg Prod.fst s.2.2.2.2.1.2.2.2.2.2.1
theorem sB0.pa3 (s : sB0 h) : isA h 590 8 := congrArg Prod.fst s.2.2.2.2.1.2.2.2.2.2.2.1
theorem sB0.pl0 (s : sB0 h) : ln h 588 = 60 := congrArg Prod.snd s.2.2.2.2.1.2.2.2.2.1
theorem sB0.pl2 (s : sB0 h) : ln h 589 = 13 := congrArg Prod.snd s.2.2.2.2.1.2.2.2.2.2.1
theorem sB0.pl3 (s : sB0 h) : ln h 590 = 13 := congrArg Prod.snd s.2.2.2.2.1.2.2.2.2.2.2.1
theorem sB0.pr (s : sB0 h) {i : Nat} (hi : i < 13) : mR h 590 i = 591 + i := (s.2.2.2.2.1.2.2.2.2.2.2.2 i hi).1
theorem sB0.pra (s : sB0 h) {i : Nat} (hi : i < 13) : isA h (591 + i) 0 := congrArg Prod.fst (s.2.2.2.2.1.2.2.2.2.2.2.2 i hi).2
theorem sB0.prl (s : sB0 h) {i : Nat} (hi : i < 13) : ln h (591 + i) = 3 := congrArg Prod.snd (s.2.2.2.2.1.2.2.2.2.2.2.2 i hi).2
theorem sB0.so (s : sB0 h) : isO h 604 8 := s.2.2.2.2.2
/-- what the class may change -/
def fcl (h g : AH) : Prop := mN h ≤ mN g ∧ (mR g 604 0 = mR h 604 0 ∨ mN h ≤ mR g 604 0) ∧ ∀ a, (a < 64 ∨ (606 ≤ a ∧ a < mN h ∧ a ≠ mR h 604 0)) → sa h g a
theorem fcl.rf (h : AH) : fcl h h := ⟨Nat.le_refl _, Or.inl rfl, fun _ _ => sa.rf _ _⟩
theorem fcl.tr {h g k : AH} (c : fcl h g) (d : fcl g k) : fcl h k := by
  obtain ⟨c1, c2, c3⟩ := c
  obtain ⟨d1, d2, d3⟩ := d
  refine ⟨Nat.le_trans c1 d1, ?_, fun a ha => (c3 a ha).tr (d3 a ?_)⟩
  · rcases d2 with z | z
    · rw [z]; exact c2
    · exact Or.inr (by omega)
  · rcases c2 with z | z
    · rw [z]; omega
    · omega
theorem chg.fcl {lo hi : Nat} {h g : AH} (c : chg lo hi h g) (h1 : 64 ≤ lo) (h2 : hi ≤ 604) : fcl h g := ⟨Nat.le_of_eq c.1.symm, Or.inl (by rw [(c.sa (a := 604) (by omega)).2.2.1]), fun _ ha => c.sa (by omega)⟩
theorem c_keep (r : RBp h p X) {K : AH → Prop} (k : ∀ g, chg (196 + 43 * p) (196 + 43 * p + 43) h g → RBp g p X → rpS g (196 + 43 * p) (bA X) → K g) : wX2_keep 194 65 h K := by
  have s := r.1
  have hp := r.2.2.2.1.1
  have e1 := r.2.2.2.1.2.1
  have st := r.2.1.2.2.2 p hp
  unfold wX2_keep
  simp (disch := omega) only [s.o, s.f0, s.f1, s.f2, s.f3, s.f4, s.f5, s.f6, s.ho, s.h0, s.ha, s.hl, s.eo, s.e1, s.e2, s.e3, s.ea1, s.ea2, s.ea3, s.el1, s.el2, s.el3, s.po, s.p0, s.p2, s.p3, s.pa0, s.pa2, s.pa3, s.pl0, s.pl2, s.pl3, s.so, e1, nI_clamp, vp_in_nI, s.hr, st.o, true_and]
  exact c_copyS r.2.2.1 st (by omega) (fun g c _ q => k g c (r.slot c q.1) q)
theorem ring_n : ∀ p, p < 9 → (nI p + nI 1) - (nI p + nI 1) / nI 9 * nI 9 = nI ((p + 1) % 9) := by decide +kernel
theorem ring_p : ∀ p, p < 9 → ((nI p + nI 9) - nI 1) - ((nI p + nI 9) - nI 1) / nI 9 * nI 9 = nI ((p + 8) % 9) := by decide +kernel
theorem ring_c : ∀ n, n < 9 → (if nI 8 < nI n + nI 1 then nI 8 else nI n + nI 1) = nI (min (n + 1) 8) := by decide +kernel
theorem c_commit (r : RBp g p X) (s : rpS g (196 + 43 * p) A) {K : AH → Prop} (k : ∀ g', chi 194 195 g g' → RBc g' (bA X, (A :: bH X).take 8, X.2.2) → K g') : wX2_commit 194 g K := by
  have hs := r.sR
  obtain ⟨r1, r2, r3, r4, r5, r6, r7, r8⟩ := r
  obtain ⟨h1, h2, h3, h4, h5⟩ := r4
  unfold wX2_commit
  refine ⟨r1.ho, fun g1 e1 g2 e2 => ?_⟩
  rw [h2, ring_n p h1] at e1
  have e3 : mI g1 194 2 = nI (bH X).length := by rw [e1]; simp [mI_uI]; exact h3
  rw [e3, ring_c _ (by omega)] at e2
  have c : chi 194 195 g g2 := by
    rw [e2, e1]
    exact (chi.uI (by omega) (by omega)).tr (chi.uI (by omega) (by omega))
  have c' := c.chg
  refine k g2 c ⟨(p + 1) % 9, ?_, r2.sm (fun q hq => c'.sa (by omega)), r3.sm (fun q h1 h2 => c'.sa (by omega)), ⟨by omega, ?_, ?_, ?_, fun i B hB => ?_⟩, r5.sm (fun q hq => c'.sa (by omega)), r6.sm (fun q hq => c'.sa (by omega)), r7.sm (Nat.le_of_eq c.1.symm) (fun q hq => c'.sa (by omega)), r8.sm (c'.sa (a := 64) (by omega)).2.1⟩
  · unfold sB0
    rw [c.2.1, c.2.2.1]
    exact r1
  · rw [e2, e1]; simp [mI_uI]
  · rw [e2, mI_uI, if_pos ⟨rfl, rfl⟩]
    show nI (min ((bH X).length + 1) 8) = nI ((A :: bH X).take 8).length
    rw [List.length_take, List.length_cons, Nat.min_comm]
  · show ((A :: bH X).take 8).length ≤ 8
    rw [List.length_take]
    omega
  · have hB' : ((A :: bH X).take 8)[i]? = some B := hB
    have hi : i < 8 := by
      have := (List.getElem?_eq_some_iff.mp hB').1
      rw [List.length_take] at this
      omega
    rw [List.getElem?_take, if_pos hi] at hB'
    cases i with
    | zero =>
      rw [List.getElem?_cons_zero] at hB'
      cases hB'
      rw [show ((p + 1) % 9 + 8 - 0) % 9 = p by omega]
      exact s.sm (fun q h1 h2 => c'.sa (by omega))
    | succ i =>
      rw [List.getElem?_cons_succ] at hB'
      rw [show ((p + 1) % 9 + 8 - (i + 1)) % 9 = (p + 8 - i) % 9 by omega]
      exact (h5 i B hB').sm (fun q h1 h2 => c'.sa (by omega))
/-- the exception that a negative answer stands for -/
def xN (v : Int32) : String := if v = -1 then "java/lang/IndexOutOfBoundsException" else if v = -2 then "java/lang/IllegalArgumentException" else if v = -4 then "java/util/NoSuchElementException" else if v = -5 then "java/lang/UnsupportedOperationException" else "java/lang/IllegalStateException"
theorem c_throwFor {v : Int32} {K : AH → Prop} {T : String → AH → Prop} (k : T (xN v) h) : wX9_throwFor v h K T := by
  unfold wX9_throwFor
  unfold xN at k
  by_cases e1 : v = -1
  · rw [if_pos e1] at k
    exact ⟨fun z => absurd e1 z, fun _ => k⟩
  · rw [if_neg e1] at k
    refine ⟨fun _ => ?_, fun z => absurd z e1⟩
    by_cases e2 : v = -2
    · rw [if_pos e2] at k
      exact ⟨fun z => absurd e2 z, fun _ => k⟩
    · rw [if_neg e2] at k
      refine ⟨fun _ => ?_, fun z => absurd z e2⟩
      by_cases e3 : v = -4
      · rw [if_pos e3] at k
        exact ⟨fun z => absurd e3 z, fun _ => k⟩
      · rw [if_neg e3] at k
        refine ⟨fun _ => ?_, fun z => absurd z e3⟩
        by_cases e4 : v = -5
        · rw [if_pos e4] at k
          exact ⟨fun z => absurd e4 z, fun _ => k⟩
        · rw [if_neg e4] at k
          exact ⟨fun _ => k, fun z => absurd z e4⟩
/-- the code and the answer of a change are in bounds -/
def rg (n : Nat) (r : RsA) : Prop := r.1 ≤ n ∧ (r.1 = 0 → ∃ j, j < 2 ^ 31 ∧ r.2.1 = nI j)
/-- a change that was made or not -/
def cgd (r : RsA) (X : BG) : BG := (r.2.2, if r.1 = 0 then (bA X :: bH X).take 8 else bH X, X.2.2)
theorem c_settle {r : RsA} {cs : List Int32} (q : RBp g p (r.2.2, X.2)) (s : rpS g (196 + 43 * p) (bA X)) (hr : rg cs.length r) (hc : ∀ j, j < cs.length → cs.getD j 0 < nI 0) {K : Int32 → AH → Prop} {T : String → AH → Prop} (k : r.1 = 0 → ∀ g', chi 194 195 g g' → RBc g' (cgd r X) → K r.2.1 g') (kT : ∀ j, r.1 = j + 1 → RBc g (cgd r X) → T (xN (cs.getD j 0)) g) : wX9_settle 64 (cr cs r) g K T := by
  obtain ⟨c, ans, B⟩ := r
  unfold wX9_settle
  cases c with
  | zero =>
    obtain ⟨j, hj, e⟩ := hr.2 rfl
    have e : ans = nI j := e
    subst e
    refine ⟨fun _ => ?_, fun z => absurd (nI_pos' hj) z⟩
    unfold wX9_settle_J8
    refine ⟨q.1.o, ?_⟩
    rw [q.1.f3]
    refine ⟨q.1.ho, c_commit q s (fun g' c' r' => k rfl g' c' r')⟩
  | succ j =>
    have hj : j < cs.length := hr.1
    have := hc j hj
    refine ⟨fun z => absurd z (by show ¬ nI 0 ≤ cs.getD j 0; rw [lt_nge this]; exact id), fun _ => c_throwFor (kT j rfl ⟨p, q⟩)⟩
/-- what each class's change answers -/
theorem rg_block (x : Int32) (il : IL (aL A)) : rg 2 (oBlock A x) := by
  have := il.1
  unfold oBlock
  split
  · exact ⟨by show 1 ≤ 2; decide, fun z => by cases z⟩
  · split
    · exact ⟨Nat.le_refl _, fun z => by cases z⟩
    · exact ⟨Nat.zero_le _, fun _ => ⟨_, by omega, rfl⟩⟩
theorem rg_point (x y z : Int32) (il : IL (aL A)) : rg 3 (oPoint A x y z) := by
  have := il.2.2.2.2.1
  unfold oPoint
  split
  · split
    · exact ⟨by show 2 ≤ 3; decide, fun z => by cases z⟩
    · split
      · exact ⟨Nat.le_refl _, fun z => by cases z⟩
      · exact ⟨Nat.zero_le _, fun _ => ⟨_, by omega, rfl⟩⟩
  · exact ⟨by show 1 ≤ 3; decide, fun z => by cases z⟩
theorem il_gk (il : IL (aL A)) : gk (aL A) ≤ 12 := by
  have h1 := il.2.2.2.2.2.2.2.2.2
  have h2 := List.countP_le_length (p := fun b => (gf (aL A) b).isSome) (l := List.range (gn (aL A)))
  rw [List.length_range] at h2
  have := il.1
  omega
theorem rg_link (x y : Int32) (il : IL (aL A)) : rg 3 (oLink A x y) := by
  have := il_gk il
  unfold oLink
  split
  · split
    · exact ⟨by show 2 ≤ 3; decide, fun z => by cases z⟩
    · split
      · exact ⟨Nat.le_refl _, fun z => by cases z⟩
      · exact ⟨Nat.zero_le _, fun _ => ⟨_, by omega, rfl⟩⟩
  · exact ⟨by show 1 ≤ 3; decide, fun z => by cases z⟩
theorem rg_shut (x : Int32) : rg 2 (oShut A x) := by
  unfold oShut
  split
  · exact ⟨by show 1 ≤ 2; decide, fun z => by cases z⟩
  · split
    · exact ⟨Nat.le_refl _, fun z => by cases z⟩
    · exact ⟨Nat.zero_le _, fun _ => ⟨_, Nat.lt_of_le_of_lt (pc_le _) (by decide), rfl⟩⟩
theorem rg_open (x : Int32) : rg 2 (oOpen A x) := by
  unfold oOpen
  split
  · exact ⟨by show 1 ≤ 2; decide, fun z => by cases z⟩
  · split
    · exact ⟨Nat.zero_le _, fun _ => ⟨_, Nat.lt_of_le_of_lt (pc_le _) (by decide), rfl⟩⟩
    · exact ⟨Nat.le_refl _, fun z => by cases z⟩
theorem rg_throw (x : Int32) : rg 2 (oThrow A x) := by
  unfold oThrow
  split
  · exact ⟨by show 1 ≤ 2; decide, fun z => by cases z⟩
  · split
    · exact ⟨by show 1 ≤ 2; decide, fun z => by cases z⟩
    · split
      · exact ⟨Nat.le_refl _, fun z => by cases z⟩
      · refine ⟨Nat.zero_le _, fun _ => ?_⟩
        split
        · exact ⟨1, by decide, rfl⟩
        · exact ⟨0, by decide, rfl⟩
theorem rg_train (x y : Int32) (bn : BN A) : rg 3 (oTrain A x y) := by
  have := bn.1
  unfold oTrain
  split
  · split
    · exact ⟨by show 2 ≤ 3; decide, fun z => by cases z⟩
    · split
      · exact ⟨Nat.le_refl _, fun z => by cases z⟩
      · exact ⟨Nat.zero_le _, fun _ => ⟨_, by omega, rfl⟩⟩
  · exact ⟨by show 1 ≤ 3; decide, fun z => by cases z⟩
theorem sl_le (il : IL G) : ∀ l : List Nat, (∀ y ∈ l, y < gn G) → sl G l ≤ 9 * l.length := by
  intro l
  induction l with
  | nil => intro _; exact Nat.le_refl _
  | cons b l ih =>
    intro hl
    have h1 := ih (fun y hy => hl y (List.mem_cons_of_mem _ hy))
    have h2 := (il.2.1 b (hl b List.mem_cons_self)).2
    simp only [sl, List.length_cons]
    omega
theorem nd12 (il : IL G) {l : List Nat} (hn : l.Nodup) (hl : ∀ y ∈ l, y < gn G) : l.length ≤ 12 := Nat.le_trans (nodup_le _ l hn hl) il.1
theorem rg_set (x : Int32) (k : GK A) : rg 3 (oSet A x) := by
  unfold oSet
  cases hf : fnd A x with
  | none => exact ⟨by show 1 ≤ 3; decide, fun z => by cases z⟩
  | some t =>
    simp only
    by_cases e1 : tr t ≠ []
    · rw [if_pos e1]; exact ⟨by show 2 ≤ 3; decide, fun z => by cases z⟩
    · rw [if_neg e1]
      by_cases e2 : can A t = true
      · rw [if_pos e2]
        obtain ⟨f1, f2, -⟩ := rt_in k (fnd_mem hf).1 e2
        have h1 := sl_le k.1 (rtT A t) f1
        have h2 := nd12 k.1 (List.nodup_cons.mp f2).2 f1
        exact ⟨Nat.zero_le _, fun _ => ⟨_, by omega, rfl⟩⟩
      · rw [if_neg e2]; exact ⟨Nat.le_refl _, fun z => by cases z⟩
theorem rg_free (x : Int32) (i : IP A) : rg 2 (oFree A x) := by
  have := i.q8
  unfold oFree
  split
  · exact ⟨by show 1 ≤ 2; decide, fun z => by cases z⟩
  · split
    · exact ⟨Nat.le_refl _, fun z => by cases z⟩
    · exact ⟨Nat.zero_le _, fun _ => ⟨_, by omega, rfl⟩⟩
theorem rg_pass (x : Int32) (g : GK A) (b : BW w A) (hw : w ≤ 6200) : rg 1 (oPass A x) := by
  have h1 := bw_pass b g hw x
  unfold oPass at h1 ⊢
  by_cases e : x < nI 1 ∨ nI 240 < x
  · rw [if_pos e]; exact ⟨Nat.le_refl _, fun z => by cases z⟩
  · rw [if_neg e] at h1 ⊢
    refine ⟨Nat.zero_le _, fun _ => ⟨_, ?_, rfl⟩⟩
    have h2 := h1.2.2.2.2.2.2.2.2.1
    have h3 := h1.1.1
    have h4 : (aT (mins x.toNatClampNeg A)).length + aO (mins x.toNatClampNeg A) = aC (mins x.toNatClampNeg A) := h2
    have h5 : aC (mins x.toNatClampNeg A) ≤ w + 1 := h3
    omega
end CH
