/-! THE MODEL RUNS PROGRAMS: the whole call -/
section MR9
variable {h h0 g g' : AH} {A A0 : AG} {X Y : BG} {T : List Nat} {w c k s j n : Nat} {K : Int32 → AH → Prop}
theorem tld.up {ns : List Nat} (t : tld g c k ns) (hk : k < 11) (hl : ns.length = wld (frm k)) (e : ∀ q, q < 4 * c + 4 → mI g' 612 q = mI g 612 q) : tld g' c k ns := by
  obtain ⟨t0, t9, t1⟩ := t
  have h3 := (frm_f k hk).1
  refine ⟨by rw [e _ (by omega)]; exact t0, fun z => by rw [e _ (by omega)]; exact t9 z, fun q v hv => ?_⟩
  have := (List.getElem?_eq_some_iff.mp hv).1
  rw [e _ (by omega)]
  exact t1 q v hv
theorem rd1_in (hs : s ≤ T.length) {e : Nat} {cm : CM} (h : rd1 T s = (e, some cm)) : e ≤ T.length := by
  obtain ⟨k', ns⟩ := cm
  have := (fin_all T s (fun _ => 0)).2.1 e k' ns h
  exact (bst_in hs 11 (by decide) _ _ this.1).1
theorem prs_ok : ∀ (f s : Nat) {e : Nat} {cs : List CM}, prs T f s = (e, some cs) → (∀ (j k : Nat) (ns : List Nat), cs[j]? = some (k, ns) → k < 11 ∧ ns.length = wld (frm k)) ∧ s + 5 * cs.length ≤ T.length + 1 := by
  intro f
  induction f with
  | zero => intro s e cs h; cases h
  | succ f ih =>
    intro s e cs h
    rw [prs] at h
    cases hr : rd1 T s with
    | mk e' o =>
      cases o with
      | none => rw [hr] at h; cases h
      | some cm =>
        obtain ⟨k', ns'⟩ := cm
        obtain ⟨c1, c2, c3, c4⟩ := rd1_s hr
        rw [hr] at h
        simp only at h
        by_cases z : e' = T.length
        · rw [if_pos z] at h
          cases h
          refine ⟨fun j k ns hj => ?_, by rw [List.length_singleton]; omega⟩
          cases j with
          | zero =>
            rw [List.getElem?_cons_zero] at hj
            cases hj
            exact ⟨c1, c2⟩
          | succ j => simp at hj
        · rw [if_neg z] at h
          by_cases z2 : T[e']? = some 59
          · rw [if_pos z2] at h
            cases hp : prs T f (e' + 1) with
            | mk e3 o3 =>
              rw [hp] at h
              cases o3 with
              | none => cases h
              | some l =>
                cases h
                obtain ⟨i1, i2⟩ := ih (e' + 1) hp
                refine ⟨fun j k ns hj => ?_, by rw [List.length_cons]; omega⟩
                cases j with
                | zero =>
                  rw [List.getElem?_cons_zero] at hj
                  cases hj
                  exact ⟨c1, c2⟩
                | succ j =>
                  rw [List.getElem?_cons_succ] at hj
                  exact i1 j k ns hj
          · rw [if_neg z2] at h
            cases h
theorem m_L36 {C : Nat → AH → Prop} : ∀ f c s g, c + f = 13 → 5 * c ≤ s → s ≤ T.length → rdS T (rd1 T s).1 (c + 1) (rd1 T s).2.isSome g → (∀ k ns, (rd1 T s).2 = some (k, ns) → tld g c k ns) → (∀ g', mf [612] [23, 25, 26] g g' → (∀ q, q < 4 * c → mI g' 612 q = mI g 612 q) → (match prs T f s with
    | (e, none) => ∀ n ok, rdS T e n ok g' → (ok = false ∨ e < T.length) → C 606 g'
    | (_, some cs) => rdS T T.length (c + cs.length) true g' → (∀ (j k : Nat) (ns : List Nat), cs[j]? = some (k, ns) → tld g' (c + j) k ns) → C 606 g')) → wX10_run_L36 K C f 606 g := by
  intro f
  induction f with
  | zero =>
    intro c s g hc h5 hs b _ _
    have := b.1.2.2.2.1
    omega
  | succ f ih =>
    intro c s g hc h5 hs b t kk
    have h60 := b.1.2.2.2.1
    have s' := b.1.1
    rw [wX10_run_L36]; dsimp only
    cases hr : rd1 T s with
    | mk e o =>
      rw [hr] at b t
      cases o with
      | none =>
        have b : rdS T e (c + 1) false g := b
        refine ⟨s'.o, fun _ => ?_, fun z => absurd z (by rw [b.2.2.2]; decide)⟩
        have := kk g (mf.rf _ _ _) (fun _ _ => rfl)
        rw [prs, hr] at this
        exact this (c + 1) false b (Or.inl rfl)
      | some cm =>
        obtain ⟨k', ns⟩ := cm
        have b : rdS T e (c + 1) true g := b
        have hein := rd1_in hs hr
        obtain ⟨c1, c2, c3, c4⟩ := rd1_s hr
        have t := t k' ns rfl
        refine ⟨s'.o, fun z => absurd b.2.2.2 z, fun _ => m_here (m := 0) b.1 b.2.1 (by omega) (by decide) ?_⟩
        rw [Nat.add_zero, oI_c b.1 (by decide)]
        refine ⟨fun z => ?_, fun z => ⟨s'.o, fun g1 e1 => ?_⟩⟩
        · have := kk g (mf.rf _ _ _) (fun _ _ => rfl)
          rw [prs, hr] at this
          simp only at this
          by_cases y : e = T.length
          · rw [if_pos y] at this
            rw [y] at b
            refine this b (fun j k2 n2 hj => ?_)
            cases j with
            | zero =>
              rw [List.getElem?_cons_zero] at hj
              cases hj
              exact t
            | succ j => simp at hj
          · rw [if_neg y, if_neg z] at this
            exact this (c + 1) true b (Or.inr (by omega))
        · have hlt := (List.getElem?_eq_some_iff.mp z).1
          have f1 : mf [612] [23, 25, 26] g g1 := by rw [e1]; exact mf.uf (by decide)
          have o1 : mI g1 612 = mI g 612 := by rw [e1, mI_o (by decide)]
          have b1 : rdS T (e + 1) (c + 1) true g1 := ⟨b.1.fr f1 (by decide), by rw [e1, mI_uI, if_pos ⟨rfl, rfl⟩, b.2.1, nI_add], by rw [e1, mI_uI, if_neg (by omega)]; exact b.2.2.1, by rw [e1, mI_uI, if_neg (by omega)]; exact b.2.2.2⟩
          refine m_readsOne b1 (by omega) (by omega) (fun g2 r2 => ?_)
          obtain ⟨r1, r2, r3, r4⟩ := r2
          refine ih (c + 1) (e + 1) g2 (by omega) (by omega) (by omega) r2 r4 (fun g3 f3 q3 => ?_)
          have same : ∀ q, q < 4 * c + 4 → mI g3 612 q = mI g 612 q := fun q hq => by rw [q3 q (by omega), r3 q (by omega), o1]
          have := kk g3 ((f1.tr r1).tr f3) (fun q hq => same q (by omega))
          rw [prs, hr] at this
          simp only at this
          rw [if_neg (by omega), if_pos z] at this
          cases hp : prs T f (e + 1) with
          | mk e3 o3 =>
            rw [hp] at this
            cases o3 with
            | none => exact this
            | some cs =>
              simp only at this ⊢
              intro v1 v2
              rw [List.length_cons, show c + (cs.length + 1) = c + 1 + cs.length by omega] at this
              refine this v1 (fun j k2 n2 hj => ?_)
              cases j with
              | zero =>
                rw [List.getElem?_cons_zero] at hj
                cases hj
                exact t.up c1 c2 (fun q hq => same q (by omega))
              | succ j =>
                rw [List.getElem?_cons_succ] at hj
                have := v2 j k2 n2 hj
                rw [show c + 1 + j = c + (j + 1) by omega] at this
                exact this
theorem m_L125 (s : sM h0) {v : Int32} (kk : ∀ g, mf [607] [0, 18] h0 g → (∀ k, k < 281 → mI g 607 k = mI h0 608 k) → mI g 606 18 = v → mI g 606 0 = nI 2 → K (nI 0) g) : ∀ d x g, x + d = 281 → mf [607] [] h0 g → (∀ k, k < x → mI g 607 k = mI h0 608 k) → wX10_run_L125 K (d + 1) 606 v (nI x) g := by
  intro d
  induction d with
  | zero =>
    intro x g hx c z
    have s' := c.s s
    have hx' : x = 281 := hx
    rw [wX10_run_L125]; dsimp only
    unfold wX10_fails
    refine ⟨fun _ => ⟨s'.o, fun g1 e1 => ⟨by rw [e1]; exact s'.o, fun g2 e2 => ?_⟩⟩, fun y => absurd (nI_le (by omega) (by omega)) y⟩
    have c1 : mf [607] [0, 18] g g2 := by rw [e2, e1]; exact (mf.uf (by decide)).tr (mf.uf (by decide))
    refine kk g2 ((c.mo (fun _ h => h) (by decide)).tr c1) (fun k hk => ?_) ?_ ?_
    · rw [e2, mI_o (by decide), e1, mI_o (by decide)]; exact z k (by omega)
    · rw [e2, mI_uI, if_neg (by omega), e1, mI_uI, if_pos ⟨rfl, rfl⟩]
    · rw [e2, mI_uI, if_pos ⟨rfl, rfl⟩]
  | succ d ih =>
    intro x g hx c z
    have s' := c.s s
    have e8 : mI g 608 = mI h0 608 := c.c (by decide) (by decide)
    rw [wX10_run_L125]; dsimp only
    simp (disch := omega) only [s'.o, s'.r1, s'.a7, s'.l7, s'.r2, s'.a8, s'.l8, nz7, nI_add, pk_mul, nI_clamp, nI_leI, nI_ltI, nI_eq, vp_in_nI, true_and, forall_eq, e8]
    refine ⟨fun z => absurd z (by omega), fun _ => ?_⟩
    refine ih (x + 1) _ (by omega) (c.tr (mf.ui (by decide) (by decide))) (fun k hk => ?_)
    rw [mI_up]
    by_cases e : k = x
    · rw [e, ups_s]
    · rw [ups_o e]; exact z k (by omega)
theorem m_L104 {cs : List CM} (hl : cs.length = n) (hn : n ≤ 12) (hok : ∀ (j k : Nat) (ns : List Nat), cs[j]? = some (k, ns) → k < 11 ∧ ns.length = wld (frm k)) (i0 : IMs A0) : ∀ (l : List CM) (j w : Nat) (Y : BG) (g : AH), cs.drop j = l → j + l.length = n → w + l.length ≤ 6200 → RMb g Y → GK (bA Y) → PX w Y → mI g 606 25 = nI n → (∀ (j k : Nat) (ns : List Nat), cs[j]? = some (k, ns) → tld g j k ns) → rmX (mI g 608) A0 → mI g 606 0 = nI 0 →
    (∀ Z, rnC Y l j = (Z, none) → ∀ g', chi 606 619 g g' → RMb g' (bA Z, (A0 :: bH Y).take 8, Z.2.2) → mI g' 606 0 = nI 0 → K (nI n) g') → (∀ Z i, rnC Y l j = (Z, some i) → ∀ g', chi 606 619 g g' → RMb g' (A0, bH Y, bS Z, bO Z, bF Z, bY Z, bB Z, bE Z, some i) → mI g' 606 0 = nI 2 → K (nI 0) g') → wX10_run_L104 K (fun x0 x1 h => ∃ n, wX10_run_L125 K n x0 x1 (nI 0) h) (l.length + 1) 606 (nI j) g := by
  intro l
  induction l with
  | nil =>
    intro j w Y g hd hj hw q gk i h25 ht h8 e0 k kT
    simp only [List.length_nil] at hj
    have s := q.1
    rw [wX10_run_L104]; dsimp only
    rw [h25]
    refine ⟨s.o, fun _ => m_changed s q.2.2.1 h8 (fun g2 c2 q2 => ?_), fun z => absurd (nI_le (by omega) (by omega)) z⟩
    obtain ⟨s, q1, q2', q3, q4, q5, q6⟩ := q
    exact k Y rfl g2 (mf_x c2 (by decide)) ⟨c2.s s, q1.fr c2 (by decide), q2, q3.fr c2 (by decide) (by decide), q4.fr c2 (by decide) (by decide), q5.fr c2 (by decide) (by decide), q6.fr c2 (by decide) (by decide) (by decide) (by decide)⟩ (by rw [c2.f (by decide)]; exact e0)
  | cons cm l ih =>
    intro j w Y g hd hj hw q gk i h25 ht h8 e0 k kT
    simp only [List.length_cons] at hj hw
    have s := q.1
    have hjc : cs[j]? = some cm := by
      have : (cs.drop j)[0]? = some cm := by rw [hd]; rfl
      rw [List.getElem?_drop, Nat.add_zero] at this
      exact this
    obtain ⟨k', ns⟩ := cm
    obtain ⟨o1, o2⟩ := hok j k' ns hjc
    rw [wX10_run_L104]; dsimp only
    rw [h25]
    refine ⟨s.o, fun z => absurd z (nI_ge (by omega) (by omega)), fun _ => m_does q gk i (by omega) o1 o2 (ht j k' ns hjc) (by omega) (fun v g2 c2 q2 hv => ⟨fun z => ?_, fun z => ?_⟩)⟩
    · have e : ¬ (exR (bA Y) (k', ns)).1 = 0 := fun y => z (hv.mpr y)
      have er : rnC Y ((k', ns) :: l) j = (exX Y (k', ns), some j) := by rw [rnC, if_neg e]
      obtain ⟨x1, x2, x3, x4, x5, x6⟩ := exX_s Y (k', ns)
      have h82 : rmX (mI g2 608) A0 := by rw [c2.c (by decide) (by decide)]; exact h8
      refine ⟨282, m_L125 q2.1 (fun g3 c3 z3 e18 e3 => ?_) 281 0 g2 (by omega) (mf.rf _ _ _) (fun k hk => absurd hk (Nat.not_lt_zero k))⟩
      obtain ⟨s2, p1, p2, p3, p4, p5, p6⟩ := q2
      rw [x1] at p2
      exact kT _ j er g3 ((mf_x c2 (by decide)).tr (mf_x c3 (by decide))) ⟨c3.s s2, (h82.cg (fun k hk => z3 k hk)).rm i0, p2.fr c3 (by decide) (by decide), p3.fr c3 (by decide) (by decide), p4.fr c3 (by decide) (by decide), p5.fr c3 (by decide) (by decide), by rw [c3.f (by decide)]; exact p6.1, by rw [c3.f (by decide)]; exact p6.2.1, by rw [c3.f (by decide)]; exact p6.2.2.1, e18⟩ e3
    · have e := hv.mp z
      have er : rnC Y ((k', ns) :: l) j = rnC (exX Y (k', ns)) l (j + 1) := by rw [rnC, if_pos e]
      obtain ⟨x1, x2, x3, x4, x5, x6⟩ := exX_s Y (k', ns)
      have o12 : mI g2 612 = mI g 612 := c2.c (by decide) (by decide)
      have cc := mf_x c2 (by decide)
      rw [nI_add]
      refine ih (j + 1) (w + 1) (exX Y (k', ns)) g2 (by rw [← List.drop_drop, hd]; rfl) (by omega) (by omega) q2 (gk_exR gk i.1.2 (by omega) _) (i.ex gk (by omega) _) (by rw [c2.f (by decide)]; exact h25) (fun j2 k2 n2 h2 => by
        have := ht j2 k2 n2 h2
        unfold tld at this ⊢
        rw [o12]
        exact this) (by rw [c2.c (by decide) (by decide)]; exact h8) (by rw [c2.f (by decide)]; exact e0) (fun Z hZ g' f' r' => ?_) (fun Z y hZ g' f' r' => ?_)
      · rw [x1] at r'
        exact k Z (er.trans hZ) g' (cc.tr f') r'
      · rw [x1] at r'
        exact kT Z y (er.trans hZ) g' (cc.tr f') r'
theorem m9_run (q : RMb h X) (t : stW h) (gk : GK (bA X)) (i : PX w X) (hw : w + 12 ≤ 6200) (hT : (bF X).length ≤ 60 ∧ ∀ c ∈ bF X, c < 65536) (kk : mqK h (runX X) (runQ X) K) : wX10_run 606 h K := by
  have s := q.1
  have bn : BN (bA X) := i.1.2.bn (by omega)
  have hC : aC (bA X) ≤ 9000 := by have := bn.1; omega
  have im := gk.ims hC
  unfold wX10_run
  refine ⟨s.o, m_rem s (fun h1 c1 z1 e01 => ?_)⟩
  have s1 := c1.s s
  refine ⟨s1.o, fun h4 e4 h5 e5 h6 e6 h7 e7 h8 e8 => ?_⟩
  have f4 : mf [] [23] h1 h4 := by rw [e4]; exact mf.uf (by decide)
  have f5 : mf [] [24] h4 h5 := by rw [e5]; exact mf.uf (by decide)
  have f6 : mf [] [15] h5 h6 := by rw [e6]; exact mf.uf (by decide)
  have f7 : mf [] [25] h6 h7 := by rw [e7]; exact mf.uf (by decide)
  have f8 : mf [] [26] h7 h8 := by rw [e8]; exact mf.uf (by decide)
  have F : mf [] [15, 23, 24, 25, 26] h1 h8 := (f4.mo (by decide) (by decide)).tr ((f5.mo (by decide) (by decide)).tr ((f6.mo (by decide) (by decide)).tr ((f7.mo (by decide) (by decide)).tr (f8.mo (by decide) (by decide)))))
  have FF : mf [608] [0, 15, 23, 24, 25, 26] h h8 := (c1.mo (by decide) (by decide)).tr (F.mo (by decide) (by decide))
  have q15 : mI h1 606 15 = nI (bF X).length := by rw [c1.f (by decide)]; exact q.2.2.2.2.1.1
  have b8 : rdS (bF X) 0 0 true h8 := by
    refine ⟨⟨FF.s s, fun i c hc => ⟨?_, hT.2 c (List.mem_of_getElem? hc)⟩, ?_, hT.1, t.fr FF (by decide)⟩, ?_, ?_, ?_⟩
    · rw [FF.c (by decide) (by decide)]; exact q.2.2.2.2.1.2 i c hc
    · rw [f8.f (by decide), f7.f (by decide), f6.f (by decide), e5, mI_uI, if_pos ⟨rfl, rfl⟩, f4.f (by decide)]; exact q15
    · rw [f8.f (by decide), f7.f (by decide), f6.f (by decide), f5.f (by decide), e4, mI_uI, if_pos ⟨rfl, rfl⟩]
    · rw [f8.f (by decide), e7, mI_uI, if_pos ⟨rfl, rfl⟩]
    · rw [e8, mI_uI, if_pos ⟨rfl, rfl⟩]; rfl
  have e15 : mI h8 606 15 = nI 0 := by rw [f8.f (by decide), f7.f (by decide), e6, mI_uI, if_pos ⟨rfl, rfl⟩]
  have e0 : mI h8 606 0 = nI 0 := by rw [F.f (by decide)]; exact e01
  have r8 : rmX (mI h8 608) (bA X) := ⟨mI h 607, q.2.1, fun k hk => by rw [F.c (by decide) (by decide)]; exact z1 k hk⟩
  refine m_readsOne b8 (Nat.zero_le _) (by decide) (fun g1 r1 => ⟨13, ?_⟩)
  obtain ⟨r1, r2, r3, r4⟩ := r1
  refine m_L36 13 0 0 g1 rfl (Nat.le_refl _) (Nat.zero_le _) r2 r4 (fun g2 c2 _ => ?_)
  have G : mf [612] [23, 25, 26] h8 g2 := r1.tr c2
  have GG : mf [608, 612] [0, 15, 23, 24, 25, 26] h g2 := (FF.mo (by decide) (by decide)).tr (G.mo (by decide) (by decide))
  have s2 := GG.s s
  have q2 : RMb g2 (bA X, bH X, bS X, bO X, [], X.2.2.2.2.2) := by
    obtain ⟨s, q1, q2, q3, q4, q5, q6⟩ := q
    exact ⟨s2, q1.fr GG (by decide), q2.fr GG (by decide) (by decide), q3.fr GG (by decide) (by decide), ⟨by rw [G.f (by decide)]; exact e15, fun i c hc => by cases hc⟩, q5.fr GG (by decide) (by decide), q6.fr GG (by decide) (by decide) (by decide) (by decide)⟩
  have e02 : mI g2 606 0 = nI 0 := by rw [G.f (by decide)]; exact e0
  have r82 : rmX (mI g2 608) (bA X) := by rw [G.c (by decide) (by decide)]; exact r8
  cases hp : prs (bF X) 13 0 with
  | mk e o =>
    cases o with
    | none =>
      simp only
      intro n ok b2 hor
      have eQ : runQ X = (1, nI 0) := by unfold runQ; rw [hp]
      have eX : runX X = (bA X, bH X, bS X, bO X, [], bY X, bB X, some e, bX X) := by unfold runX; rw [hp]
      have h60 := b2.1.2.2.2.1
      have bad : wX10_run_J88 K 606 g2 := by
        unfold wX10_run_J88 wX10_fails
        refine ⟨s2.o, fun g3 e3 => ⟨by rw [e3]; exact s2.o, fun g4 e4 => ?_⟩⟩
        have c4 : mf [] [0, 17] g2 g4 := by rw [e4, e3]; exact (mf.uf (by decide)).tr (mf.uf (by decide))
        rw [eQ, eX] at kk
        refine kk g4 ((mf_x GG (by decide)).tr (mf_x c4 (by decide))) ?_ (by rw [e4, mI_uI, if_pos ⟨rfl, rfl⟩])
        obtain ⟨_, q1, q2', q3, q4, q5, q6⟩ := q2
        exact ⟨c4.s s2, q1.fr c4 (by decide), q2'.fr c4 (by decide) (by decide), q3.fr c4 (by decide) (by decide), q4.fr c4 (by decide) (by decide), q5.fr c4 (by decide) (by decide), by rw [c4.f (by decide)]; exact q6.1, by rw [c4.f (by decide)]; exact q6.2.1, by rw [e4, mI_uI, if_neg (by omega), e3, mI_uI, if_pos ⟨rfl, rfl⟩]; exact b2.2.1, by rw [c4.f (by decide)]; exact q6.2.2.2⟩
      refine ⟨s2.o, fun _ => bad, fun z => ?_⟩
      have hok : ok = true := by
        cases ok with
        | true => rfl
        | false => rw [b2.2.2.2] at z; exact absurd z (by decide)
      have hlt : e < (bF X).length := hor.resolve_left (by rw [hok]; decide)
      rw [b2.1.2.2.1, b2.2.1]
      exact ⟨fun y => absurd y (nI_ge hlt (by omega)), fun _ => bad⟩
    | some cs =>
      simp only [Nat.zero_add]
      intro b2 ht
      have h60 := b2.1.2.2.2.1
      obtain ⟨hok, hl5⟩ := prs_ok 13 0 hp
      refine ⟨s2.o, fun z => absurd b2.2.2.2 z, fun _ => ?_⟩
      rw [b2.1.2.2.1, b2.2.1]
      refine ⟨fun _ => ⟨cs.length + 1, ?_⟩, fun y => absurd (nI_le (Nat.le_refl _) (by omega)) y⟩
      refine m_L104 (A0 := bA X) (cs := cs) (n := cs.length) rfl (by omega) hok im cs 0 w _ g2 rfl (by omega) (by omega) q2 gk i b2.2.2.1 ht r82 e02 (fun Z hZ g' c' r' e' => ?_) (fun Z y hZ g' c' r' e' => ?_)
      · have eQ : runQ X = (0, nI cs.length) := by unfold runQ; rw [hp]; simp only; rw [hZ]
        have eX : runX X = (bA Z, (bA X :: bH X).take 8, Z.2.2) := by unfold runX; rw [hp]; simp only; rw [hZ]
        rw [eQ, eX] at kk
        exact kk g' ((mf_x GG (by decide)).tr c') r' e'
      · have eQ : runQ X = (2, nI 0) := by unfold runQ; rw [hp]; simp only; rw [hZ]
        have eX : runX X = (bA X, bH X, bS X, bO X, [], bY Z, bB Z, bE X, some y) := by unfold runX; rw [hp]; simp only; rw [hZ]
        obtain ⟨f1, f2, f3, f4, f5⟩ := rn_fix cs (bA X, bH X, bS X, bO X, [], X.2.2.2.2.2) 0
        rw [hZ] at f1 f2 f3 f4 f5
        rw [eQ, eX] at kk
        rw [f1, f2, f3, f4] at r'
        exact kk g' ((mf_x GG (by decide)).tr c') r' e'
end MR9
