/-! THE MODEL'S CALLS that change -/
section MC
variable {h g : AH} {A : AG} {X : BG} {w : Nat}
/-- what a call of the model comes to -/
def mcK (h : AH) (r : RsA) (X' : BG) (K : Int32 → AH → Prop) : Prop := ∀ g, chi 606 619 h g → RMb g X' → mI g 606 0 = nI r.1 → K (if r.1 = 0 then r.2.1 else nI 0) g
theorem mf_x {C F : List Nat} (c : mf C F h g) (hC : C.all (fun a => decide (606 ≤ a ∧ a < 619)) = true) : chi 606 619 h g := c.chi (fun a ha => of_decide_eq_true (List.all_eq_true.mp hC a ha))
theorem m_fin (q : RMb h X) {h1 : AH} (c : mf [608] [0] h h1) (e8 : ∀ k, k < 281 → mI h1 608 k = mI h 607 k) (e0 : mI h1 606 0 = nI 0) {r : RsA} (h3 : r.1 ≤ 3) (hf : r.1 ≠ 0 → r.2.2 = bA X) {K : Int32 → AH → Prop} (kk : mcK h r (cgd r X) K) : mopK h1 r (fun v g => isO g 606 7 ∧ wX10_ends 606 v g K) := by
  obtain ⟨s, q1, q2, q3, q4, q5, q6⟩ := q
  have s1 := c.s s
  have q2' : hsM h1 (bH X) := q2.fr c (by decide) (by decide)
  constructor
  · intro hr
    refine ⟨s1.o, ?_⟩
    unfold wX10_ends wX10_fails
    simp only [s1.o, true_and, forall_eq]
    have hne : ¬ nI r.1 = nI 0 := by rw [nI_eq (by omega) (by decide)]; exact hr
    refine ⟨fun _ => ?_, fun z => absurd z hne⟩
    have c2 : mf [608] [0] h (uI h1 606 0 (nI r.1)) := c.tr (mf.uf (by decide))
    have := kk _ (mf_x c2 (by decide)) ⟨c2.s s, ?_, ?_, q3.fr c2 (by decide) (by decide), q4.fr c2 (by decide) (by decide), q5.fr c2 (by decide) (by decide), q6.fr c2 (by decide) (by decide) (by decide) (by decide)⟩ (by rw [mI_uI, if_pos ⟨rfl, rfl⟩])
    · rw [if_neg hr] at this; exact this
    · show rm _ r.2.2
      rw [hf hr]
      exact q1.fr c2 (by decide)
    · show hsM _ (if r.1 = 0 then _ else bH X)
      rw [if_neg hr]
      exact q2.fr c2 (by decide) (by decide)
  · intro hr g2 c2 r2 e19
    have s2 := c2.s s1
    refine ⟨s2.o, ?_⟩
    unfold wX10_ends
    simp only [s2.o, true_and]
    refine ⟨fun z => absurd True.intro z, fun _ => ?_⟩
    have c12 : mf [607, 608, 614, 615, 616] [0, 19, 20] h g2 := (c.mo (by decide) (by decide)).tr (c2.mo (by decide) (by decide))
    have e8' : mI g2 608 = mI h1 608 := c2.c (by decide) (by decide)
    refine m_changed s2 (q2'.fr c2 (by decide) (by decide)) (B := bA X) ⟨mI h 607, q1, fun k hk => by rw [e8']; exact e8 k hk⟩ (fun g3 c3 q9 => ?_)
    have c13 : mf [607, 608, 610, 614, 615, 616] [0, 5, 19, 20] h g3 := (c12.mo (by decide) (by decide)).tr (c3.mo (by decide) (by decide))
    have := kk g3 (mf_x c13 (by decide)) ⟨c13.s s, ?_, ?_, q3.fr c13 (by decide) (by decide), q4.fr c13 (by decide) (by decide), q5.fr c13 (by decide) (by decide), q6.fr c13 (by decide) (by decide) (by decide) (by decide)⟩ ?_
    · rw [if_pos hr] at this; rw [e19]; exact this
    · exact r2.fr c3 (by decide)
    · show hsM _ (if r.1 = 0 then _ else bH X)
      rw [if_pos hr]; exact q9
    · rw [c3.f (by decide), c2.f (by decide), e0, hr]
theorem RMb.one (q : RMb h X) {h1 : AH} (c : mf [608] [0] h h1) : sM h1 ∧ rm (mI h1 607) (bA X) := ⟨c.s q.1, q.2.1.fr c (by decide)⟩
theorem m9_addBlock (q : RMb h X) (k : GK (bA X)) (hC : aC (bA X) ≤ 9000) {x : Int32} {K : Int32 → AH → Prop} (kk : mcK h (oBlock (bA X) x) (cgd (oBlock (bA X) x) X) K) : wX10_addBlock 606 x h K := by
  unfold wX10_addBlock
  refine ⟨q.1.o, m_rem q.1 (fun h1 c e8 e0 => ?_)⟩
  obtain ⟨s1, r1⟩ := q.one c
  refine ⟨s1.o, m_lays s1 (k.ims hC) r1 (m_fin q c e8 e0 (Nat.le_trans (rg_block x k.1).1 (by decide)) (fun hr => ?_) kk)⟩
  unfold oBlock at hr ⊢
  split
  · rfl
  · split
    · rfl
    · rename_i h1 h2; rw [if_neg h1, if_neg h2] at hr; exact absurd rfl hr
theorem m9_addPoint (q : RMb h X) (k : GK (bA X)) (hC : aC (bA X) ≤ 9000) {x y z : Int32} {K : Int32 → AH → Prop} (kk : mcK h (oPoint (bA X) x y z) (cgd (oPoint (bA X) x y z) X) K) : wX10_addPoint 606 x y z h K := by
  unfold wX10_addPoint
  refine ⟨q.1.o, m_rem q.1 (fun h1 c e8 e0 => ?_)⟩
  obtain ⟨s1, r1⟩ := q.one c
  refine ⟨s1.o, m_forks s1 (k.ims hC) k.2.2 r1 (m_fin q c e8 e0 (rg_point x y z k.1).1 (fun hr => ?_) kk)⟩
  unfold oPoint at hr ⊢
  cases h1 : iv (gn (aL (bA X))) x with
  | none => rfl
  | some a =>
    cases h2 : iv (gn (aL (bA X))) y with
    | none => rfl
    | some b =>
      cases h3 : iv (gn (aL (bA X))) z with
      | none => rfl
      | some d =>
        rw [h1, h2, h3] at hr
        simp only at hr ⊢
        split
        · rfl
        · split
          · rfl
          · rename_i h1 h2; rw [if_neg h1, if_neg h2] at hr; exact absurd rfl hr
theorem m9_addLink (q : RMb h X) (k : GK (bA X)) (hC : aC (bA X) ≤ 9000) {x y : Int32} {K : Int32 → AH → Prop} (kk : mcK h (oLink (bA X) x y) (cgd (oLink (bA X) x y) X) K) : wX10_addLink 606 x y h K := by
  unfold wX10_addLink
  refine ⟨q.1.o, m_rem q.1 (fun h1 c e8 e0 => ?_)⟩
  obtain ⟨s1, r1⟩ := q.one c
  refine ⟨s1.o, m_links s1 (k.ims hC) r1 (m_fin q c e8 e0 (rg_link x y k.1).1 (fun hr => ?_) kk)⟩
  unfold oLink at hr ⊢
  cases h1 : iv (gn (aL (bA X))) x with
  | none => rfl
  | some a =>
    cases h2 : iv (gn (aL (bA X))) y with
    | none => rfl
    | some b =>
      rw [h1, h2] at hr
      simp only at hr ⊢
      split
      · rfl
      · split
        · rfl
        · rename_i h1 h2; rw [if_neg h1, if_neg h2] at hr; exact absurd rfl hr
theorem m9_shut (q : RMb h X) (k : GK (bA X)) (hC : aC (bA X) ≤ 9000) {x : Int32} {K : Int32 → AH → Prop} (kk : mcK h (oShut (bA X) x) (cgd (oShut (bA X) x) X) K) : wX10_shut 606 x h K := by
  unfold wX10_shut
  refine ⟨q.1.o, m_rem q.1 (fun h1 c e8 e0 => ?_)⟩
  obtain ⟨s1, r1⟩ := q.one c
  refine ⟨s1.o, m_shuts s1 (k.ims hC) r1 (m_fin q c e8 e0 (Nat.le_trans (rg_shut x).1 (by decide)) (fun hr => ?_) kk)⟩
  unfold oShut at hr ⊢
  cases h1 : iv (gn (aL (bA X))) x with
  | none => rfl
  | some a =>
    rw [h1] at hr
    simp only at hr ⊢
    split
    · rfl
    · rename_i h1; rw [if_neg h1] at hr; exact absurd rfl hr
theorem m9_open (q : RMb h X) (k : GK (bA X)) (hC : aC (bA X) ≤ 9000) {x : Int32} {K : Int32 → AH → Prop} (kk : mcK h (oOpen (bA X) x) (cgd (oOpen (bA X) x) X) K) : wX10_open 606 x h K := by
  unfold wX10_open
  refine ⟨q.1.o, m_rem q.1 (fun h1 c e8 e0 => ?_)⟩
  obtain ⟨s1, r1⟩ := q.one c
  refine ⟨s1.o, m_opens s1 (k.ims hC) r1 (m_fin q c e8 e0 (Nat.le_trans (rg_open x).1 (by decide)) (fun hr => ?_) kk)⟩
  unfold oOpen at hr ⊢
  cases h1 : iv (gn (aL (bA X))) x with
  | none => rfl
  | some a =>
    rw [h1] at hr
    simp only at hr ⊢
    split
    · rename_i h1; rw [if_pos h1] at hr; exact absurd rfl hr
    · rfl
theorem m9_addTrain (q : RMb h X) (k : GK (bA X)) (hC : aC (bA X) < 9000) (bn : BN (bA X)) {x y : Int32} {K : Int32 → AH → Prop} (kk : mcK h (oTrain (bA X) x y) (cgd (oTrain (bA X) x y) X) K) : wX10_addTrain 606 x y h K := by
  unfold wX10_addTrain
  refine ⟨q.1.o, m_rem q.1 (fun h1 c e8 e0 => ?_)⟩
  obtain ⟨s1, r1⟩ := q.one c
  refine ⟨s1.o, m_comes s1 (k.ims (Nat.le_of_lt hC)) k.2.2 hC r1 (m_fin q c e8 e0 (rg_train x y bn).1 (fun hr => ?_) kk)⟩
  unfold oTrain at hr ⊢
  cases h1 : iv (gn (aL (bA X))) x with
  | none => rfl
  | some a =>
    cases h2 : iv (gn (aL (bA X))) y with
    | none => rfl
    | some b =>
      rw [h1, h2] at hr
      simp only at hr ⊢
      split
      · rfl
      · split
        · rfl
        · rename_i h1 h2; rw [if_neg h1, if_neg h2] at hr; exact absurd rfl hr
theorem m9_releaseRoute (q : RMb h X) (k : GK (bA X)) (hC : aC (bA X) ≤ 9000) {x : Int32} {K : Int32 → AH → Prop} (kk : mcK h (oFree (bA X) x) (cgd (oFree (bA X) x) X) K) : wX10_releaseRoute 606 x h K := by
  unfold wX10_releaseRoute
  refine ⟨q.1.o, m_rem q.1 (fun h1 c e8 e0 => ?_)⟩
  obtain ⟨s1, r1⟩ := q.one c
  refine ⟨s1.o, m_frees k (k.ims hC) s1 r1 (m_fin q c e8 e0 (Nat.le_trans (rg_free x k.2.2).1 (by decide)) (fun hr => ?_) kk)⟩
  unfold oFree at hr ⊢
  cases h1 : fnd (bA X) x with
  | none => rfl
  | some t =>
    rw [h1] at hr
    simp only at hr ⊢
    split
    · rfl
    · rename_i h1; rw [if_neg h1] at hr; exact absurd rfl hr
end MC
