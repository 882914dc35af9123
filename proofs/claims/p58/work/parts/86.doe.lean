/-! PROGRAMS OF THE LAW'S TEXTS; WHAT THE LAW DOES TO THE BOX -/
section DOE
variable {h g g2 : AH} {X : BG} {A : AG} {w L z a n : Nat} {K : Int32 → AH → Prop} {T : List Nat}
theorem mt_mem : ∀ (F : List Nat) (i : Nat), (mtF T F i).2.1 = true → ∀ c ∈ F, c ≠ 35 → c ≠ 42 → c ∈ T := by
  intro F
  induction F with
  | nil => intro i _ c hc; cases hc
  | cons d F ih =>
    intro i ho c hc h1 h2
    rw [mtF] at ho
    by_cases e : tkn T d i = 0
    · rw [if_pos e] at ho; cases ho
    · rw [if_neg e] at ho
      rcases List.mem_cons.mp hc with q | q
      · subst q
        unfold tkn at e
        rw [if_neg h1, if_neg h2] at e
        by_cases y : T[i]? = some c
        · exact List.mem_of_getElem? y
        · rw [if_neg y] at e; exact absurd rfl e
      · exact ih _ ho c q h1 h2
theorem rd1_nt (hT : ∀ c ∈ T, c ≠ 110) {s e k : Nat} {ns : List Nat} (hr : rd1 T s = (e, some (k, ns))) : k ≠ 3 := by
  intro y
  subst y
  unfold rd1 at hr
  split at hr
  · cases hr
  · rename_i k' hk
    by_cases q : (mtF T (frm k') s).2.1 = true
    · rw [if_pos q] at hr
      injection hr with _ h2
      injection h2 with h2
      injection h2 with h2 _
      subst h2
      exact hT 110 (mt_mem _ s q 110 (by decide) (by decide) (by decide)) rfl
    · rw [if_neg q] at hr
      by_cases q2 : k' = 10 ∧ (mtF T (frm 9) s).2.1 = true ∧ T[s + 4]? ≠ some 32
      · rw [if_pos q2] at hr
        injection hr with _ h2
        injection h2 with h2
        injection h2 with h2 _
        cases h2
      · rw [if_neg q2] at hr
        injection hr with _ h2
        cases h2
theorem prs_nt (hT : ∀ c ∈ T, c ≠ 110) : ∀ (f s : Nat) {e : Nat} {cs : List CM}, prs T f s = (e, some cs) → ∀ c ∈ cs, c.1 ≠ 3 := by
  intro f
  induction f with
  | zero => intro s e cs h; cases h
  | succ f ih =>
    intro s e cs h
    rw [prs] at h
    cases hr : rd1 T s with
    | mk e' o =>
      cases o with
      | none => rw [hr] at h; cases h
      | some cm =>
        obtain ⟨k', ns'⟩ := cm
        have hk := rd1_nt hT hr
        rw [hr] at h
        simp only at h
        by_cases y : e' = T.length
        · rw [if_pos y] at h
          cases h
          intro c hc
          rw [List.mem_singleton.mp hc]
          exact hk
        · rw [if_neg y] at h
          by_cases y2 : T[e']? = some 59
          · rw [if_pos y2] at h
            cases hp : prs T f (e' + 1) with
            | mk e3 o3 =>
              rw [hp] at h
              cases o3 with
              | none => cases h
              | some l =>
                cases h
                intro c hc
                rcases List.mem_cons.mp hc with q | q
                · rw [q]; exact hk
                · exact ih (e' + 1) hp c q
          · rw [if_neg y2] at h
            cases h
/-- what an operation leaves of the counts -/
def sCM (A B : AG) : Prop := aC B = aC A ∧ aM B = aM A ∧ aD B = aD A
theorem sC_block (A : AG) (x : Int32) : sCM A (oBlock A x).2.2 := by
  unfold oBlock
  split
  · exact ⟨rfl, rfl, rfl⟩
  · split <;> exact ⟨rfl, rfl, rfl⟩
theorem sC_point (A : AG) (x y z : Int32) : sCM A (oPoint A x y z).2.2 := by
  unfold oPoint
  split
  · split
    · exact ⟨rfl, rfl, rfl⟩
    · split <;> exact ⟨rfl, rfl, rfl⟩
  · exact ⟨rfl, rfl, rfl⟩
theorem sC_link (A : AG) (x y : Int32) : sCM A (oLink A x y).2.2 := by
  unfold oLink
  split
  · split
    · exact ⟨rfl, rfl, rfl⟩
    · split <;> exact ⟨rfl, rfl, rfl⟩
  · exact ⟨rfl, rfl, rfl⟩
theorem sC_shut (A : AG) (x : Int32) : sCM A (oShut A x).2.2 := by
  unfold oShut
  split
  · exact ⟨rfl, rfl, rfl⟩
  · split <;> exact ⟨rfl, rfl, rfl⟩
theorem sC_open (A : AG) (x : Int32) : sCM A (oOpen A x).2.2 := by
  unfold oOpen
  split
  · exact ⟨rfl, rfl, rfl⟩
  · split <;> exact ⟨rfl, rfl, rfl⟩
theorem sC_throw (A : AG) (x : Int32) : sCM A (oThrow A x).2.2 := by
  unfold oThrow
  split
  · exact ⟨rfl, rfl, rfl⟩
  · split
    · exact ⟨rfl, rfl, rfl⟩
    · split <;> exact ⟨rfl, rfl, rfl⟩
theorem sC_set (A : AG) (x : Int32) : sCM A (oSet A x).2.2 := by
  unfold oSet
  split
  · exact ⟨rfl, rfl, rfl⟩
  · split
    · exact ⟨rfl, rfl, rfl⟩
    · split <;> exact ⟨rfl, rfl, rfl⟩
theorem sC_free (A : AG) (x : Int32) : sCM A (oFree A x).2.2 := by
  unfold oFree
  split
  · exact ⟨rfl, rfl, rfl⟩
  · split <;> exact ⟨rfl, rfl, rfl⟩
theorem aC_mins : ∀ (k : Nat) (A : AG), aC (mins k A) = aC A := by
  intro k
  induction k with
  | zero => intro A; rfl
  | succ k ih =>
    intro A
    show aC (mins k (min1 A)) = _
    rw [ih]
    exact (min1_s A).1
theorem aC_pass (A : AG) (x : Int32) : aC (oPass A x).2.2 = aC A := by
  unfold oPass
  split
  · rfl
  · exact aC_mins _ _
theorem aC_ex (A : AG) (c : CM) (hc : c.1 ≠ 3) : aC (exR A c).2.2 = aC A := by
  unfold exR
  split
  · exact (sC_block _ _).1
  · exact (sC_point _ _ _ _).1
  · exact (sC_link _ _ _).1
  · rename_i e; exact absurd e hc
  · exact (sC_set _ _).1
  · exact (sC_free _ _).1
  · exact (sC_shut _ _).1
  · exact (sC_open _ _).1
  · exact (sC_throw _ _).1
  · exact aC_pass _ _
  · exact aC_pass _ _
theorem aC_rn : ∀ (l : List CM) (X : BG) (j : Nat), (∀ c ∈ l, c.1 ≠ 3) → aC (bA (rnC X l j).1) = aC (bA X) := by
  intro l
  induction l with
  | nil => intro X j _; rfl
  | cons c l ih =>
    intro X j hl
    have h1 : aC (bA (exX X c)) = aC (bA X) := aC_ex (bA X) c (hl c List.mem_cons_self)
    rw [rnC]
    by_cases e : (exR (bA X) c).1 = 0
    · rw [if_pos e, ih _ _ (fun d hd => hl d (List.mem_cons_of_mem _ hd)), h1]
    · rw [if_neg e]
      exact h1
/-- the box with a text typed -/
def tX (X : BG) (T : List Nat) : BG := (bA X, bH X, bS X, bO X, T, X.2.2.2.2.2)
theorem runQ_2 (X : BG) : (runQ X).1 ≤ 2 := by
  unfold runQ
  split
  · exact Nat.le_of_ble_eq_true rfl
  · split <;> exact Nat.le_of_ble_eq_true rfl
/-- what a run may do: everything is as before, or one change is made, by trains that were there -/
def okT (T : List Nat) : Prop := T.length ≤ 60 ∧ ∀ c ∈ T, c ≠ 110
theorem run_ok (X : BG) (hT : okT T) : bF (runX (tX X T)) = [] ∧ bS (runX (tX X T)) = bS X ∧ ((runQ (tX X T)).1 ≠ 0 → bA (runX (tX X T)) = bA X ∧ bH (runX (tX X T)) = bH X) ∧ ((runQ (tX X T)).1 = 0 → aC (bA (runX (tX X T))) = aC (bA X) ∧ bH (runX (tX X T)) = (bA X :: bH X).take 8 ∧ ∃ j, j < 2 ^ 31 ∧ (runQ (tX X T)).2 = nI j) := by
  unfold runX runQ
  rw [show bF (tX X T) = T from rfl]
  cases hp : prs T 13 0 with
  | mk e o =>
    cases o with
    | none => exact ⟨rfl, rfl, fun _ => ⟨rfl, rfl⟩, fun y => absurd (show (1 : Nat) = 0 from y) (by decide)⟩
    | some cs =>
      dsimp only
      cases hr : rnC (bA (tX X T), bH (tX X T), bS (tX X T), bO (tX X T), [], (tX X T).2.2.2.2.2) cs 0 with
      | mk Y q =>
        have hY := rn_fix cs (bA (tX X T), bH (tX X T), bS (tX X T), bO (tX X T), [], (tX X T).2.2.2.2.2) 0
        rw [hr] at hY
        obtain ⟨y1, y2, y3, y4, y5⟩ := hY
        have hC := aC_rn cs (bA (tX X T), bH (tX X T), bS (tX X T), bO (tX X T), [], (tX X T).2.2.2.2.2) 0 (prs_nt hT.2 13 0 hp)
        rw [hr] at hC
        cases q with
        | none =>
          refine ⟨y3, y1, fun z => absurd rfl z, fun _ => ⟨hC, rfl, cs.length, ?_, rfl⟩⟩
          have := (prs_ok 13 0 hp).2
          have := hT.1
          omega
        | some j => exact ⟨rfl, rfl, fun _ => ⟨rfl, rfl⟩, fun z => absurd (show (2 : Nat) = 0 from z) (by decide)⟩
theorem LC.ty (c : LC (L := L) w (tX X T) h) {d : Nat} (f : fcl h g) (r : RBc g (tX X (T ++ [d]))) : LC (L := L) w (tX X (T ++ [d])) g := ⟨r, c.i, c.xb, c.sf.fcl f, c.sd.fcl f, c.w6, by rw [(f.2.2 63 (Or.inl (by decide))).1]; exact c.s63, c.l260⟩
theorem LC.rn (c : LC (L := L) w X h) (hw : w + 12 ≤ 6000) (f : fcl h g) (r : RBc g (runX X)) : LC (L := L) (w + 12) (runX X) g := by
  have q := run_px c.i c.gk c.xb (by omega) (c.r.bf).1
  exact ⟨r, q.1, q.2, c.sf.fcl f, c.sd.fcl f, hw, by rw [(f.2.2 63 (Or.inl (by decide))).1]; exact c.s63, c.l260⟩
theorem la_runs_l {h0 : AH} (hn : n ≤ 14) (hw : w + 12 ≤ 6000) (k : ∀ T g, okT T → fcl h0 g → LC (L := L) (w + 12) (runX (tX X T)) g → K (lq [-78, -76] (runQ (tX X T))) g) :
    ∀ j b x g T, x + j = n → j + 1 ≤ b → T.length = x → (∀ c ∈ T, okc c) → fcl h0 g → LC (L := L) w (tX X T) g → StO g a n → 606 ≤ a → 606 ≤ mR g a 0 → a ≠ mR g 604 0 → mR g a 0 ≠ mR g 604 0 → wL_runs_L2 K (j + 1) b 64 a (nI x) g := by
  intro j
  induction j with
  | zero =>
    intro b x g T hx hb hT hok f c s a1 a2 a3 a4
    rw [wL_runs_L2]; dsimp only
    refine ⟨s.2.1, st_len s (by omega) ?_⟩
    rw [nI_leI (by omega) (by omega)]
    refine ⟨fun _ => ⟨by omega, lw_run c.r c.sf c.i (by omega) (runQ_2 _) (fun g' f' r' => k T g' ⟨by omega, fun d hd => (hok d hd).2⟩ (f.tr f') (c.rn hw f' r'))⟩, fun y => absurd (by omega) y⟩
  | succ j ih =>
    intro b x g T hx hb hT hok f c s a1 a2 a3 a4
    rw [wL_runs_L2]; dsimp only
    refine ⟨s.2.1, st_len s (by omega) ?_⟩
    rw [nI_leI (by omega) (by omega)]
    refine ⟨fun y => absurd y (by omega), fun _ => ⟨s.2.1, st_chr s (by omega) (show x < n by omega) (fun d hd => ⟨by omega, ?_⟩)⟩⟩
    refine lw_type c.r (by have := hd.1; omega) (by show T.length < 60; omega) (fun g' f' r' => ?_)
    obtain ⟨s1, s2, s3, s4⟩ := s.fcl f' a1 a2 a3 a4
    rw [nI_add]
    refine ih (b - 1) (x + 1) g' (T ++ [d]) (by omega) (by omega) (by rw [List.length_append, hT]; rfl) (fun e he => ?_) (f.tr f') (c.ty f' r') s1 a1 (by rw [s2]; exact a2) s3 s4
    rcases List.mem_append.mp he with q | q
    · exact hok e q
    · rw [List.mem_singleton.mp q]; exact hd
theorem la_runs (c : LC (L := L) w X h) (hF : bF X = []) (hn : n ≤ 14) (hw : w + 12 ≤ 6000) (s : StO h a n) (a1 : 606 ≤ a) (a2 : 606 ≤ mR h a 0) (a3 : a ≠ mR h 604 0) (a4 : mR h a 0 ≠ mR h 604 0) (k : ∀ T g, okT T → fcl h g → LC (L := L) (w + 12) (runX (tX X T)) g → K (lq [-78, -76] (runQ (tX X T))) g) : wL_runs 64 a h K := by
  have e : X = tX X [] := by
    unfold tX
    rw [← hF]
    rfl
  unfold wL_runs
  exact ⟨n + 1, 15, Nat.le_refl _, la_runs_l hn hw k n 15 0 h [] (Nat.zero_add _) (by omega) rfl (fun d hd => by cases hd) (fcl.rf h) (e ▸ c) s a1 a2 a3 a4⟩
/-- new cells alone -/
def lo (h g : AH) : Prop := mN h ≤ mN g ∧ ∀ b, b < mN h → sa h g b
theorem lo.rf (h : AH) : lo h h := ⟨Nat.le_refl _, fun _ _ => sa.rf _ _⟩
theorem lo.tr (c : lo h g) (d : lo g g2) : lo h g2 := ⟨Nat.le_trans c.1 d.1, fun b hb => (c.2 b hb).tr (d.2 b (Nat.lt_of_lt_of_le hb c.1))⟩
theorem lo.f0 (c : fr1 (fun _ => False) h g) : lo h g := ⟨c.1, fun b hb => c.2 b hb id⟩
/-- cells from z on, z the old size, are nobody's -/
theorem lo.step {P : Nat → Prop} (c : lo h g) (d : fr1 P g g2) (hP : ∀ b, P b → mN h ≤ b) : lo h g2 := ⟨Nat.le_trans c.1 d.1, fun b hb => (c.2 b hb).tr (d.2 b (Nat.lt_of_lt_of_le hb c.1) (fun y => by have := hP b y; omega))⟩
theorem RBc.n607 (r : RBc h X) : 607 ≤ mN h ∧ mR h 604 0 < mN h ∧ (mR h 604 0 = 605 ∨ 607 ≤ mR h 604 0) := by
  obtain ⟨p, r⟩ := r
  have q := r.2.2.2.2.2.2.1
  exact ⟨q.2.2.1.2, q.2.2.1.1, q.2.1⟩
theorem RBc.lo (r : RBc h X) (c : lo h g) : RBc g X := by
  have q := r.n607
  obtain ⟨p, r⟩ := r
  exact ⟨p, r.sm c.1 (fun b hb => c.2 b (by omega))⟩
theorem LC.lo (c : LC (L := L) w X h) (f : lo h g) : LC (L := L) w X g := by
  have q := c.r.n607
  have e : ∀ b, b < 64 → sa h g b := fun b hb => f.2 b (by omega)
  exact ⟨c.r.lo f, c.i, c.xb, c.sf.sm e, c.sd.sm e, c.w6, by rw [(e 63 (by decide)).1]; exact c.s63, c.l260⟩
theorem stW.lo (t : stW h) (hN : 64 ≤ mN h) (f : lo h g) : stW g := t.sm (fun b hb => f.2 b (by omega))
theorem st_wd (t : stW h) (hN : 64 ≤ mN h) {a : Nat} {l : List Nat} (hq : (a, l) ∈ wds) : StO h a l.length ∧ mR h a 0 = a + 1 ∧ a < 62 := by
  obtain ⟨t1, t2, t3, t4, t5⟩ := t (a, l) hq
  have hlt : a < 62 ∧ 0 < a ∧ ∀ c ∈ l, okc c := (show ∀ q ∈ wds, q.1 < 62 ∧ 0 < q.1 ∧ ∀ c ∈ q.2, okc c by unfold okc; decide) (a, l) hq
  refine ⟨⟨⟨hlt.2.1, by omega, by show mR h a 0 < mN h; rw [t2]; show a + 1 < mN h; omega⟩, Or.inl ⟨t1, by show a < 64; omega⟩, t3, ?_, ?_, ?_⟩, t2, hlt.1⟩
  · show isA h (mR h a 0) 3
    rw [t2]; unfold isA; rw [t4]
  · show ln h (mR h a 0) = _
    rw [t2]; unfold ln; rw [t4]
  · show bOk h (mR h a 0) _
    rw [t2]
    intro j hj
    exact ⟨l[j], hlt.2.2 _ (List.getElem_mem hj), t5 j _ (List.getElem?_eq_getElem hj)⟩
theorem nds_2 {v : Nat} (hv : v < 100) : nds v ≤ 2 ∧ 1 ≤ nds v := by
  unfold nds
  by_cases e : v < 10
  · rw [if_pos e]; omega
  · rw [if_neg e, if_pos hv]; omega
/-- the text's end: joined, made a String, typed and run -/
theorem la_J493 (c : LC (L := L) w X h) (hF : bF X = []) (hw : w + 12 ≤ 6000) (f : lo h g) (s : SbO (mN h) g a n) (hn : n = 6) {b m : Nat} (q : StO g b m) (hm : 1 ≤ m ∧ m ≤ 8) (hb1 : b ≠ a) (hb2 : b ≠ mR g a 0) (hb3 : mR g b 0 ≠ a) (hb4 : mR g b 0 ≠ mR g a 0) (k : ∀ T g', okT T → (mN h ≤ mN g' ∧ ∀ b, b < 64 ∨ b = 606 → sa h g' b) → LC (L := L) (w + 12) (runX (tX X T)) g' → K (lq [-78, -76] (runQ (tX X T))) g') : wL_does_J493 K 64 a b g := by
  have q0 := c.r.n607
  unfold wL_does_J493
  refine ⟨s.2.1, sb_str s q (by omega) hb4 (fun g1 f1 n1 s1 r1 => ⟨s1.2.1, sb_to s1 (by omega) (fun g2 f2 n2 s2 r2 => ?_)⟩)⟩
  have l1 : lo h g1 := f.step f1 (fun d hd => by
    rcases hd with e | e
    · rw [e]; exact s.1.2.1
    · rw [e]; exact s.1.2.2.1)
  have l2 : lo h g2 := l1.tr (lo.f0 f2)
  have c2 := c.lo l2
  have eR : mR g2 604 0 = mR h 604 0 := by rw [(l2.2 604 (by omega)).2.2.1]
  have hN1 := l1.1
  refine la_runs c2 hF (by omega) hw s2 (by omega) (by rw [r2]; omega) (by rw [eR]; omega) (by rw [r2, eR]; omega) (fun T g3 hT f3 c3 => k T g3 hT ⟨Nat.le_trans l2.1 f3.1, fun d hd => ?_⟩ c3)
  have h1 : sa h g2 d := l2.2 d (by omega)
  exact h1.tr (f3.2.2 d (by
    rcases hd with e | e
    · exact Or.inl e
    · refine Or.inr ⟨by omega, by have := l2.1; omega, ?_⟩
      rw [eR]; omega))
/-- .. with a command and a number behind it -/
theorem la_cmd (c : LC (L := L) w X h) (sw : stW h) (hF : bF X = []) (hw : w + 12 ≤ 6000) (f : lo h g) (s : SbO (mN h) g a 6) {wd : Nat} {l : List Nat} (hq : (wd, l) ∈ wds) (hl : 1 ≤ l.length ∧ l.length ≤ 6) {v : Nat} (hv : v < 100) (k : ∀ T g', okT T → (mN h ≤ mN g' ∧ ∀ b, b < 64 ∨ b = 606 → sa h g' b) → LC (L := L) (w + 12) (runX (tX X T)) g' → K (lq [-78, -76] (runQ (tX X T))) g') :
    ∀ h93, h93 = nw g 9 0 → (¬ mN g = 0) ∧ wJ4_init_da8c8 (mN g) h93 (fun h94 => (isO h94 (mN g) 8) ∧ wJ4_append_15ec4 (mN g) wd h94 (fun r97 h96 => (isO h96 r97 8) ∧ wJ4_append_bf812 r97 (nI v) h96 (fun r99 h98 => (isO h98 r99 8) ∧ wJ4_toString_0e30d r99 h98 (fun r101 h100 => (wL_does_J493 K 64 a r101 h100))))) := by
  intro h93 e93
  have q0 := c.r.n607
  have fN := f.1
  have nd := nds_2 hv
  refine sb_new (z := mN h) (by omega) fN e93 (fun g1 f1 n1 s1 r1 => ⟨s1.2.1, ?_⟩)
  have l1 : lo h g1 := f.tr (lo.f0 f1)
  have aN := s.1.2.2.2.2.1
  have vN := s.1.2.2.2.2.2
  obtain ⟨S1, R1⟩ := s.fr f1 id id
  obtain ⟨w1, w2, w3⟩ := st_wd (sw.lo (by omega) l1) (by omega) hq
  refine sb_str s1 w1 (by omega) (by rw [w2, r1]; omega) (fun g2 f2 n2 s2 r2 => ⟨s2.2.1, ?_⟩)
  rw [r1] at f2
  rw [r1] at r2
  have dn1 : ¬ (a = mN g ∨ a = mN g + 1) := by omega
  have dn2 : ¬ (mR g1 a 0 = mN g ∨ mR g1 a 0 = mN g + 1) := by rw [R1]; omega
  obtain ⟨S2, R2⟩ := S1.fr f2 dn1 dn2
  have l2 : lo h g2 := l1.step f2 (fun d hd => by omega)
  have c2 := c.lo l2
  refine sb_int c2.sd s2 (by omega) (by omega) (fun g3 f3 n3 s3 r3 => ⟨s3.2.1, ?_⟩)
  rw [r2] at f3
  rw [r2] at r3
  obtain ⟨S3, R3⟩ := S2.fr f3 dn1 (by rw [R2]; exact dn2)
  have l3 : lo h g3 := l2.step f3 (fun d hd => by omega)
  refine sb_to s3 (by omega) (fun g4 f4 n4 s4 r4 => ?_)
  obtain ⟨S4, R4⟩ := S3.fr f4 id id
  have aN3 := S3.1.2.2.2.2.1
  have vN3 := S3.1.2.2.2.2.2
  exact la_J493 c hF hw (l3.tr (lo.f0 f4)) S4 rfl s4 (by omega) (by omega) (by rw [R4]; omega) (by rw [r4]; omega) (by rw [r4, R4]; omega) k
/-- a program that the law makes -/
theorem la_prog (c : LC (L := L) w X h) (sw : stW h) (hF : bF X = []) (hw : w + 12 ≤ 6000) {x4 : Int32} {v4 : Nat} (e4 : x4 = nI v4) (h4 : v4 < 100) {m : Nat} (hm : m < 10) {x6 va : Int32} {v9 : Nat} (ea : va = nI v9) (h9 : v9 < 100) (k : ∀ T g', okT T → (mN h ≤ mN g' ∧ ∀ b, b < 64 ∨ b = 606 → sa h g' b) → LC (L := L) (w + 12) (runX (tX X T)) g' → K (lq [-78, -76] (runQ (tX X T))) g') :
    ∀ h75, h75 = nw h 9 0 → (¬ mN h = 0) ∧ wJ4_init_da8c8 (mN h) h75 (fun h76 => (isO h76 (mN h) 8) ∧ wJ4_append_15ec4 (mN h) 38 h76 (fun r79 h78 => (isO h78 r79 8) ∧ wJ4_append_bf812 r79 (nI m) h78 (fun r81 h80 => ((¬ (x6 - x6 / (nI 4) * (nI 4)) = nI 0 → ((¬ (x6 - x6 / (nI 4) * (nI 4)) = (nI 1) → ((¬ (x6 - x6 / (nI 4) * (nI 4)) = (nI 2) → (wL_does_J493 K 64 r81 46 h80)) ∧ ((x6 - x6 / (nI 4) * (nI 4)) = (nI 2) → ∀ h93, h93 = nw h80 9 0 → (¬ mN h80 = 0) ∧ wJ4_init_da8c8 (mN h80) h93 (fun h94 => (isO h94 (mN h80) 8) ∧ wJ4_append_15ec4 (mN h80) 44 h94 (fun r97 h96 => (isO h96 r97 8) ∧ wJ4_append_bf812 r97 va h96 (fun r99 h98 => (isO h98 r99 8) ∧ wJ4_toString_0e30d r99 h98 (fun r101 h100 => (wL_does_J493 K 64 r81 r101 h100)))))))) ∧ ((x6 - x6 / (nI 4) * (nI 4)) = (nI 1) → ∀ h106, h106 = nw h80 9 0 → (¬ mN h80 = 0) ∧ wJ4_init_da8c8 (mN h80) h106 (fun h107 => (isO h107 (mN h80) 8) ∧ wJ4_append_15ec4 (mN h80) 42 h107 (fun r110 h109 => (isO h109 r110 8) ∧ wJ4_append_bf812 r110 x4 h109 (fun r112 h111 => (isO h111 r112 8) ∧ wJ4_toString_0e30d r112 h111 (fun r114 h113 => (wL_does_J493 K 64 r81 r114 h113)))))))) ∧ ((x6 - x6 / (nI 4) * (nI 4)) = nI 0 → ∀ h119, h119 = nw h80 9 0 → (¬ mN h80 = 0) ∧ wJ4_init_da8c8 (mN h80) h119 (fun h120 => (isO h120 (mN h80) 8) ∧ wJ4_append_15ec4 (mN h80) 40 h120 (fun r123 h122 => (isO h122 r123 8) ∧ wJ4_append_bf812 r123 x4 h122 (fun r125 h124 => (isO h124 r125 8) ∧ wJ4_toString_0e30d r125 h124 (fun r127 h126 => (wL_does_J493 K 64 r81 r127 h126)))))))))) := by
  subst e4
  subst ea
  intro h75 e75
  have q0 := c.r.n607
  refine sb_new (z := mN h) (by omega) (Nat.le_refl _) e75 (fun g1 f1 n1 s1 r1 => ⟨s1.2.1, ?_⟩)
  have l1 : lo h g1 := lo.f0 f1
  obtain ⟨w1, w2, w3⟩ := st_wd (sw.lo (by omega) l1) (by omega) (show (38, [119, 97, 105, 116, 32]) ∈ wds by decide)
  refine sb_str s1 w1 (by show 0 + 5 ≤ 16; decide) (by rw [w2, r1]; omega) (fun g2 f2 n2 s2 r2 => ⟨s2.2.1, ?_⟩)
  rw [r1] at f2
  rw [r1] at r2
  have l2 : lo h g2 := l1.step f2 (fun d hd => by omega)
  have c2 := c.lo l2
  have nm : nds m = 1 := if_pos hm
  refine sb_int c2.sd s2 (by omega) (by rw [nm]; show 0 + 5 + 1 ≤ 16; decide) (fun g3 f3 n3 s3 r3 => ?_)
  rw [r2] at f3
  rw [nm] at s3
  have l3 : lo h g3 := l2.step f3 (fun d hd => by omega)
  have s3 : SbO (mN h) g3 (mN h) 6 := s3
  refine ⟨fun _ => ⟨fun _ => ⟨fun _ => ?_, fun _ => la_cmd c sw hF hw l3 s3 (show (44, [59, 115, 104, 117, 116, 32]) ∈ wds by decide) (by decide) h9 k⟩, fun _ => la_cmd c sw hF hw l3 s3 (show (42, [59, 102, 114, 101, 101, 32]) ∈ wds by decide) (by decide) h4 k⟩, fun _ => la_cmd c sw hF hw l3 s3 (show (40, [59, 115, 101, 116, 32]) ∈ wds by decide) (by decide) h4 k⟩
  have hN3 := l3.1
  obtain ⟨u1, u2, u3⟩ := st_wd (sw.lo (by omega) l3) (by omega) (show (46, [59]) ∈ wds by decide)
  have v3 := s3.1.2.2.1
  exact la_J493 c hF hw l3 s3 rfl u1 (by decide) (by omega) (by omega) (by rw [u2]; omega) (by rw [u2]; omega) k
/-- what the law did to the box: the kind, the minutes, the train, before, behind, the answer -/
def DoR (kd m : Nat) (v : Int32) (X X' : BG) (r : Int32) : Prop :=
  (kd ≤ 1 ∧ ∃ x, r = cr [-78, -79] (oBlock (bA X) x) ∧ X' = cgd (oBlock (bA X) x) X) ∨
  (2 ≤ kd ∧ kd ≤ 5 ∧ ∃ x y z, r = cr [-77, -78, -79] (oPoint (bA X) x y z) ∧ X' = cgd (oPoint (bA X) x y z) X) ∨
  (6 ≤ kd ∧ kd ≤ 10 ∧ ∃ x y, r = cr [-77, -78, -79] (oLink (bA X) x y) ∧ X' = cgd (oLink (bA X) x y) X) ∨
  (kd = 11 ∧ ∃ x, r = cr [-77, -79] (oShut (bA X) x) ∧ X' = cgd (oShut (bA X) x) X) ∨
  (kd = 12 ∧ ∃ x, r = cr [-77, -79] (oOpen (bA X) x) ∧ X' = cgd (oOpen (bA X) x) X) ∨
  (kd = 13 ∧ ∃ x, r = cr [-77, -79] (oThrow (bA X) x) ∧ X' = cgd (oThrow (bA X) x) X) ∨
  (14 ≤ kd ∧ kd ≤ 21 ∧ ∃ x y, r = cr [-77, -78, -79] (oTrain (bA X) x y) ∧ X' = cgd (oTrain (bA X) x y) X) ∨
  (22 ≤ kd ∧ kd ≤ 27 ∧ r = cr [-75, -79, -76] (oSet (bA X) v) ∧ X' = cgS (bA X) v X) ∨
  (28 ≤ kd ∧ kd ≤ 30 ∧ r = cr [-75, -79] (oFree (bA X) v) ∧ X' = cgd (oFree (bA X) v) X) ∨
  (31 ≤ kd ∧ kd ≤ 45 ∧ r = cr [-78] (oPass (bA X) (nI m)) ∧ X' = cgd (oPass (bA X) (nI m)) X) ∨
  (46 ≤ kd ∧ kd ≤ 47 ∧ ∃ T : List Nat, okT T ∧ r = lq [-78, -76] (runQ (tX X T)) ∧ X' = runX (tX X T))
def fw (h g : AH) : Prop := mN h ≤ mN g ∧ ∀ b, b < 64 ∨ b = 606 → sa h g b
theorem fw.tr (c : fw h g) (d : fw g g2) : fw h g2 := ⟨Nat.le_trans c.1 d.1, fun b hb => (c.2 b hb).tr (d.2 b hb)⟩
theorem RBc.fw (r : RBc h X) (f : fcl h g) : fw h g := by
  have q := r.n607
  exact ⟨f.1, fun b hb => f.2.2 b (by omega)⟩
theorem LC.go {X' : BG} (c : LC (L := L) w X h) (hw : w + 12 ≤ 6000) (f : fcl h g) (r : RBc g X') (i : PX (w + 12) X') (x : XB X') : LC (L := L) (w + 12) X' g := ⟨r, i, x, c.sf.fcl f, c.sd.fcl f, hw, by rw [(f.2.2 63 (Or.inl (by decide))).1]; exact c.s63, c.l260⟩
theorem LC.cg (c : LC (L := L) w X h) (hw : w + 12 ≤ 6000) {r : RsA} (h1 : IP r.2.2) (h2 : BW (w + 1) r.2.2) (f : fcl h g) (q : RBc g (cgd r X)) : LC (L := L) (w + 12) (cgd r X) g := c.go hw f q (c.i.cg1 h1 h2) c.xb
theorem la_J47 (c : LC (L := L) w X h) (sw : stW h) (hF : bF X = []) (hw : w + 12 ≤ 6000) {kd : Nat} (hkd : kd < 48) {x4 : Int32} {v4 : Nat} (e4 : x4 = nI v4) (h4 : v4 < 100) {m : Nat} (hm : m < 10) {x6 : Int32} {x7 : Nat} (h7 : x7 < 2 ^ 31) {y : Nat} (hy : y ≤ 1) (hy0 : 0 < gn (aL (bA X)) + y) (k : ∀ X' r g, DoR kd m x4 X X' r → fw h g → LC (L := L) (w + 12) X' g → K r g) : wL_does_J47 K (nI kd) 64 x4 (nI m) x6 (nI x7) (nI (gn (aL (bA X)))) (nI y) h := by
  have i := c.ip
  have b := c.i.1.2
  have gk := c.gk
  have n12 := c.n12
  have hh : gh (aL (bA X)) < 2 ^ 32 := by
    have h1 : gh (aL (bA X)) < 2 ^ gn (aL (bA X)) := gk.1.2.2.2.2.2.2.2.1
    exact Nat.lt_of_lt_of_le h1 (Nat.pow_le_pow_right (by decide) (by omega))
  unfold wL_does_J47
  rw [nI_add]
  refine ⟨by rw [show (0 : Int32) = nI 0 from rfl, nI_z (by omega)]; omega, fun v9 _ v11 _ => ⟨?_, ?_, ?_, ?_, ?_, ?_, ?_, ?_, ?_, ?_, ?_, ?_, ?_, ?_, ?_, ?_, ?_, ?_, ?_, ?_, ?_, ?_, ?_, ?_, ?_, ?_, ?_, ?_, ?_, ?_, ?_, ?_, ?_, fun e => ?_⟩⟩
  · intro e
    have ek : kd = 0 := (nI_eq (by omega) (by decide)).mp e
    unfold wL_does_J305
    have z := (fun x => lw_addBlock c.r c.i c.wb (x := x) (fun g f r => k _ _ g (Or.inl ⟨by omega, x, rfl, rfl⟩) (c.r.fw f) (c.cg hw (ip_block i _) (bw_block b _) f r)))
    exact ⟨fun _ => z _, fun _ => z _⟩
  · intro e
    have ek : kd = 1 := (nI_eq (by omega) (by decide)).mp e
    unfold wL_does_J305
    have z := (fun x => lw_addBlock c.r c.i c.wb (x := x) (fun g f r => k _ _ g (Or.inl ⟨by omega, x, rfl, rfl⟩) (c.r.fw f) (c.cg hw (ip_block i _) (bw_block b _) f r)))
    exact ⟨fun _ => z _, fun _ => z _⟩
  · intro e
    have ek : kd = 2 := (nI_eq (by omega) (by decide)).mp e
    exact lw_addPoint c.r c.i c.wb (fun g f r => k _ _ g (Or.inr (Or.inl ⟨by omega, by omega, _, _, _, rfl, rfl⟩)) (c.r.fw f) (c.cg hw (ip_point i gk.1 _ _ _) (bw_point b _ _ _) f r))
  · intro e
    have ek : kd = 3 := (nI_eq (by omega) (by decide)).mp e
    exact lw_addPoint c.r c.i c.wb (fun g f r => k _ _ g (Or.inr (Or.inl ⟨by omega, by omega, _, _, _, rfl, rfl⟩)) (c.r.fw f) (c.cg hw (ip_point i gk.1 _ _ _) (bw_point b _ _ _) f r))
  · intro e
    have ek : kd = 4 := (nI_eq (by omega) (by decide)).mp e
    exact lw_addPoint c.r c.i c.wb (fun g f r => k _ _ g (Or.inr (Or.inl ⟨by omega, by omega, _, _, _, rfl, rfl⟩)) (c.r.fw f) (c.cg hw (ip_point i gk.1 _ _ _) (bw_point b _ _ _) f r))
  · intro e
    have ek : kd = 5 := (nI_eq (by omega) (by decide)).mp e
    exact lw_addPoint c.r c.i c.wb (fun g f r => k _ _ g (Or.inr (Or.inl ⟨by omega, by omega, _, _, _, rfl, rfl⟩)) (c.r.fw f) (c.cg hw (ip_point i gk.1 _ _ _) (bw_point b _ _ _) f r))
  · intro e
    have ek : kd = 6 := (nI_eq (by omega) (by decide)).mp e
    exact lw_addLink c.r c.i c.wb (fun g f r => k _ _ g (Or.inr (Or.inr (Or.inl ⟨by omega, by omega, _, _, rfl, rfl⟩))) (c.r.fw f) (c.cg hw (ip_link i gk.1 _ _) (bw_link b _ _) f r))
  · intro e
    have ek : kd = 7 := (nI_eq (by omega) (by decide)).mp e
    exact lw_addLink c.r c.i c.wb (fun g f r => k _ _ g (Or.inr (Or.inr (Or.inl ⟨by omega, by omega, _, _, rfl, rfl⟩))) (c.r.fw f) (c.cg hw (ip_link i gk.1 _ _) (bw_link b _ _) f r))
  · intro e
    have ek : kd = 8 := (nI_eq (by omega) (by decide)).mp e
    exact lw_addLink c.r c.i c.wb (fun g f r => k _ _ g (Or.inr (Or.inr (Or.inl ⟨by omega, by omega, _, _, rfl, rfl⟩))) (c.r.fw f) (c.cg hw (ip_link i gk.1 _ _) (bw_link b _ _) f r))
  · intro e
    have ek : kd = 9 := (nI_eq (by omega) (by decide)).mp e
    exact lw_addLink c.r c.i c.wb (fun g f r => k _ _ g (Or.inr (Or.inr (Or.inl ⟨by omega, by omega, _, _, rfl, rfl⟩))) (c.r.fw f) (c.cg hw (ip_link i gk.1 _ _) (bw_link b _ _) f r))
  · intro e
    have ek : kd = 10 := (nI_eq (by omega) (by decide)).mp e
    exact lw_addLink c.r c.i c.wb (fun g f r => k _ _ g (Or.inr (Or.inr (Or.inl ⟨by omega, by omega, _, _, rfl, rfl⟩))) (c.r.fw f) (c.cg hw (ip_link i gk.1 _ _) (bw_link b _ _) f r))
  · intro e
    have ek : kd = 11 := (nI_eq (by omega) (by decide)).mp e
    exact lw_shut c.r c.i c.wb (fun g f r => k _ _ g (Or.inr (Or.inr (Or.inr (Or.inl ⟨ek, _, rfl, rfl⟩)))) (c.r.fw f) (c.cg hw (ip_shut i _) (bw_shut b _) f r))
  · intro e
    have ek : kd = 12 := (nI_eq (by omega) (by decide)).mp e
    exact lw_open c.r c.i c.wb (fun g f r => k _ _ g (Or.inr (Or.inr (Or.inr (Or.inr (Or.inl ⟨ek, _, rfl, rfl⟩))))) (c.r.fw f) (c.cg hw (ip_open i hh _) (bw_open b _) f r))
  · intro e
    have ek : kd = 13 := (nI_eq (by omega) (by decide)).mp e
    exact lw_throwPoint c.r c.i c.wb (fun g f r => k _ _ g (Or.inr (Or.inr (Or.inr (Or.inr (Or.inr (Or.inl ⟨ek, _, rfl, rfl⟩)))))) (c.r.fw f) (c.cg hw (ip_throw i _) (bw_throw b _) f r))
  · intro e
    have ek : kd = 14 := (nI_eq (by omega) (by decide)).mp e
    exact lw_addTrain c.r c.i c.wb (fun g f r => k _ _ g (Or.inr (Or.inr (Or.inr (Or.inr (Or.inr (Or.inr (Or.inl ⟨by omega, by omega, _, _, rfl, rfl⟩))))))) (c.r.fw f) (c.cg hw (ip_train i gk.1 _ _) (bw_train b _ _) f r))
  · intro e
    have ek : kd = 15 := (nI_eq (by omega) (by decide)).mp e
    exact lw_addTrain c.r c.i c.wb (fun g f r => k _ _ g (Or.inr (Or.inr (Or.inr (Or.inr (Or.inr (Or.inr (Or.inl ⟨by omega, by omega, _, _, rfl, rfl⟩))))))) (c.r.fw f) (c.cg hw (ip_train i gk.1 _ _) (bw_train b _ _) f r))
  · intro e
    have ek : kd = 16 := (nI_eq (by omega) (by decide)).mp e
    exact lw_addTrain c.r c.i c.wb (fun g f r => k _ _ g (Or.inr (Or.inr (Or.inr (Or.inr (Or.inr (Or.inr (Or.inl ⟨by omega, by omega, _, _, rfl, rfl⟩))))))) (c.r.fw f) (c.cg hw (ip_train i gk.1 _ _) (bw_train b _ _) f r))
  · intro e
    have ek : kd = 17 := (nI_eq (by omega) (by decide)).mp e
    exact lw_addTrain c.r c.i c.wb (fun g f r => k _ _ g (Or.inr (Or.inr (Or.inr (Or.inr (Or.inr (Or.inr (Or.inl ⟨by omega, by omega, _, _, rfl, rfl⟩))))))) (c.r.fw f) (c.cg hw (ip_train i gk.1 _ _) (bw_train b _ _) f r))
  · intro e
    have ek : kd = 18 := (nI_eq (by omega) (by decide)).mp e
    exact lw_addTrain c.r c.i c.wb (fun g f r => k _ _ g (Or.inr (Or.inr (Or.inr (Or.inr (Or.inr (Or.inr (Or.inl ⟨by omega, by omega, _, _, rfl, rfl⟩))))))) (c.r.fw f) (c.cg hw (ip_train i gk.1 _ _) (bw_train b _ _) f r))
  · intro e
    have ek : kd = 19 := (nI_eq (by omega) (by decide)).mp e
    exact lw_addTrain c.r c.i c.wb (fun g f r => k _ _ g (Or.inr (Or.inr (Or.inr (Or.inr (Or.inr (Or.inr (Or.inl ⟨by omega, by omega, _, _, rfl, rfl⟩))))))) (c.r.fw f) (c.cg hw (ip_train i gk.1 _ _) (bw_train b _ _) f r))
  · intro e
    have ek : kd = 20 := (nI_eq (by omega) (by decide)).mp e
    exact lw_addTrain c.r c.i c.wb (fun g f r => k _ _ g (Or.inr (Or.inr (Or.inr (Or.inr (Or.inr (Or.inr (Or.inl ⟨by omega, by omega, _, _, rfl, rfl⟩))))))) (c.r.fw f) (c.cg hw (ip_train i gk.1 _ _) (bw_train b _ _) f r))
  · intro e
    have ek : kd = 21 := (nI_eq (by omega) (by decide)).mp e
    exact lw_addTrain c.r c.i c.wb (fun g f r => k _ _ g (Or.inr (Or.inr (Or.inr (Or.inr (Or.inr (Or.inr (Or.inl ⟨by omega, by omega, _, _, rfl, rfl⟩))))))) (c.r.fw f) (c.cg hw (ip_train i gk.1 _ _) (bw_train b _ _) f r))
  · intro e
    have ek : kd = 22 := (nI_eq (by omega) (by decide)).mp e
    exact lw_setRoute c.r c.i c.wb (fun g f r => k _ _ g (Or.inr (Or.inr (Or.inr (Or.inr (Or.inr (Or.inr (Or.inr (Or.inl ⟨by omega, by omega, rfl, rfl⟩)))))))) (c.r.fw f) (c.go hw f r (c.i.cg2 gk) (c.xb.cg2 gk _)))
  · intro e
    have ek : kd = 23 := (nI_eq (by omega) (by decide)).mp e
    exact lw_setRoute c.r c.i c.wb (fun g f r => k _ _ g (Or.inr (Or.inr (Or.inr (Or.inr (Or.inr (Or.inr (Or.inr (Or.inl ⟨by omega, by omega, rfl, rfl⟩)))))))) (c.r.fw f) (c.go hw f r (c.i.cg2 gk) (c.xb.cg2 gk _)))
  · intro e
    have ek : kd = 24 := (nI_eq (by omega) (by decide)).mp e
    exact lw_setRoute c.r c.i c.wb (fun g f r => k _ _ g (Or.inr (Or.inr (Or.inr (Or.inr (Or.inr (Or.inr (Or.inr (Or.inl ⟨by omega, by omega, rfl, rfl⟩)))))))) (c.r.fw f) (c.go hw f r (c.i.cg2 gk) (c.xb.cg2 gk _)))
  · intro e
    have ek : kd = 25 := (nI_eq (by omega) (by decide)).mp e
    exact lw_setRoute c.r c.i c.wb (fun g f r => k _ _ g (Or.inr (Or.inr (Or.inr (Or.inr (Or.inr (Or.inr (Or.inr (Or.inl ⟨by omega, by omega, rfl, rfl⟩)))))))) (c.r.fw f) (c.go hw f r (c.i.cg2 gk) (c.xb.cg2 gk _)))
  · intro e
    have ek : kd = 26 := (nI_eq (by omega) (by decide)).mp e
    exact lw_setRoute c.r c.i c.wb (fun g f r => k _ _ g (Or.inr (Or.inr (Or.inr (Or.inr (Or.inr (Or.inr (Or.inr (Or.inl ⟨by omega, by omega, rfl, rfl⟩)))))))) (c.r.fw f) (c.go hw f r (c.i.cg2 gk) (c.xb.cg2 gk _)))
  · intro e
    have ek : kd = 27 := (nI_eq (by omega) (by decide)).mp e
    exact lw_setRoute c.r c.i c.wb (fun g f r => k _ _ g (Or.inr (Or.inr (Or.inr (Or.inr (Or.inr (Or.inr (Or.inr (Or.inl ⟨by omega, by omega, rfl, rfl⟩)))))))) (c.r.fw f) (c.go hw f r (c.i.cg2 gk) (c.xb.cg2 gk _)))
  · intro e
    have ek : kd = 28 := (nI_eq (by omega) (by decide)).mp e
    exact lw_releaseRoute c.r c.i c.wb (fun g f r => k _ _ g (Or.inr (Or.inr (Or.inr (Or.inr (Or.inr (Or.inr (Or.inr (Or.inr (Or.inl ⟨by omega, by omega, rfl, rfl⟩))))))))) (c.r.fw f) (c.cg hw (ip_free i _) (bw_free b _) f r))
  · intro e
    have ek : kd = 29 := (nI_eq (by omega) (by decide)).mp e
    exact lw_releaseRoute c.r c.i c.wb (fun g f r => k _ _ g (Or.inr (Or.inr (Or.inr (Or.inr (Or.inr (Or.inr (Or.inr (Or.inr (Or.inl ⟨by omega, by omega, rfl, rfl⟩))))))))) (c.r.fw f) (c.cg hw (ip_free i _) (bw_free b _) f r))
  · intro e
    have ek : kd = 30 := (nI_eq (by omega) (by decide)).mp e
    exact lw_releaseRoute c.r c.i c.wb (fun g f r => k _ _ g (Or.inr (Or.inr (Or.inr (Or.inr (Or.inr (Or.inr (Or.inr (Or.inr (Or.inl ⟨by omega, by omega, rfl, rfl⟩))))))))) (c.r.fw f) (c.cg hw (ip_free i _) (bw_free b _) f r))
  · intro e
    have ek : kd = 46 := (nI_eq (by omega) (by decide)).mp e
    exact la_prog c sw hF hw e4 h4 hm (pk_rem h7 (by omega) (by omega)) (by have := Nat.mod_lt x7 (show 0 < gn (aL (bA X)) + y by omega); omega) (fun T g hT f c' => k _ _ g (Or.inr (Or.inr (Or.inr (Or.inr (Or.inr (Or.inr (Or.inr (Or.inr (Or.inr (Or.inr (⟨by omega, by omega, T, hT, rfl, rfl⟩))))))))))) f c')
  · intro e
    have ek : kd = 47 := (nI_eq (by omega) (by decide)).mp e
    exact la_prog c sw hF hw e4 h4 hm (pk_rem h7 (by omega) (by omega)) (by have := Nat.mod_lt x7 (show 0 < gn (aL (bA X)) + y by omega); omega) (fun T g hT f c' => k _ _ g (Or.inr (Or.inr (Or.inr (Or.inr (Or.inr (Or.inr (Or.inr (Or.inr (Or.inr (Or.inr (⟨by omega, by omega, T, hT, rfl, rfl⟩))))))))))) f c')
  · have ek : 31 ≤ kd ∧ kd ≤ 45 := by
      obtain ⟨e0, e1, e2, e3, e4, e5, e6, e7, e8, e9, e10, e11, e12, e13, e14, e15, e16, e17, e18, e19, e20, e21, e22, e23, e24, e25, e26, e27, e28, e29, e30, e46, e47⟩ := e
      have key : ∀ j, j < 48 → ¬ nI kd = nI j → kd ≠ j := fun j _ hne q => hne (by rw [q])
      have q0 := key 0 (by decide) e0
      have q1 := key 1 (by decide) e1
      have q2 := key 2 (by decide) e2
      have q3 := key 3 (by decide) e3
      have q4 := key 4 (by decide) e4
      have q5 := key 5 (by decide) e5
      have q6 := key 6 (by decide) e6
      have q7 := key 7 (by decide) e7
      have q8 := key 8 (by decide) e8
      have q9 := key 9 (by decide) e9
      have q10 := key 10 (by decide) e10
      have q11 := key 11 (by decide) e11
      have q12 := key 12 (by decide) e12
      have q13 := key 13 (by decide) e13
      have q14 := key 14 (by decide) e14
      have q15 := key 15 (by decide) e15
      have q16 := key 16 (by decide) e16
      have q17 := key 17 (by decide) e17
      have q18 := key 18 (by decide) e18
      have q19 := key 19 (by decide) e19
      have q20 := key 20 (by decide) e20
      have q21 := key 21 (by decide) e21
      have q22 := key 22 (by decide) e22
      have q23 := key 23 (by decide) e23
      have q24 := key 24 (by decide) e24
      have q25 := key 25 (by decide) e25
      have q26 := key 26 (by decide) e26
      have q27 := key 27 (by decide) e27
      have q28 := key 28 (by decide) e28
      have q29 := key 29 (by decide) e29
      have q30 := key 30 (by decide) e30
      have q46 := key 46 (by decide) e46
      have q47 := key 47 (by decide) e47
      omega
    exact lw_pass c.r c.i c.wb (fun g f r => k _ _ g (Or.inr (Or.inr (Or.inr (Or.inr (Or.inr (Or.inr (Or.inr (Or.inr (Or.inr (Or.inl ⟨by omega, by omega, rfl, rfl⟩)))))))))) (c.r.fw f) (c.cg hw (bw_pass b gk c.wb _).2.2.2 (bw_pass b gk c.wb _).1 f r))
theorem la_does (c : LC (L := L) w X h) (sw : stW h) (hF : bF X = []) (hw : w + 12 ≤ 6000) {kk kd : Nat} (hkk : kk < 2 ^ 30) (hkd : kd < 48) {x4 : Int32} {v4 : Nat} (e4 : x4 = nI v4) (h4 : v4 < 100) {m : Nat} (hm : m < 10) (k : ∀ X' r g, DoR kd m x4 X X' r → fw h g → LC (L := L) (w + 12) X' g → K r g) : wL_does 63 (nI kk) (nI kd) 64 x4 (nI m) h K := by
  have n12 := c.n12
  unfold wL_does
  rw [nI_add, nI_add]
  refine la_pick c.s63 c.l260 (by omega) (by decide) (by decide) (fun x6 h6 => la_pick c.s63 c.l260 (by omega) (by decide) (by decide) (fun x7 h7 => ⟨c.r.o, c9_blocks c.r (T := True) ?_⟩))
  unfold wL_does_J42
  have one := la_J47 c sw hF hw hkd e4 h4 hm (x6 := nI x6) (show x7 < 2 ^ 31 by omega) (y := 1) (Nat.le_refl _) (by omega) k
  refine ⟨fun _ => one, fun _ => ⟨c.r.o, c9_blocks c.r (T := True) ⟨fun e => ?_, fun _ => one⟩⟩⟩
  rw [nI_z (by omega)] at e
  exact la_J47 c sw hF hw hkd e4 h4 hm (x6 := nI x6) (show x7 < 2 ^ 31 by omega) (y := 0) (by omega) (by omega) k
end DOE
