/-! THE LAW'S HELPERS: drawn numbers, the sum, a train by its place, the queue's length -/
section LCX
variable {h g : AH} {X : BG} {A : AG} {w L : Nat} {K : Int32 → AH → Prop}
/-- what holds wherever the law asks -/
def LC (w : Nat) (X : BG) (h : AH) : Prop := RBc h X ∧ PX w X ∧ XB X ∧ stF h ∧ stD h ∧ w ≤ 6000 ∧ mS h 63 = (100, L) ∧ L ≤ 260
theorem LC.r (c : LC (L := L) w X h) : RBc h X := c.1
theorem LC.i (c : LC (L := L) w X h) : PX w X := c.2.1
theorem LC.xb (c : LC (L := L) w X h) : XB X := c.2.2.1
theorem LC.sf (c : LC (L := L) w X h) : stF h := c.2.2.2.1
theorem LC.sd (c : LC (L := L) w X h) : stD h := c.2.2.2.2.1
theorem LC.wb (c : LC (L := L) w X h) : w ≤ 6200 := Nat.le_trans c.2.2.2.2.2.1 (by decide)
theorem LC.w6 (c : LC (L := L) w X h) : w ≤ 6000 := c.2.2.2.2.2.1
theorem LC.s63 (c : LC (L := L) w X h) : mS h 63 = (100, L) := c.2.2.2.2.2.2.1
theorem LC.l260 (c : LC (L := L) w X h) : L ≤ 260 := c.2.2.2.2.2.2.2
theorem LC.ip (c : LC (L := L) w X h) : IP (bA X) := c.i.1.1
theorem LC.bn (c : LC (L := L) w X h) : BN (bA X) := c.i.1.2.bn c.wb
theorem LC.gk (c : LC (L := L) w X h) : GK (bA X) := c.r.gk c.i
theorem LC.n12 (c : LC (L := L) w X h) : gn (aL (bA X)) ≤ 12 := c.gk.1.1
theorem LC.t8 (c : LC (L := L) w X h) : (aT (bA X)).length ≤ 8 := c.ip.1
theorem LC.fr (c : LC (L := L) w X h) (f : fcl h g) (r : RBc g X) : LC (L := L) w X g := ⟨r, c.i, c.xb, c.sf.fcl f, c.sd.fcl f, c.w6, by rw [(f.2.2 63 (Or.inl (by decide))).1]; exact c.s63, c.l260⟩
theorem nI_rem {a b : Nat} (ha : a < 2 ^ 31) (hb : b < 2 ^ 31) (h0 : 0 < b) : nI a - nI a / nI b * nI b = nI (a % b) := pk_rem ha h0 hb
theorem shr_1 (x : Int32) : ∃ m, m < 2 ^ 31 ∧ (x.toUInt32 >>> ((nI 1).toUInt32 &&& Int32.toUInt32 (nI 31))).toInt32 = nI m := by
  have h1 := pk_ushr x (nI 1) 1 (by decide)
  have hm : x.toBitVec.toNat / 2 ^ 1 < 2 ^ 31 := by have := x.toBitVec.isLt; omega
  refine ⟨x.toBitVec.toNat / 2 ^ 1, hm, ?_⟩
  apply Int32.toBitVec_inj.mp
  apply BitVec.eq_of_toNat_eq
  rw [pk_tn (by omega)]
  exact h1
theorem la_pick (s : mS h 63 = (100, L)) (hL : L ≤ 260) {x n : Nat} (hx : x < 2 ^ 31) (h0 : 0 < n) (hn : n < 2 ^ 31) (k : ∀ j, j < n → K (nI j) h) : wL_pick 63 (nI x) (nI n) h K := by
  have hA : isA h 63 0 := congrArg Prod.fst s
  have hl : ln h 63 = L := congrArg Prod.snd s
  have key : ∀ r : Int32, (¬ nI n = 0) ∧ K ((r.toUInt32 >>> ((nI 1).toUInt32 &&& Int32.toUInt32 (nI 31))).toInt32 - (r.toUInt32 >>> ((nI 1).toUInt32 &&& Int32.toUInt32 (nI 31))).toInt32 / nI n * nI n) h := by
    intro r
    obtain ⟨m, hm, e⟩ := shr_1 r
    rw [e, nI_rem hm hn h0]
    exact ⟨by rw [show (0 : Int32) = nI 0 by decide, nI_z hn]; omega, k _ (Nat.mod_lt _ h0)⟩
  unfold wL_pick wL_cell
  rw [hl]
  rw [nI_leI (by omega) hx]
  exact ⟨hA, fun _ => key _, fun z => ⟨vp_in_nI (by omega) (by omega), key _⟩⟩
/-- the sum of what is seen of a box -/
noncomputable def sm1 (A : AG) : Nat → Nat → Int64 → Int64
  | 0, _, v => v
  | j + 1, x, v => sm1 A j (x + 1) ((((31) * (((((31) * v) + ((1009) * (lq [-77] (qState A (nI x))).toInt64)) + ((31) * (lq [-77, -75] (qAt A (nI x))).toInt64)) + (lq [-77] (qLen A (nI x))).toInt64)) + (lq [-77] (qPaths A (nI x) (nI 0))).toInt64) + ((7) * (lq [-77] (qPaths A (nI 0) (nI x))).toInt64))
noncomputable def sm2 (A : AG) : Nat → Nat → Int64 → Int64
  | 0, _, v => v
  | j + 1, x, v => sm2 A j (x + 1) ((((31) * v) + ((101) * (lq [-77] (qLies A (nI x))).toInt64)) + (lq [-77, -75] (qLock A (nI x))).toInt64)
noncomputable def sm3 (A : AG) : Nat → Nat → Int64 → Int64
  | 0, _, v => v
  | j + 1, x, v => sm3 A j (x + 1) ((((((31) * v) + ((1009) * (lq [-75] (qT (fun t => nI (tb t)) A (lq [-77, -75] (qAt A (nI x))))).toInt64)) + ((101) * (lq [-75] (qT (fun t => nI (td t)) A (lq [-77, -75] (qAt A (nI x))))).toInt64)) + ((31) * (lq [-75] (qT (fun t => nI (tl t)) A (lq [-77, -75] (qAt A (nI x))))).toInt64)) + (lq [-75] (qR (fun t => nI (rem A t)) A (lq [-77, -75] (qAt A (nI x))))).toInt64)
noncomputable def sm4 (A : AG) : Nat → Nat → Int64 → Int64
  | 0, _, v => v
  | j + 1, x, v => sm4 A j (x + 1) (((31) * v) + (lq [-75] (qQ A (nI x))).toInt64)
noncomputable def smA (A : AG) : Int64 := sm4 A 8 0 (sm3 A (gn (aL A)) 0 (sm2 A 8 0 (sm1 A (gn (aL A)) 0 ((((1009) * (nI (aM A)).toInt64) + ((101) * (nI (aO A)).toInt64)) + lN (aD A)))))
theorem la_sum1 (c : LC (L := L) w X h) {K : Int64 → AH → Prop} {C : Nat → Int64 → AH → Prop} : ∀ j b x v, x + j = gn (aL (bA X)) → j ≤ b → C 64 (sm1 (bA X) j x v) h → wL_sum_L27 K C (j + 1) b 64 v (nI x) h := by
  have h12 := c.n12
  intro j
  induction j with
  | zero =>
    intro b x v hx _ k
    rw [wL_sum_L27]; dsimp only
    refine ⟨c.r.o, c9_blocks c.r (T := True) ?_⟩
    rw [nI_leI (by omega) (by omega)]
    exact ⟨fun _ => k, fun z => absurd (by omega) z⟩
  | succ j ih =>
    intro b x v hx hb k
    rw [wL_sum_L27]; dsimp only
    refine ⟨c.r.o, c9_blocks c.r (T := True) ?_⟩
    rw [nI_leI (by omega) (by omega)]
    refine ⟨fun z => absurd z (by omega), fun _ => ⟨by omega, ?_⟩⟩
    refine lw_blockState c.r c.ip (lw_trainAt c.r c.ip c.bn (lw_blockLength c.r (lw_paths c.r (lw_paths c.r ?_))))
    rw [nI_add]
    exact ih (b - 1) (x + 1) _ (by omega) (by omega) k
theorem la_sum2 (c : LC (L := L) w X h) {K : Int64 → AH → Prop} {C : Nat → Int64 → AH → Prop} : ∀ j b x v, x + j = 8 → j ≤ b → C 64 (sm2 (bA X) j x v) h → wL_sum_L104 K C (j + 1) b 64 v (nI x) h := by
  intro j
  induction j with
  | zero =>
    intro b x v hx _ k
    rw [wL_sum_L104]; dsimp only
    rw [nI_leI (by omega) (by omega)]
    exact ⟨fun _ => k, fun z => absurd (by omega) z⟩
  | succ j ih =>
    intro b x v hx hb k
    rw [wL_sum_L104]; dsimp only
    rw [nI_leI (by omega) (by omega)]
    refine ⟨fun z => absurd z (by omega), fun _ => ⟨by omega, lw_liesLeft c.r (lw_lockedBy c.r c.ip c.bn ?_)⟩⟩
    rw [nI_add]
    exact ih (b - 1) (x + 1) _ (by omega) (by omega) k
theorem la_sum3 (c : LC (L := L) w X h) {K : Int64 → AH → Prop} {C : Nat → Int64 → AH → Prop} : ∀ j b x v, x + j = gn (aL (bA X)) → j ≤ b → C 64 (sm3 (bA X) j x v) h → wL_sum_L142 K C (j + 1) b 64 v (nI x) h := by
  have h12 := c.n12
  intro j
  induction j with
  | zero =>
    intro b x v hx _ k
    rw [wL_sum_L142]; dsimp only
    refine ⟨c.r.o, c9_blocks c.r (T := True) ?_⟩
    rw [nI_leI (by omega) (by omega)]
    exact ⟨fun _ => k, fun z => absurd (by omega) z⟩
  | succ j ih =>
    intro b x v hx hb k
    rw [wL_sum_L142]; dsimp only
    refine ⟨c.r.o, c9_blocks c.r (T := True) ?_⟩
    rw [nI_leI (by omega) (by omega)]
    refine ⟨fun z => absurd z (by omega), fun _ => ⟨by omega, ?_⟩⟩
    refine lw_trainAt c.r c.ip c.bn (lw_blockOf c.r c.ip (lw_destination c.r c.ip (lw_delay c.r c.ip (lw_minutesUntilArrival c.r c.ip ?_))))
    rw [nI_add]
    exact ih (b - 1) (x + 1) _ (by omega) (by omega) k
theorem la_sum4 (c : LC (L := L) w X h) {K : Int64 → AH → Prop} : ∀ j b x v, x + j = 8 → j ≤ b → K (sm4 (bA X) j x v) h → wL_sum_L215 K (j + 1) b 64 v (nI x) h := by
  intro j
  induction j with
  | zero =>
    intro b x v hx _ k
    rw [wL_sum_L215]; dsimp only
    rw [nI_leI (by omega) (by omega)]
    exact ⟨fun _ => k, fun z => absurd (by omega) z⟩
  | succ j ih =>
    intro b x v hx hb k
    rw [wL_sum_L215]; dsimp only
    rw [nI_leI (by omega) (by omega)]
    refine ⟨fun z => absurd z (by omega), fun _ => ⟨by omega, lw_queued c.r c.ip c.bn ?_⟩⟩
    rw [nI_add]
    exact ih (b - 1) (x + 1) _ (by omega) (by omega) k
theorem la_sum (c : LC (L := L) w X h) {K : Int64 → AH → Prop} (k : K (smA (bA X)) h) : wL_sum 64 h K := by
  have h12 := c.n12
  unfold wL_sum
  refine ⟨c.r.o, c9_time c.r ⟨c.r.o, c9_arrived c.r ⟨c.r.o, c9_totalDelay c.r ⟨_, gn (aL (bA X)), h12, la_sum1 c _ _ 0 _ (Nat.zero_add _) (Nat.le_refl _) ?_⟩⟩⟩⟩
  refine ⟨_, 8, Nat.le_refl _, la_sum2 c 8 _ 0 _ rfl (Nat.le_refl _) ?_⟩
  refine ⟨_, gn (aL (bA X)), h12, la_sum3 c _ _ 0 _ (Nat.zero_add _) (Nat.le_refl _) ?_⟩
  exact ⟨_, 8, Nat.le_refl _, la_sum4 c 8 _ 0 _ rfl (Nat.le_refl _) k⟩
theorem qQ_at {x : Nat} (hx : x < (aQ A).length) (h8 : (aQ A).length ≤ 8) : lq [-75] (qQ A (nI x)) = nI ((aQ A).getD x 0) := by
  unfold qQ
  rw [iv_j hx (by omega)]
  rfl
theorem iv_no {n x : Nat} (hn : n < 2 ^ 31) (hx : x < 2 ^ 31) (h : n ≤ x) : iv n (nI x) = none := by
  unfold iv
  rw [if_pos (Or.inr (by rw [nI_leI hn hx]; exact h))]
theorem qQ_no {x : Nat} (hx : (aQ A).length ≤ x) (h8 : (aQ A).length ≤ 8) (hx2 : x < 2 ^ 31) : lq [-75] (qQ A (nI x)) = -75 := by
  unfold qQ
  rw [iv_no (by omega) hx2 hx]
  rfl
theorem m75 {v : Nat} (hv : v < 2 ^ 31) : ((-75 : Int32) < nI 0) ∧ ¬ (nI v < nI 0) ∧ ¬ (nI v = -75) ∧ ¬ (nI v = -1) ∧ ((-77 : Int32) < nI 0) := by
  refine ⟨by decide, by rw [lt0_f hv]; exact id, fun z => ?_, fun z => ?_, by decide⟩
  · have := congrArg Int32.toInt z
    rw [nI_toInt hv] at this
    have h2 : (-75 : Int32).toInt = -75 := by decide
    omega
  · have := congrArg Int32.toInt z
    rw [nI_toInt hv] at this
    have h2 : (-1 : Int32).toInt = -1 := by decide
    omega
theorem la_waiting (c : LC (L := L) w X h) (k : K (nI (aQ (bA X)).length) h) : wL_waiting 64 h K := by
  have q8 := c.ip.q8
  have key : ∀ j b x, x + j = (aQ (bA X)).length → j + 1 ≤ b → wL_waiting_L2 K (j + 1) b 64 (nI x) h := by
    intro j
    induction j with
    | zero =>
      intro b x hx hb
      rw [wL_waiting_L2]; dsimp only
      refine ⟨by omega, lw_queued c.r c.ip c.bn ?_⟩
      rw [qQ_no (by omega) q8 (by omega)]
      have e : x = (aQ (bA X)).length := by omega
      exact ⟨fun _ => by rw [e]; exact k, fun z => absurd (by decide) z⟩
    | succ j ih =>
      intro b x hx hb
      rw [wL_waiting_L2]; dsimp only
      refine ⟨by omega, lw_queued c.r c.ip c.bn ?_⟩
      rw [qQ_at (by omega) q8]
      have hq : (aQ (bA X)).getD x 0 < 2 ^ 31 := by
        rw [List.getD_eq_getElem?_getD, List.getElem?_eq_getElem (by omega : x < _)]
        exact q_n c.ip c.bn (List.getElem_mem _)
      refine ⟨fun z => absurd z (m75 hq).2.1, fun _ => ?_⟩
      rw [nI_add]
      exact ih (b - 1) (x + 1) (by omega) (by omega)
  unfold wL_waiting
  exact ⟨_, 9, Nat.le_refl _, key _ 9 0 (Nat.zero_add _) (by omega)⟩
theorem ps1 {α : Type} (u : α) : ¬ ((if (some u).isSome = true then nI 1 else nI 0) = nI 0) := by
  show ¬ nI 1 = nI 0
  decide
theorem tn_lt (i : IP A) (bn : BN A) {t : TG} (ht : t ∈ aT A) : tn t < 2 ^ 31 := by
  have := (i.2.1 t ht).2.2.2.1
  have := bn.1
  omega
theorem fnd_in (i : IP A) (bn : BN A) {t : TG} (ht : t ∈ aT A) : fnd A (nI (tn t)) = some t := by
  have hne : fnd A (nI (tn t)) ≠ none := fun z => by
    unfold fnd at z
    have := List.find?_eq_none.mp z t ht
    simp at this
  cases e : fnd A (nI (tn t)) with
  | none => exact absurd e hne
  | some u =>
    obtain ⟨hu, hn⟩ := fnd_mem e
    rw [nI_eq (tn_lt i bn hu) (tn_lt i bn ht)] at hn
    rw [i.tu ht hu hn]
theorem fnd_no (i : IP A) (bn : BN A) {j : Nat} (hj : j < 2 ^ 31) (h : ∀ t ∈ aT A, tn t ≠ j) : fnd A (nI j) = none := by
  cases e : fnd A (nI j) with
  | none => rfl
  | some u =>
    obtain ⟨hu, hn⟩ := fnd_mem e
    rw [nI_eq (tn_lt i bn hu) hj] at hn
    exact absurd hn (h u hu)
/-- a drawn train: one that is there, or a number that is none's -/
def pkT (A : AG) (v : Int32) (o : Option TG) : Prop := match o with
  | some t => t ∈ aT A ∧ v = nI (tn t)
  | none => v = nI (aC A)
theorem pkT.fnd (i : IP A) (bn : BN A) {v : Int32} {o : Option TG} (p : pkT A v o) : fnd A v = o := by
  unfold pkT at p
  cases o with
  | some t => rw [p.2]; exact fnd_in i bn p.1
  | none =>
    have h9 := bn.1
    rw [p]
    exact fnd_no i bn (by omega) (fun t ht z => by
      have := (i.2.1 t ht).2.2.2.1
      omega)
/-- one train fewer has a number that is no smaller -/
theorem fl_one {T : List TG} (pw : T.Pairwise (fun t u => tn t < tn u ∧ ∀ b ∈ th_ t, b ∉ th_ u)) {u : TG} (hu : u ∈ T) : (T.filter (fun t => decide (tn u ≤ tn t))).length = (T.filter (fun t => decide (tn u + 1 ≤ tn t))).length + 1 := by
  induction T with
  | nil => cases hu
  | cons a T ih =>
    obtain ⟨h1, h2⟩ := List.pairwise_cons.mp pw
    rcases List.mem_cons.mp hu with e | e
    · subst e
      rw [List.filter_cons_of_pos (by simp), List.filter_cons_of_neg (by simp), List.length_cons]
      congr 2
      exact List.filter_congr (fun t ht => by
        have := (h1 t ht).1
        exact decide_eq_decide.mpr (by omega))
    · have := (h1 u e).1
      rw [List.filter_cons_of_neg (by simp; omega), List.filter_cons_of_neg (by simp; omega)]
      exact ih h2 e
theorem fl_drop (i : IP A) {u : TG} (hu : u ∈ aT A) : ((aT A).filter (fun t => decide (tn u ≤ tn t))).length = ((aT A).filter (fun t => decide (tn u + 1 ≤ tn t))).length + 1 := fl_one i.2.2.1 hu
theorem la_trainOf_l (c : LC (L := L) w X h) {cm : Int32} (k : ∀ t, t ∈ aT (bA X) → K (nI (tn t)) h) : ∀ n l t, t + n = aC (bA X) → l < ((aT (bA X)).filter (fun u => decide (t ≤ tn u))).length → wL_trainOf_L26 K (n + 2) 64 cm (nI 0) (nI l) (nI t) h := by
  have i := c.ip
  have bn := c.bn
  have h9 := bn.1
  intro n
  induction n with
  | zero =>
    intro l t ht hl
    exfalso
    have : (aT (bA X)).filter (fun u => decide (t ≤ tn u)) = [] := List.filter_eq_nil_iff.mpr (fun u hu => by
      have := (i.2.1 u hu).2.2.2.1
      simp; omega)
    rw [this] at hl
    exact absurd hl (Nat.not_lt_zero _)
  | succ n ih =>
    intro l t ht hl
    have hl8 : l < 8 := Nat.lt_of_lt_of_le hl (Nat.le_trans (List.length_filter_le _ _) i.1)
    rw [wL_trainOf_L26]; dsimp only
    refine ⟨fun z => absurd z (m75 (by omega)).2.1, fun _ => ⟨c.r.o, c9_isPresent c.r i ?_⟩⟩
    by_cases hp : ∃ u ∈ aT (bA X), tn u = t
    · obtain ⟨u, hu, e⟩ := hp
      subst e
      rw [fnd_in i bn hu]
      refine ⟨fun z => absurd z (ps1 _), fun _ => ?_⟩
      unfold wL_trainOf_J47
      by_cases l0 : l = 0
      · subst l0
        refine ⟨fun _ => ?_, fun z => absurd (by decide) z⟩
        rw [show nI 0 - nI 1 = (-1 : Int32) by decide, nI_add, wL_trainOf_L26]; dsimp only
        refine ⟨fun _ => ⟨c.r.o, c9_trains c.r ⟨fun z => ?_, fun _ => ⟨fun _ => k u hu, fun z => absurd rfl z⟩⟩⟩, fun z => absurd (by decide) z⟩
        rw [nI_z (by have := i.1; omega)] at z
        have := List.length_pos_of_mem hu
        omega
      · rw [nI_sub (by omega)]
        refine ⟨fun z => absurd z (m75 (by omega)).2.1, fun _ => ?_⟩
        rw [nI_add]
        refine ih (l - 1) (tn u + 1) (by omega) ?_
        have e := fl_drop i hu
        omega
    · have hn : ∀ u ∈ aT (bA X), tn u ≠ t := fun u hu z => hp ⟨u, hu, z⟩
      rw [fnd_no i bn (by omega) hn]
      refine ⟨fun _ => ?_, fun z => absurd rfl z⟩
      unfold wL_trainOf_J47
      rw [nI_sub (Nat.zero_le l), Nat.sub_zero]
      refine ⟨fun z => absurd z (m75 (by omega)).2.1, fun _ => ?_⟩
      rw [nI_add]
      refine ih l (t + 1) (by omega) ?_
      have e : (aT (bA X)).filter (fun u => decide (t + 1 ≤ tn u)) = (aT (bA X)).filter (fun u => decide (t ≤ tn u)) := List.filter_congr (fun u hu => by
        have := hn u hu
        exact decide_eq_decide.mpr (by omega))
      rw [e]
      exact hl
theorem la_trainOf (c : LC (L := L) w X h) {pl : Nat} (hp : pl < 2 ^ 31) {z : Int32} (hz : isB z) (k : ∀ v o, pkT (bA X) v o → K v h) : wL_trainOf 64 (nI (aC (bA X))) (nI pl) z h K := by
  have i := c.ip
  have h8 := i.1
  have kn : K (nI (aC (bA X))) h := k _ none rfl
  unfold wL_trainOf
  refine ⟨c.r.o, c9_trains c.r ⟨fun e => ⟨1, ?_⟩, fun e => ?_⟩⟩
  · rw [wL_trainOf_L26]; dsimp only
    exact ⟨fun _ => ⟨c.r.o, c9_trains c.r ⟨fun _ => kn, fun z => absurd e z⟩⟩, fun z => absurd (by decide) z⟩
  · have hT : 0 < (aT (bA X)).length := by
      rw [nI_z (by omega)] at e
      omega
    rcases hz with rfl | rfl
    · refine ⟨fun _ => ⟨c.r.o, c9_trains c.r ⟨e, ?_⟩⟩, fun z => absurd rfl z⟩
      rw [nI_rem hp (by omega) hT]
      refine ⟨_, la_trainOf_l c (fun t ht => k _ (some t) ⟨ht, rfl⟩) (aC (bA X)) _ 0 (Nat.zero_add _) ?_⟩
      rw [List.filter_eq_self.mpr (fun u _ => by simp)]
      exact Nat.mod_lt _ hT
    · refine ⟨fun z => absurd z (by decide), fun _ => ⟨1, ?_⟩⟩
      rw [wL_trainOf_L26]; dsimp only
      exact ⟨fun _ => ⟨c.r.o, c9_trains c.r ⟨fun z => absurd z e, fun _ => ⟨fun z => absurd z (by decide), fun _ => kn⟩⟩⟩, fun z => absurd (by decide) z⟩
end LCX
