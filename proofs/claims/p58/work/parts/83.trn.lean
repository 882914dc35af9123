/-! A TRAIN'S ANSWERS FIT TOGETHER -/
section TRN
variable {h g : AH} {X : BG} {A : AG} {w L : Nat} {K : Int32 → AH → Prop}
theorem pw_dis {T : List TG} (pw : T.Pairwise (fun t u => tn t < tn u ∧ ∀ b ∈ th_ t, b ∉ th_ u)) {t u : TG} (ht : t ∈ T) (hu : u ∈ T) (hne : tn t ≠ tn u) : ∀ b ∈ th_ t, b ∉ th_ u := by
  induction T with
  | nil => cases ht
  | cons a T ih =>
    obtain ⟨h1, h2⟩ := List.pairwise_cons.mp pw
    rcases List.mem_cons.mp ht with e | e <;> rcases List.mem_cons.mp hu with e' | e'
    · exact absurd (by rw [e, e']) hne
    · rw [e]; exact (h1 u e').2
    · rw [e']; exact fun b hb hb' => (h1 t e).2 b hb' hb
    · exact ih h2 e e'
theorem ip_dis (i : IP A) {t u : TG} (ht : t ∈ aT A) (hu : u ∈ aT A) {b : Nat} (h1 : b ∈ th_ t) (h2 : b ∈ th_ u) : u = t := by
  by_cases e : tn t = tn u
  · exact i.tu ht hu e.symm
  · exact absurd h2 (pw_dis i.2.2.1 ht hu e b h1)
theorem hold_in (i : IP A) {t : TG} (ht : t ∈ aT A) {b : Nat} (hb : b ∈ th_ t) : hold A b = some t := by
  unfold hold
  cases e : (aT A).find? (fun t => decide (b ∈ th_ t)) with
  | none =>
    have := List.find?_eq_none.mp e t ht
    simp [hb] at this
  | some u =>
    have h1 := List.mem_of_find?_eq_some e
    have h2 := List.find?_some e
    rw [ip_dis i ht h1 hb (of_decide_eq_true h2)]
theorem hold_mem {b : Nat} {t : TG} (e : hold A b = some t) : t ∈ aT A ∧ b ∈ th_ t := ⟨List.mem_of_find?_eq_some e, of_decide_eq_true (by have := List.find?_some e; exact this)⟩
theorem hold_no {b : Nat} (e : hold A b = none) : ∀ t ∈ aT A, b ∉ th_ t := fun t ht z => by
  have := List.find?_eq_none.mp e t ht
  simp [z] at this
theorem tb_th (t : TG) : tb t ∈ th_ t := List.mem_cons_self
theorem tr_th {t : TG} {b : Nat} (h : b ∈ tr t) : b ∈ th_ t := List.mem_cons_of_mem _ h
theorem resv_iff {b : Nat} : resv A b = true ↔ ∃ t ∈ aT A, b ∈ tr t := by
  unfold resv
  rw [List.any_eq_true]
  simp
theorem occ_iff {b : Nat} : occ A b = true ↔ ∃ t ∈ aT A, tb t = b := by
  unfold occ
  rw [List.any_eq_true]
  simp
theorem tb_nr (i : IP A) {t : TG} (ht : t ∈ aT A) : resv A (tb t) = false := by
  cases e : resv A (tb t) with
  | false => rfl
  | true =>
    obtain ⟨u, hu, hb⟩ := resv_iff.mp e
    have := ip_dis i ht hu (tb_th t) (tr_th hb)
    subst this
    have hn := (i.2.1 u hu).2.2.2.2.2.2.2.1
    exact absurd hb (List.nodup_cons.mp hn).1
theorem stc_tb (i : IP A) {t : TG} (ht : t ∈ aT A) : stc A (tb t) = 115 ∨ stc A (tb t) = 111 := by
  unfold stc
  rw [tb_nr i ht, occ_iff.mpr ⟨t, ht, rfl⟩]
  by_cases z : (gh (aL A)).testBit (tb t) = true
  · rw [if_pos z]; exact Or.inl rfl
  · rw [if_neg z]; exact Or.inr rfl
theorem qT_at (i : IP A) (bn : BN A) {t : TG} (ht : t ∈ aT A) (f : TG → Int32) : lq [-75] (qT f A (nI (tn t))) = f t := by
  unfold qT
  rw [fnd_in i bn ht]
  rfl
theorem qR_at (i : IP A) (bn : BN A) {t : TG} (ht : t ∈ aT A) (f : TG → Int32) : lq [-75] (qR f A (nI (tn t))) = if tr t = [] then -75 else f t := by
  unfold qR
  rw [fnd_in i bn ht]
  dsimp only
  by_cases z : tr t = []
  · rw [if_pos z, if_pos z]; rfl
  · rw [if_neg z, if_neg z]; rfl
theorem qAt_th (i : IP A) (n12 : gn (aL A) ≤ 12) {t : TG} (ht : t ∈ aT A) {b : Nat} (hb : b < gn (aL A)) (hm : b ∈ th_ t) : lq [-77, -75] (qAt A (nI b)) = nI (tn t) := by
  unfold qAt
  rw [iv_j hb (by omega)]
  dsimp only
  rw [hold_in i ht hm]
  rfl
theorem qAt_no (n12 : gn (aL A) ≤ 12) {b : Nat} (hb : b < gn (aL A)) (hm : hold A b = none) : lq [-77, -75] (qAt A (nI b)) = -75 := by
  unfold qAt
  rw [iv_j hb (by omega)]
  dsimp only
  rw [hm]
  rfl
theorem qSt_at (n12 : gn (aL A) ≤ 12) {b : Nat} (hb : b < gn (aL A)) : lq [-77] (qState A (nI b)) = nI (stc A b) := by
  unfold qState
  rw [iv_j hb (by omega)]
  rfl
theorem qW_at (i : IP A) (bn : BN A) {t u : TG} (ht : t ∈ aT A) (hu : u ∈ aT A) : lq [-75] (qW A (nI (tn t)) (nI (tn u))) = if tn t ≠ tn u ∧ wts A t u = true then nI 1 else nI 0 := by
  unfold qW
  rw [fnd_in i bn ht, fnd_in i bn hu]
  dsimp only
  unfold lq
  dsimp only
  by_cases z : tn t = tn u
  · rw [if_neg (fun y => y.1 (by rw [z])), if_neg (fun y => y.1 z)]
  · have z' : nI (tn t) ≠ nI (tn u) := fun y => z ((nI_eq (tn_lt i bn ht) (tn_lt i bn hu)).mp y)
    by_cases q : wts A t u = true
    · rw [if_pos ⟨z', q⟩, if_pos ⟨z, q⟩]
    · rw [if_neg (fun y => q y.2), if_neg (fun y => q y.2)]
theorem qC_at (i : IP A) (bn : BN A) {t u : TG} (ht : t ∈ aT A) (hu : u ∈ aT A) : lq [-75, -78] (qC A (nI (tn t)) (nI (tn u))) = if tn t = tn u then -78 else if cfl A t u = true then nI 1 else nI 0 := by
  unfold qC
  rw [fnd_in i bn ht, fnd_in i bn hu]
  dsimp only
  by_cases z : tn t = tn u
  · rw [if_pos (by rw [z]), if_pos z]
    rfl
  · rw [if_neg (fun y => z ((nI_eq (tn_lt i bn ht) (tn_lt i bn hu)).mp y)), if_neg z]
    rfl
theorem can_iff {t : TG} : can A t = true ↔ tr t = [] ∧ rtT A t ≠ [] ∧ ∀ b ∈ rtT A t, fre A b = true := by
  unfold can
  rw [Bool.and_eq_true, Bool.and_eq_true, List.all_eq_true]
  simp [and_assoc]
theorem can_w {t u : TG} (hc : can A t = true) (hu : u ∈ aT A) : wts A t u = false := by
  have h1 := (can_iff.mp hc).2.2
  unfold wts
  have : (rtT A t).any (fun b => decide (b ∈ th_ u)) = false := by
    rw [List.any_eq_false]
    intro b hb
    simp only [decide_eq_true_eq]
    exact fre_f (h1 b hb) hu
  rw [this, Bool.and_false]
theorem wts_r {t u : TG} (hw : wts A t u = true) : tr t = [] := by
  unfold wts at hw
  rw [Bool.and_eq_true] at hw
  exact of_decide_eq_true hw.1
theorem tl_le {T : List TG} {t : TG} (ht : t ∈ T) : tl t ≤ (T.map tl).sum := by
  induction T with
  | nil => cases ht
  | cons a T ih =>
    rw [List.map_cons, List.sum_cons]
    rcases List.mem_cons.mp ht with e | e
    · rw [e]; omega
    · have := ih e; omega
theorem ne78 : ¬ ((-78 : Int32) = nI 0) ∧ ¬ ((-78 : Int32) = nI 1) ∧ ¬ (nI 0 = (-78 : Int32)) ∧ ¬ (nI 1 = (-78 : Int32)) := by decide
theorem la_isTrain_l (c : LC (L := L) w X h) {t : TG} (ht : t ∈ aT (bA X)) {C : Nat → Int32 → Int32 → AH → Prop} (k : ∀ s, (can (bA X) t = true → s = 0) → C 64 (nI (tn t)) (nI s) h) :
    ∀ j b x s, x + j = aC (bA X) → ((aT (bA X)).filter (fun u => decide (x ≤ tn u))).length ≤ b → (can (bA X) t = true → s = 0) → wL_isTrain_L5 K C (j + 1) b 64 (nI (tn t)) (nI (aC (bA X))) (nI s) (nI x) h := by
  have i := c.ip
  have bn := c.bn
  have h9 := bn.1
  intro j
  induction j with
  | zero =>
    intro b x s hx hb hs
    rw [wL_isTrain_L5]; dsimp only
    rw [nI_leI (by omega) (by omega)]
    exact ⟨fun _ => k s hs, fun z => absurd (by omega) z⟩
  | succ j ih =>
    intro b x s hx hb hs
    rw [wL_isTrain_L5]; dsimp only
    rw [nI_leI (by omega) (by omega)]
    refine ⟨fun z => absurd z (by omega), fun _ => ⟨c.r.o, c9_isPresent c.r i ?_⟩⟩
    by_cases hp : ∃ u ∈ aT (bA X), tn u = x
    · obtain ⟨u, hu, e⟩ := hp
      subst e
      have hd := fl_drop i hu
      rw [fnd_in i bn hu]
      refine ⟨fun z => absurd z (ps1 _), fun _ => ⟨by omega, lw_waitsFor c.r i (lw_conflict c.r i ?_)⟩⟩
      rw [qW_at i bn ht hu, qC_at i bn ht hu]
      have J : ∀ s', (can (bA X) t = true → s' = 0) → wL_isTrain_J64 K (wL_isTrain_L5 K C (j + 1) (b - 1)) 64 (nI (tn t)) (nI (aC (bA X))) (nI s') (nI (tn u)) (if tn t = tn u then -78 else if cfl (bA X) t u = true then nI 1 else nI 0) h := by
        intro s' hs'
        have nx : wL_isTrain_L5 K C (j + 1) (b - 1) 64 (nI (tn t)) (nI (aC (bA X))) (nI s') (nI (tn u) + nI 1) h := by
          rw [nI_add]
          exact ih (b - 1) (tn u + 1) s' (by omega) (by omega) hs'
        have J87 : ∀ y, wL_isTrain_J87 K (wL_isTrain_L5 K C (j + 1) (b - 1)) 64 (nI (tn t)) (nI (aC (bA X))) (nI s') (nI (tn u)) (if tn t = tn u then -78 else if cfl (bA X) t u = true then nI 1 else nI 0) y y h := by
          intro y
          unfold wL_isTrain_J87
          refine ⟨fun z => absurd rfl z, fun _ => lw_conflict c.r i ?_⟩
          rw [qC_at i bn hu ht, cfl_s (bA X) u t]
          have e9 : (if tn u = tn t then (-78 : Int32) else if cfl (bA X) t u = true then nI 1 else nI 0) = (if tn t = tn u then -78 else if cfl (bA X) t u = true then nI 1 else nI 0) := by
            by_cases z : tn t = tn u
            · rw [if_pos z, if_pos z.symm]
            · rw [if_neg z, if_neg (fun y => z y.symm)]
          rw [e9]
          exact ⟨fun _ => nx, fun z => absurd rfl z⟩
        unfold wL_isTrain_J64 wL_isTrain_J76
        rw [nI_eq (tn_lt i bn hu) (tn_lt i bn ht)]
        by_cases z : tn t = tn u
        · rw [if_pos z] at J87 ⊢
          exact ⟨fun y => absurd rfl y, fun _ => ⟨fun y => absurd z.symm y, fun _ => J87 _⟩⟩
        · rw [if_neg z] at J87 ⊢
          have hne : ¬ ((if cfl (bA X) t u = true then nI 1 else nI 0) = (-78 : Int32)) := by
            by_cases q : cfl (bA X) t u = true
            · rw [if_pos q]; exact ne78.2.2.2
            · rw [if_neg q]; exact ne78.2.2.1
          exact ⟨fun _ => ⟨fun _ => J87 _, fun y => absurd y.symm z⟩, fun y => absurd y hne⟩
      by_cases q : tn t ≠ tn u ∧ wts (bA X) t u = true
      · rw [if_pos q]
        have hnc : ¬ can (bA X) t = true := fun z => by
          have := can_w z hu
          rw [this] at q
          exact absurd q.2 (by decide)
        refine ⟨fun z => absurd rfl z, fun _ => ⟨fun z => absurd ((nI_eq (tn_lt i bn hu) (tn_lt i bn ht)).mp z).symm q.1, fun _ => lw_hasRoute c.r i ?_⟩⟩
        rw [qT_at i bn ht, if_pos (wts_r q.2), nI_add]
        exact ⟨fun z => absurd z (by decide), fun _ => J (s + 1) (fun z => absurd z hnc)⟩
      · rw [if_neg q]
        refine ⟨fun _ => ?_, fun z => absurd z (by decide)⟩
        rw [nI_add]
        exact J (s + 0) hs
    · have hn : ∀ u ∈ aT (bA X), tn u ≠ x := fun u hu z => hp ⟨u, hu, z⟩
      rw [fnd_no i bn (by omega) hn]
      refine ⟨fun _ => ?_, fun z => absurd rfl z⟩
      rw [nI_add]
      refine ih b (x + 1) s (by omega) ?_ hs
      have e : (aT (bA X)).filter (fun u => decide (x + 1 ≤ tn u)) = (aT (bA X)).filter (fun u => decide (x ≤ tn u)) := List.filter_congr (fun u hu => by
        have := hn u hu
        exact decide_eq_decide.mpr (by omega))
      rw [e]
      exact hb
theorem PX.wo (i : PX w X) (o : List Nat) : PX w (wO_ X o) := i
theorem LC.wo (c : LC (L := L) w X h) {o : List Nat} (ho : o.length ≤ 80) (f : fcl h g) (r : RBc g (wO_ X o)) : LC (L := L) w (wO_ X o) g := ⟨r, c.i, ⟨c.xb.1, c.xb.2.1, c.xb.2.2.1, c.xb.2.2.2.1, ho⟩, c.sf.fcl f, c.sd.fcl f, c.w6, by rw [(f.2.2 63 (Or.inl (by decide))).1]; exact c.s63, c.l260⟩
theorem owT_5 (t : TG) : 5 ≤ (owT t).length := by
  have h1 := (nch_l (tn t)).2
  have h2 := (nch_l (tb t)).2
  unfold owT
  by_cases z : tr t = []
  · rw [if_pos z]
    have h3 := (nch_l (td t)).2
    simp only [List.length_append, List.length_singleton]
    omega
  · rw [if_neg z]
    cases e : tr t with
    | nil => exact absurd e z
    | cons b l =>
      have h3 := (nch_l b).2
      rw [List.flatMap_cons]
      simp only [List.length_append, List.length_cons, List.length_singleton]
      omega
theorem la_isTrain (c : LC (L := L) w X h) {t : TG} (ht : t ∈ aT (bA X)) (k : ∀ g o, fcl h g → LC (L := L) w (wO_ X o) g → K (nI 1) g) : wL_isTrain 64 (nI (tn t)) (nI (aC (bA X))) h K := by
  have i := c.ip
  have bn := c.bn
  have h9 := bn.1
  have n12 := c.n12
  obtain ⟨k1, k2, k3, k4, k5, k6, k7, k8, k9⟩ := i.2.1 t ht
  have J303 : ∀ g, fcl h g → LC (L := L) w X g → wL_isTrain_J303 K 64 (nI (tn t)) (nI 1) (nI 1) (nI 1) g := by
    intro g f cg
    have hl := owT_l cg.gk ht
    unfold wL_isTrain_J303
    refine lw_writeTrain cg.r cg.sd i bn (by have := cg.xb.2.2.2.2; omega) (fnd_in i bn ht) (fun g2 f2 r2 => ?_)
    have c2 := cg.wo hl f2 r2
    refine ⟨fun z => absurd z (by decide), fun _ => ⟨fun z => absurd z (by decide), fun _ => ⟨fun z => absurd z (by decide), fun _ => lw_delay c2.r i ?_⟩⟩⟩
    rw [show bA (wO_ X (owT t)) = bA X from rfl, qT_at i bn ht]
    have htl : tl t < 2 ^ 31 := by
      have := tl_le ht
      have := i.2.2.2.2.2.2
      have := bn.2.2
      omega
    refine ⟨fun z => absurd z (m75 htl).2.1, fun _ => ?_⟩
    rw [nI_ltI (by omega) (by decide)]
    exact ⟨fun z => absurd z (by have := owT_5 t; omega), fun _ => k g2 _ (f.tr f2) c2⟩
  have J230 : wL_isTrain_J230 K 64 (nI (tn t)) (if tr t = [] then nI 0 else nI 1) (nI 1) (nI 1) h := by
    unfold wL_isTrain_J230
    refine lw_minutesUntilArrival c.r i ?_
    rw [qR_at i bn ht]
    by_cases z : tr t = []
    · rw [if_pos z, if_pos z]
      refine ⟨fun _ => ⟨fun y => absurd rfl y, fun _ => lw_minutesUntilNext c.r i ?_⟩, fun y => absurd rfl y⟩
      rw [qR_at i bn ht, if_pos z]
      exact ⟨fun y => absurd rfl y, fun _ => J303 h (fcl.rf h) c⟩
    · rw [if_neg z, if_neg z]
      have hrem := rem_le c.gk ht z
      obtain ⟨q1, q2, q3⟩ := k7 z
      have hdef : rem (bA X) t = tu t - aM (bA X) + sl (aL (bA X)) (tr t).tail := rfl
      refine ⟨fun y => absurd y (by decide), fun _ => lw_minutesUntilNext c.r i ?_⟩
      rw [qR_at i bn ht, if_neg z, nI_ltI (by omega) (by omega)]
      refine ⟨fun y => absurd y (by omega), fun _ => lw_minutesUntilNext c.r i ?_⟩
      rw [qR_at i bn ht, if_neg z, nI_ltI (by omega) (by omega)]
      refine ⟨fun y => absurd y (by omega), fun _ => lw_byPassing c.r c.i c.wb (fun g f r => ?_)⟩
      rw [qR_at i bn ht, if_neg z]
      exact ⟨fun y => absurd rfl y, fun _ => J303 g f (c.fr f r)⟩
  have J185 : ∀ s, (can (bA X) t = true → s = 0) → wL_isTrain_J185 K 64 (nI (tn t)) (nI s) (if tr t = [] then nI 0 else nI 1) (nI 1) h := by
    intro s hs
    unfold wL_isTrain_J185
    refine lw_blockOf c.r i (lw_destination c.r i ?_)
    rw [qT_at i bn ht, qT_at i bn ht]
    refine lw_routeLength c.r (lw_isClear c.r i ?_)
    rw [qT_at i bn ht]
    unfold wL_isTrain_J225
    by_cases hc : can (bA X) t = true
    · rw [if_pos hc]
      obtain ⟨e1, e2, e3⟩ := can_iff.mp hc
      rw [qRL_ok n12 k1 k2 (Or.inr e2), hs hc]
      have hsl := sl_le c.gk.1 _ (rt_len c.gk k1 k2).2.2
      have hl := (rt_len c.gk k1 k2).1
      refine ⟨fun y => absurd y (by decide), fun _ => ⟨fun y => absurd (by rw [if_pos e1]) y, fun _ => ⟨fun y => absurd y (m75 (by omega)).2.1, fun _ => ⟨fun y => absurd rfl y, fun _ => J230⟩⟩⟩⟩
    · rw [if_neg hc]
      exact ⟨fun _ => J230, fun y => absurd rfl y⟩
  unfold wL_isTrain
  refine ⟨_, 8, Nat.le_refl _, la_isTrain_l c ht (fun s hs => ?_) (aC (bA X)) 8 0 0 (Nat.zero_add _) (Nat.le_trans (List.length_filter_le _ _) i.1) (fun _ => rfl)⟩
  refine lw_hasRoute c.r i ?_
  rw [qT_at i bn ht]
  have J124 : wL_isTrain_J124 K 64 (nI (tn t)) (nI s) (if tr t = [] then nI 0 else nI 1) h := by
    unfold wL_isTrain_J124
    refine lw_blockOf c.r i ?_
    rw [qT_at i bn ht]
    refine lw_trainAt c.r i bn ?_
    rw [qAt_th i n12 ht k1 (tb_th t)]
    refine ⟨fun y => absurd rfl y, fun _ => lw_blockOf c.r i ?_⟩
    rw [qT_at i bn ht]
    refine lw_blockState c.r i ?_
    rw [qSt_at n12 k1]
    have hst := stc_tb i ht
    refine ⟨fun y => ?_, fun _ => lw_blockOf c.r i ?_⟩
    · rw [nI_eq (by omega) (by decide)] at y
      omega
    rw [qT_at i bn ht]
    refine lw_blockState c.r i ?_
    rw [qSt_at n12 k1]
    refine ⟨fun y => ?_, fun _ => lw_blockOf c.r i (lw_destination c.r i ?_)⟩
    · rw [nI_eq (by omega) (by decide)] at y
      omega
    rw [qT_at i bn ht, qT_at i bn ht]
    refine ⟨fun y => ?_, fun _ => J185 s hs⟩
    rw [nI_eq (by omega) (by omega)] at y
    exact absurd y k3
  by_cases z : tr t = []
  · rw [if_pos z] at J124 ⊢
    exact ⟨fun _ => J124, fun y => absurd y (by decide)⟩
  · rw [if_neg z] at J124 ⊢
    exact ⟨fun y => absurd rfl y, fun _ => J124⟩
end TRN
