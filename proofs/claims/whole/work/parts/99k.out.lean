/-! THE MODEL'S OUTPUT -/
section MOU
variable {h0 h g : AH} {A : AG} {X : BG} {o : List Nat} {v : Nat}
theorem m_writes (s : sM h) (q : otM h o) (ho : o.length < 80) {c : Nat} {K : AH → Prop} (k : ∀ g, mf [613] [16] h g → otM g (o ++ [c]) → K g) : wX10_writes 606 (nI c) h K := by
  have nz13 : (nZ ≤ 613) = True := eq_true (by decide)
  unfold wX10_writes
  simp (disch := omega) only [s.o, s.r9, s.a13, s.l13, nz13, q.1, nI_add, pk_mul, nI_clamp, nI_leI, nI_ltI, nI_eq, vp_in_nI, true_and, forall_eq]
  have e16 : mI (uI h 613 o.length (nI c)) 606 16 = nI o.length := by rw [mI_o (by decide)]; exact q.1
  rw [e16, nI_add]
  refine k _ ((mf.ui (by decide) (by decide)).tr (mf.uf (by decide))) ⟨by rw [mI_uI, if_pos ⟨rfl, rfl⟩, List.length_append]; rfl, fun i d hd => ?_⟩
  have hi := (List.getElem?_eq_some_iff.mp hd).1
  simp at hi
  rw [mI_o (by decide), mI_up]
  by_cases z : i < o.length
  · rw [List.getElem?_append_left z] at hd
    rw [ups_o (by omega)]; exact q.2 i d hd
  · have ei : i = o.length := by omega
    rw [ei, List.getElem?_append_right (Nat.le_refl _), Nat.sub_self] at hd
    have : d = c := by simpa using hd.symm
    rw [ei, ups_s, this]
theorem m_J62 (s : sM h) (q : otM h o) (hv : v < 10000) (ho : o.length < 80) {K : AH → Prop} (k : ∀ g, mf [613] [16] h g → otM g (o ++ [48 + v % 10]) → K g) : wX10_writesNumber_J62 K 606 (nI v) h := by
  unfold wX10_writesNumber_J62
  rw [pk_rem (by omega) (by decide) (by decide), nI_add]
  exact ⟨s.o, m_writes s q ho k⟩
theorem m_J42 (s : sM h) (q : otM h o) (hv : v < 10000) (ho : o.length < 79) {K : AH → Prop} (k : ∀ g, mf [613] [16] h g → otM g (o ++ ((if 9 < v then [48 + v / 10 % 10] else []) ++ [48 + v % 10])) → K g) : wX10_writesNumber_J42 K 606 (nI v) h := by
  unfold wX10_writesNumber_J42
  rw [nI_leI (by omega) (by decide)]
  refine ⟨fun z => ?_, fun z => ⟨s.o, ?_⟩⟩
  · rw [if_neg (by omega), List.nil_append] at k
    exact m_J62 s q hv (by omega) k
  · rw [if_pos (by omega)] at k
    rw [pk_div (by omega) (by decide) (by decide), pk_rem (by omega) (by decide) (by decide), nI_add]
    refine m_writes s q (by omega) (fun g c q2 => m_J62 (c.s s) q2 hv (by simp; omega) (fun g2 c2 q3 => k g2 (c.tr c2) ?_))
    rw [List.append_assoc] at q3
    exact q3
theorem m_J22 (s : sM h) (q : otM h o) (hv : v < 10000) (ho : o.length < 78) {K : AH → Prop} (k : ∀ g, mf [613] [16] h g → otM g (o ++ ((if 99 < v then [48 + v / 100 % 10] else []) ++ ((if 9 < v then [48 + v / 10 % 10] else []) ++ [48 + v % 10]))) → K g) : wX10_writesNumber_J22 K 606 (nI v) h := by
  unfold wX10_writesNumber_J22
  rw [nI_leI (by omega) (by decide)]
  refine ⟨fun z => ?_, fun z => ⟨s.o, ?_⟩⟩
  · rw [if_neg (by omega), List.nil_append] at k
    exact m_J42 s q hv (by omega) k
  · rw [if_pos (by omega)] at k
    rw [pk_div (by omega) (by decide) (by decide), pk_rem (by omega) (by decide) (by decide), nI_add]
    refine m_writes s q (by omega) (fun g c q2 => m_J42 (c.s s) q2 hv (by simp; omega) (fun g2 c2 q3 => k g2 (c.tr c2) ?_))
    rw [List.append_assoc] at q3
    exact q3
theorem m_num (s : sM h) (q : otM h o) (hv : v < 10000) (ho : o.length < 77) {K : AH → Prop} (k : ∀ g, mf [613] [16] h g → otM g (o ++ nch v) → K g) : wX10_writesNumber 606 (nI v) h K := by
  unfold nch at k
  unfold wX10_writesNumber
  rw [nI_leI (by omega) (by decide)]
  refine ⟨fun z => ?_, fun z => ⟨s.o, ?_⟩⟩
  · rw [if_neg (by omega), List.nil_append] at k
    exact m_J22 s q hv (by omega) k
  · rw [if_pos (by omega)] at k
    rw [pk_div (by omega) (by decide) (by decide), pk_rem (by omega) (by decide) (by decide), nI_add]
    refine m_writes s q (by omega) (fun g c q2 => m_J22 (c.s s) q2 hv (by simp; omega) (fun g2 c2 q3 => k g2 (c.tr c2) ?_))
    rw [List.append_assoc] at q3
    exact q3
theorem stc_E (i : IMs A) (b : Nat) : (stc A b = 111 → ∃ t, hold A b = some t ∧ ocE A b = tn t + 1) ∧ (stc A b = 114 → ∃ t, hold A b = some t ∧ rsE A b = tn t + 1) := by
  have hE := hold_E i b
  constructor
  · intro z
    obtain ⟨t, ht⟩ := hold_of (Or.inl z)
    have h1 : ocE A b ≠ 0 := fun y => by
      have y := oc_z.mp y
      unfold stc at z
      rw [y] at z
      split at z
      · omega
      · split at z
        · omega
        · exact absurd z (by decide)
    rw [ht, if_neg h1] at hE
    exact ⟨t, ht, hE.symm⟩
  · intro z
    obtain ⟨t, ht⟩ := hold_of (Or.inr z)
    have h1 : resv A b = true := by
      unfold stc at z
      split at z
      · omega
      · split at z
        · assumption
        · split at z
          · omega
          · omega
    have h2 : ocE A b = 0 := oc_z.mpr (occ_resv i h1)
    rw [ht, if_pos h2] at hE
    exact ⟨t, ht, hE.symm⟩
theorem RMb.txt (q : RMb h X) (c : mf [613] [0, 16] h g) (o : List Nat) (qo : otM g o) : RMb g (wO_ X o) := by
  obtain ⟨s, q1, q2, q3, q4, q5, q6⟩ := q
  exact ⟨c.s s, q1.fr c (by decide), q2.fr c (by decide) (by decide), q3.fr c (by decide) (by decide), q4.fr c (by decide) (by decide), qo, q6.fr c (by decide) (by decide) (by decide) (by decide)⟩
theorem m_wb_l (s : sM h0) (i : IMs A) (r : rm (mI h0 607) A) {K : Int32 → AH → Prop} (kk : ∀ g, mf [613] [0, 16] h0 g → mI g 606 0 = nI 0 → otM g (owB A) → K (nI (owB A).length) g) : ∀ n x g, x + n = gn (aL A) → mf [613] [0, 16] h0 g → mI g 606 0 = nI 0 → otM g ((List.range x).flatMap (bch A)) → wX10_writeBlocks_L12 K (n + 1) 606 (nI x) g := by
  have h12 := i.1.1
  intro n
  induction n with
  | zero =>
    intro x g hx c e0 q
    have hx' : x = gn (aL A) := hx
    have s' := c.s s
    have r' := r.fr c (by decide)
    rw [wX10_writeBlocks_L12]; dsimp only
    simp (disch := omega) only [s'.o, s'.r1, s'.a7, s'.l7, nI_add, pk_mul, nI_clamp, nI_leI, nI_ltI, nI_eq, vp_in_nI, true_and, r'.1.1, q.1]
    refine ⟨fun _ => ?_, fun z => absurd (by omega) z⟩
    subst hx'
    exact kk g c e0 q
  | succ n ih =>
    intro x g hx c e0 q
    have hxl : x < gn (aL A) := by omega
    have s' := c.s s
    have r' := r.fr c (by decide)
    have hl5 := fm_l (bch_l A) x
    have hst := stc_le A x
    have fin : ∀ g2, mf [613] [16] g g2 → otM g2 ((List.range (x + 1)).flatMap (bch A)) → wX10_writeBlocks_L12 K (n + 1) 606 (nI (x + 1)) g2 := fun g2 c2 q2 => ih (x + 1) g2 (by omega) (c.tr (c2.mo (by decide) (by decide))) (by rw [c2.f (by decide)]; exact e0) q2
    rw [wX10_writeBlocks_L12]; dsimp only
    simp (disch := omega) only [s'.o, s'.r1, s'.a7, s'.l7, nI_add, pk_mul, nI_clamp, nI_leI, nI_ltI, nI_eq, vp_in_nI, true_and, r'.1.1, m_look s' i r' (show x < 12 by omega)]
    refine ⟨fun z => absurd z (by omega), fun _ => m_writes s' q (by omega) (fun g2 c2 q2 => ?_)⟩
    have s2 := c2.s s'
    have r2 := r'.fr c2 (by decide)
    have e4 := (r2.2.2.2.2.1.1 x (by omega)).1
    have e5 := (r2.2.2.2.2.1.1 x (by omega)).2
    refine ⟨fun z => ?_, fun z => ?_⟩
    · unfold wX10_writeBlocks_J51
      rw [nI_eq (by omega) (by decide), nI_add]
      refine ⟨fun z2 => fin g2 c2 ?_, fun z2 => ⟨s2.o, ?_⟩⟩
      · rw [fm_s]
        unfold bch
        rw [if_neg (by omega)]
        exact q2
      · obtain ⟨t, ht, hE⟩ := (stc_E i x).2 z2
        have htn := i.tn (List.mem_of_find?_eq_some ht)
        rw [m_block s2 (by omega) (by decide), e5, hE, nI_sub (by omega), Nat.add_sub_cancel]
        refine ⟨s2.o, m_num s2 q2 (by omega) (by rw [List.length_append, List.length_singleton]; omega) (fun g3 c3 q3 => fin g3 (c2.tr c3) ?_)⟩
        rw [fm_s]
        unfold bch
        rw [if_pos (Or.inr z2), ht]
        rw [List.append_assoc] at q3
        exact q3
    · obtain ⟨t, ht, hE⟩ := (stc_E i x).1 z
      have htn := i.tn (List.mem_of_find?_eq_some ht)
      refine ⟨s2.o, ?_⟩
      rw [m_block s2 (by omega) (by decide), e4, hE, nI_sub (by omega), Nat.add_sub_cancel]
      refine ⟨s2.o, m_num s2 q2 (by omega) (by rw [List.length_append, List.length_singleton]; omega) (fun g3 c3 q3 => ?_)⟩
      unfold wX10_writeBlocks_J51
      rw [nI_eq (by omega) (by decide), nI_add]
      refine ⟨fun z2 => fin g3 (c2.tr c3) ?_, fun z2 => absurd z2 (by omega)⟩
      rw [fm_s]
      unfold bch
      rw [if_pos (Or.inl z), ht]
      rw [List.append_assoc] at q3
      exact q3
theorem m9_writeBlocks (q : RMb h X) (i : IMs (bA X)) {K : Int32 → AH → Prop} (kk : ∀ g, chi 606 619 h g → RMb g (wO_ X (owB (bA X))) → K (nI (owB (bA X)).length) g) : wX10_writeBlocks 606 h K := by
  unfold wX10_writeBlocks
  refine ⟨q.1.o, fun g1 hg1 g2 hg2 => ⟨gn (aL (bA X)) + 1, ?_⟩⟩
  have c : mf [613] [0, 16] h g2 := by rw [hg2, hg1]; exact (mf.uf (by decide)).tr (mf.uf (by decide))
  refine m_wb_l q.1 i q.2.1 (fun g c e0 qo => kk g (mf_x c (by decide)) (q.txt c _ qo)) (gn (aL (bA X))) 0 g2 (by omega) c ?_ ⟨?_, fun i c hc => ?_⟩
  · rw [hg2, mI_uI, if_neg (by omega), hg1, mI_uI, if_pos ⟨rfl, rfl⟩]
  · rw [hg2, mI_uI, if_pos ⟨rfl, rfl⟩]; rfl
  · simp at hc
theorem m_wt_l (s : sM h0) (k : GK A) (i : IMs A) (r : rm (mI h0 607) A) {j : Nat} {t : TG} (hj : (aT A)[j]? = some t) {pre : List Nat} (hp : pre.length ≤ 10) {K : Int32 → AH → Prop} (kk : ∀ g, mf [613] [0, 16] h0 g → mI g 606 0 = nI 0 → otM g (pre ++ (if tr t = [] then [63] ++ nch (td t) else (tr t).flatMap (fun b => 62 :: nch b))) → K (nI (pre ++ (if tr t = [] then [63] ++ nch (td t) else (tr t).flatMap (fun b => 62 :: nch b))).length) g) : ∀ n x g, x + n = (tr t).length → mf [613] [0, 16] h0 g → mI g 606 0 = nI 0 → otM g (pre ++ ((tr t).take x).flatMap (fun b => 62 :: nch b)) → wX10_writeTrain_L57 K (n + 1) 606 (nI j) (nI (x + 1)) g := by
  have h12 := k.1.1
  obtain ⟨j8, tm⟩ := i.j8 hj
  obtain ⟨hl, hm⟩ := k.tr12 tm
  have htd := (k.2.2.2.1 t tm).2.1
  have hlen : ∀ l : List Nat, (∀ y ∈ l, y < 12) → (l.flatMap (fun b => 62 :: nch b)).length ≤ 3 * l.length := by
    intro l
    induction l with
    | nil => intro _; exact Nat.le_refl 0
    | cons b l ih =>
      intro hb
      have h1 := ih (fun y hy => hb y (List.mem_cons_of_mem _ hy))
      have h2 := nch_2 (hb b List.mem_cons_self)
      rw [List.flatMap_cons, List.length_append, List.length_cons, List.length_cons]
      omega
  intro n
  induction n with
  | zero =>
    intro x g hx c e0 q
    have hx' : x = (tr t).length := hx
    have s' := c.s s
    have r' := r.fr c (by decide)
    have e := r'.t j8 hj
    have e6 := e.2.2.2.2.2.2.1
    rw [hx', List.take_length] at q
    rw [wX10_writeTrain_L57]; dsimp only
    by_cases hr : tr t = []
    · have hx0 : x = 0 := by rw [hx', hr]; rfl
      rw [if_pos hr] at e6
      have e3 := e.2.2.2.1
      rw [if_pos hr] at e3
      rw [hr, List.flatMap_nil, List.append_nil] at q
      rw [hx0]
      simp (disch := omega) only [s'.o, m_train s' j8, e6, e3, nI_add, pk_mul, nI_clamp, nI_leI, nI_ltI, nI_eq, vp_in_nI, true_and]
      refine ⟨fun _ => ⟨fun z => absurd trivial z, fun _ => m_writes s' q (by omega) (fun g2 c2 q2 => ?_)⟩, fun z => absurd (by omega) z⟩
      have s2 := c2.s s'
      have e2 := ((r'.fr c2 (by decide)).t j8 hj).2.2.1
      simp (disch := omega) only [s2.o, m_train s2 j8, e2, true_and]
      refine m_num s2 q2 (by omega) (by simp; omega) (fun g3 c3 q3 => ?_)
      have s3 := c3.s s2
      rw [List.append_assoc] at q3
      have := kk g3 (c.tr ((c2.tr c3).mo (by decide) (by decide))) (by rw [c3.f (by decide), c2.f (by decide)]; exact e0) (by rw [if_pos hr]; exact q3)
      rw [if_pos hr] at this
      rw [q3.1]
      exact ⟨s3.o, this⟩
    · rw [if_neg hr] at e6
      have e3 := e.2.2.2.1
      rw [if_neg hr] at e3
      simp (disch := omega) only [s'.o, m_train s' j8, e6, e3, nI_add, pk_mul, nI_clamp, nI_leI, nI_ltI, nI_eq, vp_in_nI, true_and]
      refine ⟨fun _ => ⟨fun _ => ?_, fun z => absurd z (by decide)⟩, fun z => absurd (by omega) z⟩
      have := kk g c e0 (by rw [if_neg hr]; exact q)
      rw [if_neg hr] at this
      rw [q.1]
      exact this
  | succ n ih =>
    intro x g hx c e0 q
    have hxl : x < (tr t).length := by omega
    have hr : tr t ≠ [] := fun z => by rw [z] at hxl; exact absurd hxl (Nat.not_lt_zero _)
    have s' := c.s s
    have r' := r.fr c (by decide)
    have e := r'.t j8 hj
    have e6 := e.2.2.2.2.2.2.1
    rw [if_neg hr] at e6
    have hc : (th_ t)[x + 1]? = some (tr t)[x] := by
      show (tb t :: tr t)[x + 1]? = _
      rw [List.getElem?_cons_succ]
      exact List.getElem?_eq_getElem hxl
    have hb := hm _ (List.getElem_mem hxl)
    have hL := hlen ((tr t).take x) (fun y hy => by have := hm y (List.mem_of_mem_take hy); omega)
    rw [List.length_take] at hL
    rw [wX10_writeTrain_L57]; dsimp only
    simp (disch := omega) only [s'.o, m_train s' j8, e6, nI_add, pk_mul, nI_clamp, nI_leI, nI_ltI, nI_eq, vp_in_nI, true_and]
    refine ⟨fun z => absurd z (by omega), fun _ => m_writes s' q (by rw [List.length_append]; omega) (fun g2 c2 q2 => ?_)⟩
    have s2 := c2.s s'
    have e7 := ((r'.fr c2 (by decide)).t j8 hj).2.2.2.2.2.2.2 hr _ _ hc
    simp (disch := omega) only [s2.o, m_train s2 j8, e7, nI_add, pk_mul, nI_clamp, nI_leI, nI_ltI, nI_eq, vp_in_nI, true_and]
    refine m_num s2 q2 (by omega) (by rw [List.length_append, List.length_append, List.length_singleton]; omega) (fun g3 c3 q3 => ?_)
    refine ih (x + 1) g3 (by omega) (c.tr ((c2.tr c3).mo (by decide) (by decide))) (by rw [c3.f (by decide), c2.f (by decide)]; exact e0) ?_
    rw [List.take_add_one, List.getElem?_eq_getElem hxl, Option.toList_some, List.flatMap_append, List.flatMap_singleton]
    rw [List.append_assoc, List.append_assoc] at q3
    exact q3
theorem m9_writeTrain (q : RMb h X) (k : GK (bA X)) (hC : aC (bA X) ≤ 9000) {x : Int32} {K : Int32 → AH → Prop} (kk : ∀ t, fnd (bA X) x = some t → ∀ g, chi 606 619 h g → RMb g (wO_ X (owT t)) → mI g 606 0 = nI 0 → K (nI (owT t).length) g) (kT : fnd (bA X) x = none → ∀ g, chi 606 619 h g → RMb g X → mI g 606 0 = nI 1 → K (nI 0) g) : wX10_writeTrain 606 x h K := by
  have h12 := k.1.1
  have i := k.ims hC
  unfold wX10_writeTrain
  refine ⟨q.1.o, m_placeOf q.1 i q.2.1 (fun hf => ⟨fun z => absurd rfl z, fun _ => ?_⟩) (fun j t ht hf hx => ?_)⟩
  · unfold wX10_writeTrain_J17
    refine ⟨q.1.o, fun g1 hg1 => ⟨q.1.o, ?_⟩⟩
    have c : mf [614, 615, 616, 617, 618] [0, 20] h g1 := by rw [hg1]; exact mf.uf (by decide)
    have e0 : mI g1 606 0 = nI 1 := by rw [hg1, mI_uI, if_pos ⟨rfl, rfl⟩]
    rw [e0]
    exact ⟨fun z => absurd z (by decide), fun _ => kT hf g1 (mf_x c (by decide)) (q.ask c) e0⟩
  · obtain ⟨j8, tm⟩ := i.j8 ht
    have htn := i.tn tm
    have htb := (k.2.2.2.1 t tm).1
    have n4 := nch_l (tn t)
    have n2 := nch_2 (c := tb t) (by omega)
    refine ⟨fun _ => ?_, fun z => absurd z (by rw [nI_nem (by omega)]; exact id)⟩
    unfold wX10_writeTrain_J17
    refine ⟨q.1.o, fun g1 hg1 => ⟨q.1.o, ?_⟩⟩
    have c : mf [613] [0, 16] h g1 := by rw [hg1]; exact mf.uf (by decide)
    have e0 : mI g1 606 0 = nI 0 := by rw [hg1, mI_uI, if_pos ⟨rfl, rfl⟩]
    rw [e0]
    refine ⟨fun _ g2 hg2 => ?_, fun z => absurd (by decide) z⟩
    have c2 : mf [613] [16] g1 g2 := by rw [hg2]; exact mf.uf (by decide)
    have q2 : otM g2 [] := ⟨by rw [hg2, mI_uI, if_pos ⟨rfl, rfl⟩]; rfl, fun i c hc => by simp at hc⟩
    have s2 := c2.s (c.s q.1)
    rw [← hx]
    refine m_num s2 q2 (by omega) (by decide) (fun g3 c3 q3 => ?_)
    have s3 := c3.s s2
    refine ⟨s3.o, m_writes s3 q3 (by rw [List.nil_append]; omega) (fun g4 c4 q4 => ?_)⟩
    have s4 := c4.s s3
    have C4 : mf [613] [0, 16] h g4 := c.tr (((c2.tr c3).tr c4).mo (by decide) (by decide))
    have e1 := ((q.2.1.fr C4 (by decide)).t j8 ht).2.1
    simp (disch := omega) only [s4.o, m_train s4 j8, e1, true_and]
    rw [List.nil_append] at q4
    refine m_num s4 q4 (by omega) (by rw [List.length_append, List.length_singleton]; omega) (fun g5 c5 q5 => ⟨(tr t).length + 1, ?_⟩)
    have ew : owT t = (nch (tn t) ++ [64] ++ nch (tb t)) ++ (if tr t = [] then [63] ++ nch (td t) else (tr t).flatMap (fun b => 62 :: nch b)) := rfl
    refine m_wt_l (pre := nch (tn t) ++ [64] ++ nch (tb t)) q.1 k i q.2.1 ht (by simp only [List.length_append, List.length_singleton]; omega) (fun g c e0 qo => ?_) (tr t).length 0 g5 (by omega) (C4.tr (c5.mo (by decide) (by decide))) (by rw [c5.f (by decide), c4.f (by decide), c3.f (by decide), c2.f (by decide)]; exact e0) (by rw [List.take_zero, List.flatMap_nil, List.append_nil]; exact q5)
    have := kk t hf g (mf_x c (by decide))
    rw [ew] at this
    exact this (q.txt c _ qo) e0
theorem m9_charAt (q : RMb h X) (hl : (bO X).length < 2 ^ 30) (hl80 : (bO X).length ≤ 80) (hc : ∀ j, j < (bO X).length → ∃ c, c < 128 ∧ nI ((bO X).getD j 0) = nI c) {x : Int32} {K : Int32 → AH → Prop} (kk : mqK h X (qCh X x) K) : wX10_charAt 606 x h K := by
  have s := q.1
  have q16 := q.2.2.2.2.2.1
  unfold wX10_charAt
  unfold qCh at kk
  rw [q16.1]
  refine ⟨s.o, ?_⟩
  rw [m_inS hl]
  refine (iv_if (P := _) (Q := _) (fun e => ?_) (fun j hj ej e => ?_) (by omega)).symm
  · unfold wX10_charAt_J20
    refine ⟨s.o, fun g1 hg1 => ⟨s.o, ?_⟩⟩
    have c : mf [614, 615, 616, 617, 618] [0, 20] h g1 := by rw [hg1]; exact mf.uf (by decide)
    have e0 : mI g1 606 0 = nI 1 := by rw [hg1, mI_uI, if_pos ⟨rfl, rfl⟩]
    rw [e0]
    rw [e] at kk
    exact ⟨fun z => absurd z (by decide), fun _ => kk.to q c e0⟩
  · unfold wX10_charAt_J20
    refine ⟨s.o, fun g1 hg1 => ⟨s.o, ?_⟩⟩
    have c : mf [614, 615, 616, 617, 618] [0, 20] h g1 := by rw [hg1]; exact mf.uf (by decide)
    have e0 : mI g1 606 0 = nI 0 := by rw [hg1, mI_uI, if_pos ⟨rfl, rfl⟩]
    rw [e0]
    rw [e] at kk
    subst ej
    have hcc : (bO X)[j]? = some ((bO X).getD j 0) := by
      rw [List.getD_eq_getElem?_getD, List.getElem?_eq_getElem hj]; rfl
    obtain ⟨m, hm, em⟩ := hc j hj
    have e13 : mI g1 613 j = nI m := by rw [c.c (by decide) (by decide), ← em]; exact q16.2 j _ hcc
    have h2 : ((nI m).toUInt32 % 65536).toInt32 = nI m := by
      have : ∀ m, m < 128 → ((nI m).toUInt32 % 65536).toInt32 = nI m := by decide +kernel
      exact this _ hm
    have h3 : narrow .char (.int (nI m)) = .int (nI m) := by
      have : ∀ m, m < 128 → narrow .char (.int (nI m)) = .int (nI m) := by decide +kernel
      exact this _ hm
    refine ⟨fun _ => ?_, fun z => absurd (by decide) z⟩
    simp (disch := omega) only [s.r9, s.a13, s.l13, nI_add, pk_mul, nI_clamp, nI_leI, nI_ltI, nI_eq, vp_in_nI, true_and, e13, h2, h3]
    have := kk.to q c e0
    simp only at this
    rw [em] at this
    exact this
end MOU
