/-! CIRCLES: the class's search over its cells -/
section TH_
variable {h0 h g : AH} {p w n v vis vis0 c e : Nat} {X : BG} {Q : Nat → Nat → Bool} {G : List Nat} {f f0 : Nat → Nat} {P P0 : Nat → Bool}
def TH (h0 : AH) (n : Nat) (Q : Nat → Nat → Bool) (f : Nat → Nat) (P : Nat → Bool) (vis c : Nat) (g : AH) : Prop := chi 583 587 h0 g ∧ mI g 583 0 = nI n ∧ (∀ i, i < n → mI g 584 i = nI (msk (Q i) n)) ∧ (∀ i, i < n → mI g 585 i = nI (f i)) ∧ mI g 583 4 = nI vis ∧ mI g 583 5 = nI (msk P n) ∧ mI g 583 6 = nI c
theorem TH.rb (t : TH h0 n Q f P vis c g) (r : RBp h0 p X) : RBp g p X := r.rel t.1
theorem msk_cg {a b : Nat → Bool} (h : ∀ i, i < n → a i = b i) : msk a n = msk b n := by
  apply Nat.eq_of_testBit_eq
  intro i
  rw [msk_tb, msk_tb]
  by_cases z : i < n
  · rw [h i z]
  · simp [z]
theorem msk_set (hv : v < n) : msk P n ||| 2 ^ v = msk (ups P v true) n := by
  apply Nat.eq_of_testBit_eq
  intro i
  rw [tb_or, msk_tb, msk_tb]
  by_cases z : i = v
  · subst z; rw [ups_s]; simp [hv]
  · have : ¬ v = i := fun y => z y.symm
    rw [ups_o z]; simp [this]
theorem msk_clr (hn : n ≤ 8) {a : Nat → Bool} : clr (msk a n) v = msk (fun i => a i && !decide (i = v)) n := by
  have h1 := msk_lt a n
  have h2 : 2 ^ n ≤ 2 ^ 8 := Nat.pow_le_pow_right (by decide) hn
  apply Nat.eq_of_testBit_eq
  intro i
  rw [clr_bit (by omega), msk_tb, msk_tb]
  by_cases z : i = v
  · subst z; simp
  · have : ¬ v = i := fun y => z y.symm
    simp [z, this]
theorem TI.vn (t : TI n Q G f P vis c) : vis ≤ n := by
  rw [t.2.2.2.2.2.2.2.2.2.2]
  exact cnt_le _ n
theorem TI.cn (t : TI n Q G f P vis c) : c ≤ n := by
  rw [t.2.2.2.2.2.2.2.2.2.1]
  exact cnt_le _ n
theorem c_enterT (t : TH h0 n Q f P vis c g) (r : RBp h0 p X) (hn : n ≤ 8) (hv : v < n) {K : AH → Prop} (k : ∀ g', TH h0 n Q (ups f v (vis + 1)) (ups P v true) (vis + 1) c g' → K g') : wX6_enter 583 (nI v) g K := by
  have s := (t.rb r).1
  obtain ⟨t1, t2, t3, t4, t5, t6, t7⟩ := t
  have hm := msk_lt P n
  have h2 : 2 ^ n ≤ 2 ^ 8 := Nat.pow_le_pow_right (by decide) hn
  unfold wX6_enter
  rw [s.e2, s.e3, s.el2, s.el3, t5, nI_add, nI_clamp (by omega)]
  refine ⟨s.eo, fun g1 e1 => ⟨s.ea2, by decide, vp_in_nI (by omega) (by decide), fun g2 e2 => ⟨s.ea3, by decide, vp_in_nI (by omega) (by decide), fun g3 e3 g4 e4 => ?_⟩⟩⟩
  have v1 : mI g1 583 4 = nI (vis + 1) := by rw [e1, mI_uI, if_pos ⟨rfl, rfl⟩]
  rw [v1] at e2
  have v2 : mI g2 583 4 = nI (vis + 1) := by rw [e2, mI_o (by omega)]; exact v1
  rw [v2] at e3
  have v3 : mI g3 583 5 = nI (msk P n) := by rw [e3, mI_o (by omega), e2, mI_o (by omega), e1, mI_uI, if_neg (by omega)]; exact t6
  rw [v3, n_shl v (by omega), n_or, msk_set hv] at e4
  have f1 : chi 583 587 g g1 := by rw [e1]; exact chi.uI (by omega) (by omega)
  have f2 : chi 583 587 g1 g2 := by rw [e2]; exact chi.uI (by omega) (by omega)
  have f3 : chi 583 587 g2 g3 := by rw [e3]; exact chi.uI (by omega) (by omega)
  have f4 : chi 583 587 g3 g4 := by rw [e4]; exact chi.uI (by omega) (by omega)
  refine k g4 ⟨(((t1.tr f1).tr f2).tr f3).tr f4, ?_, fun i hi => ?_, fun i hi => ?_, ?_, ?_, ?_⟩
  · rw [e4, mI_uI, if_neg (by omega), e3, mI_o (by omega), e2, mI_o (by omega), e1, mI_uI, if_neg (by omega)]; exact t2
  · rw [e4, mI_o (by omega), e3, mI_o (by omega), e2, mI_o (by omega), e1, mI_o (by omega)]; exact t3 i hi
  · rw [e4, mI_o (by omega), e3, mI_o (by omega), e2, mI_uI, e1, mI_o (by omega)]
    by_cases z : i = v
    · subst z; rw [if_pos ⟨rfl, rfl⟩, ups_s]
    · rw [if_neg (fun y => z y.2), ups_o z]; exact t4 i hi
  · rw [e4, mI_uI, if_neg (by omega), e3, mI_o (by omega)]; exact v2
  · rw [e4, mI_uI, if_pos ⟨rfl, rfl⟩]
  · rw [e4, mI_uI, if_neg (by omega), e3, mI_o (by omega), e2, mI_o (by omega), e1, mI_uI, if_neg (by omega)]; exact t7
theorem close_l {g0 : AH} (r : RBp h0 p X) (hn : n ≤ 8) (hf : ∀ i, i < n → f i < 2 ^ 31) (he : e < 2 ^ 31) {K : AH → Prop} (k : ∀ g', chi 583 584 g0 g' → TH h0 n Q f (fun i => P i && !snc f P e i) vis (c + if 1 < (List.range n).countP (snc f P e) then (List.range n).countP (snc f P e) else 0) g' → K g') : ∀ j x g, x + j = n → chi 583 584 g0 g → TH h0 n Q f (fun i => P i && !(decide (i < x) && snc f P e i)) vis c g → wX6_closeSet_L4 K (j + 1) 583 (nI e) (nI ((List.range x).countP (snc f P e))) (nI x) g := by
  intro j
  induction j with
  | zero =>
    intro x g hx cc t
    have hx' : x = n := by omega
    subst hx'
    have s := (t.rb r).1
    have hc := cnt_le (snc f P e) x
    obtain ⟨t1, t2, t3, t4, t5, t6, t7⟩ := t
    have t6' : mI g 583 5 = nI (msk (fun i => P i && !snc f P e i) x) := by
      rw [t6, msk_cg (fun i hi => ?_)]
      simp [hi]
    rw [wX6_closeSet_L4]; dsimp only
    rw [t2]
    refine ⟨s.eo, fun _ => ⟨fun z => ?_, fun z g1 e1 => ?_⟩, fun z => absurd (nI_le (Nat.le_refl _) (by omega)) z⟩
    · rw [nI_leI (by omega) (by decide)] at z
      refine k g cc ⟨t1, t2, t3, t4, t5, t6', ?_⟩
      rw [if_neg (by omega)]
      exact t7
    · rw [nI_leI (by omega) (by decide)] at z
      rw [t7, nI_add] at e1
      refine k g1 (cc.tr (by rw [e1]; exact chi.uI (by omega) (by omega))) ⟨t1.tr (by rw [e1]; exact chi.uI (by omega) (by omega)), ?_, fun i hi => ?_, fun i hi => ?_, ?_, ?_, ?_⟩
      · rw [e1, mI_uI, if_neg (by omega)]; exact t2
      · rw [e1, mI_o (by omega)]; exact t3 i hi
      · rw [e1, mI_o (by omega)]; exact t4 i hi
      · rw [e1, mI_uI, if_neg (by omega)]; exact t5
      · rw [e1, mI_uI, if_neg (by omega)]; exact t6'
      · rw [e1, mI_uI, if_pos ⟨rfl, rfl⟩, if_pos (by omega)]
  | succ j ih =>
    intro x g hx cc t
    have s := (t.rb r).1
    have hm := msk_lt (fun i => P i && !(decide (i < x) && snc f P e i)) n
    have h2 : 2 ^ n ≤ 2 ^ 8 := Nat.pow_le_pow_right (by decide) hn
    have hxn : x < n := by omega
    have hcs : (List.range (x + 1)).countP (snc f P e) = (List.range x).countP (snc f P e) + if snc f P e x = true then 1 else 0 := by
      rw [List.range_succ, List.countP_append]
      simp [List.countP_cons]
    obtain ⟨t1, t2, t3, t4, t5, t6, t7⟩ := id t
    rw [wX6_closeSet_L4]; dsimp only
    rw [t2, t6, c_con (by omega) (by omega), msk_tb]
    refine ⟨s.eo, fun z => absurd z (nI_ge hxn (by omega)), fun _ => ?_⟩
    have hPx : (decide (x < n) && (P x && !(decide (x < x) && snc f P e x))) = P x := by simp [hxn]
    rw [hPx]
    cases hP : P x with
    | false =>
      have hs : snc f P e x = false := by unfold snc; rw [hP]; rfl
      refine ⟨fun _ => ?_, fun z => absurd rfl z⟩
      rw [hs, if_neg (by decide), Nat.add_zero] at hcs
      have := ih (x + 1) g (by omega) cc ⟨t1, t2, t3, t4, t5, by
        rw [t6, msk_cg (fun i hi => ?_)]
        by_cases z : i = x
        · subst z; simp [hs]
        · have : decide (i < x + 1) = decide (i < x) := by
            by_cases y : i < x
            · simp [y, Nat.lt_succ_of_lt y]
            · have : ¬ i < x + 1 := by omega
              simp [y, this]
          rw [this], t7⟩
      rw [hcs] at this
      rw [nI_add]
      exact this
    | true =>
      refine ⟨fun z => absurd z (by rw [if_pos rfl, n1_ne]; exact id), fun _ => ⟨s.eo, ?_⟩⟩
      rw [s.e2, s.el2, nI_clamp (by omega), t4 x hxn]
      refine ⟨s.ea2, vp_in_nI (by omega) (by decide), fun z => ?_, fun z g1 e1 => ?_⟩
      · rw [nI_ltI (hf x hxn) he] at z
        have hs : snc f P e x = false := by
          unfold snc
          rw [hP, Bool.true_and, decide_eq_false_iff_not]
          omega
        rw [hs, if_neg (by decide), Nat.add_zero] at hcs
        have := ih (x + 1) g (by omega) cc ⟨t1, t2, t3, t4, t5, by
          rw [t6, msk_cg (fun i hi => ?_)]
          by_cases z : i = x
          · subst z; simp [hs]
          · have : decide (i < x + 1) = decide (i < x) := by
              by_cases y : i < x
              · simp [y, Nat.lt_succ_of_lt y]
              · have : ¬ i < x + 1 := by omega
                simp [y, this]
            rw [this], t7⟩
        rw [hcs] at this
        rw [nI_add]
        exact this
      · rw [nI_ltI (hf x hxn) he] at z
        have hs : snc f P e x = true := by
          unfold snc
          rw [hP, Bool.true_and, decide_eq_true_eq]
          omega
        rw [hs, if_pos rfl] at hcs
        rw [t6, n_clr _ x (by omega), msk_clr hn] at e1
        have := ih (x + 1) g1 (by omega) (cc.tr (by rw [e1]; exact chi.uI (by omega) (by omega))) ⟨t1.tr (by rw [e1]; exact chi.uI (by omega) (by omega)), by rw [e1, mI_uI, if_neg (by omega)]; exact t2, fun i hi => by rw [e1, mI_o (by omega)]; exact t3 i hi, fun i hi => by rw [e1, mI_o (by omega)]; exact t4 i hi, by rw [e1, mI_uI, if_neg (by omega)]; exact t5, by
          rw [e1, mI_uI, if_pos ⟨rfl, rfl⟩, msk_cg (fun i hi => ?_)]
          by_cases z : i = x
          · subst z; simp [hs]
          · have : decide (i < x + 1) = decide (i < x) := by
              by_cases y : i < x
              · simp [y, Nat.lt_succ_of_lt y]
              · have : ¬ i < x + 1 := by omega
                simp [y, this]
            simp [this, z], by rw [e1, mI_uI, if_neg (by omega)]; exact t7⟩
        rw [hcs] at this
        rw [nI_add, nI_add]
        exact this
theorem c_closeSet (r : RBp h0 p X) (hn : n ≤ 8) (hf : ∀ i, i < n → f i < 2 ^ 31) (he : e < 2 ^ 31) (t : TH h0 n Q f P vis c g) {K : AH → Prop} (k : ∀ g', chi 583 584 g g' → TH h0 n Q f (fun i => P i && !snc f P e i) vis (c + if 1 < (List.range n).countP (snc f P e) then (List.range n).countP (snc f P e) else 0) g' → K g') : wX6_closeSet 583 (nI e) g K := by
  refine ⟨n + 1, close_l r hn hf he k n 0 g (by omega) (chi.rf _ _ _) ?_⟩
  have : (fun i => P i && !(decide (i < 0) && snc f P e i)) = P := by
    funext i
    simp
  rw [this]
  exact t
theorem TQ.lo (q : TQ n Q G v f0 P0 vis0 f P vis c e) (hv : v < n) : e ≤ vis := by
  obtain ⟨q1, -, -, -, q5, q6, q7, -⟩ := q
  cases hP : P v with
  | true =>
    obtain ⟨u, u1, u2, u3, -, -⟩ := q6 hP
    rw [← u3]
    exact q1.1 u u1
  | false => rw [q7 hP]; exact q1.1 v hv
def SK (h0 : AH) (n : Nat) (Q : Nat → Nat → Bool) (G : List Nat) (v : Nat) (f0 : Nat → Nat) (P0 : Nat → Bool) (vis0 : Nat) (K : AH → Prop) : Prop := ∀ g' f' P' vis' c' L, TH h0 n Q f' P' vis' c' g' → mI g' 586 v = nI L → TQ n Q G v f0 P0 vis0 f' P' vis' c' L → K g'
theorem search_s (r : RBp h0 p X) (hn : n ≤ 8) (hi0 : ∀ i, Q i i = false) : ∀ (d : Nat) (G : List Nat) (v : Nat) (f0 : Nat → Nat) (P0 : Nat → Bool) (vis0 c0 : Nat) (g : AH) (K : AH → Prop), 9 ≤ d + G.length → TI n Q G f0 P0 vis0 c0 → TH h0 n Q f0 P0 vis0 c0 g → v < n → f0 v = 0 → (∀ y ∈ G, rch Q n y v) → SK h0 n Q G v f0 P0 vis0 K → wX6_search d 583 (nI v) (nI G.length) g K := by
  intro d
  induction d with
  | zero =>
    intro G v f0 P0 vis0 c0 g K hd t0 _ _ _ _ _
    have := nodup_le n G t0.2.2.1 (fun y hy => (t0.2.2.2.1 y hy).1)
    omega
  | succ d ih =>
    intro G v f0 P0 vis0 c0 g K hd t0 th hv h0v hg kk
    have h5 := t0.2.2.2.2.1
    have hvG : v ∉ G := fun z => h5 v hv (t0.2.2.2.1 v z).2 h0v
    have hlen := nodup_le n (v :: G) (List.nodup_cons.mpr ⟨hvG, t0.2.2.1⟩) (fun y hy => by
      rcases List.mem_cons.mp hy with rfl | hy
      · exact hv
      · exact (t0.2.2.2.1 y hy).1)
    rw [List.length_cons] at hlen
    have s := (th.rb r).1
    show wX6_search_b (wX6_search d) 583 (nI v) (nI G.length) g K
    unfold wX6_search_b
    rw [th.2.1]
    refine ⟨fun z => absurd z (nI_ge (by omega) (by decide)), fun _ => ⟨s.eo, fun _ => c_enterT th r hn hv (fun g1 th1 => ?_), fun z => absurd (nI_lt hv (by omega)) z⟩⟩
    have s1 := (th1.rb r).1
    rw [s1.e2, s1.el2, nI_clamp (by omega), th1.2.2.2.1 v hv, ups_s]
    refine ⟨s1.eo, s1.ea2, vp_in_nI (by omega) (by decide), n + 1, ?_⟩
    have loop : ∀ (j y e : Nat) (f : Nat → Nat) (P : Nat → Bool) (vis c : Nat) (g : AH), y + j = n → TL n Q G v f0 P0 vis0 y e f P vis c → TH h0 n Q f P vis c g → wX6_search_L30 (wX6_search d) K (j + 1) 583 (nI v) (nI G.length) (nI e) (nI y) g := by
      intro j
      induction j with
      | zero =>
        intro y e f P vis c g hy tl th
        have hy' : y = n := by omega
        subst hy'
        have s := (th.rb r).1
        obtain ⟨fv, pv⟩ := tl.vv hv
        have hvis := tl.1.vn
        have hf : ∀ i, i < y → f i < 2 ^ 31 := fun i hi => by have := tl.1.1 i hi; omega
        have he : e ≤ vis0 + 1 := by
          obtain ⟨u, u1, u2, u3, u4, u5⟩ := tl.2.2.2.2.1
          exact u5
        have hv0 := t0.vn
        obtain ⟨t1, t2, t3, t4, t5, t6, t7⟩ := id th
        rw [wX6_search_L30]; dsimp only
        rw [t2, s.e3, s.el3, s.e2, s.el2, nI_clamp (by omega)]
        refine ⟨s.eo, fun _ => ⟨s.ea3, by decide, vp_in_nI (by omega) (by decide), fun g1 e1 => ⟨s.ea2, vp_in_nI (by omega) (by decide), ?_⟩⟩, fun z => absurd (nI_le (Nat.le_refl _) (by omega)) z⟩
        have h586 : mI g1 586 v = nI e := by rw [e1, mI_uI, if_pos ⟨rfl, rfl⟩]
        have th1 : TH h0 y Q f P vis c g1 := ⟨t1.tr (by rw [e1]; exact chi.uI (by omega) (by omega)), by rw [e1, mI_o (by omega)]; exact t2, fun i hi => by rw [e1, mI_o (by omega)]; exact t3 i hi, fun i hi => by rw [e1, mI_o (by omega)]; exact t4 i hi, by rw [e1, mI_o (by omega)]; exact t5, by rw [e1, mI_o (by omega)]; exact t6, by rw [e1, mI_o (by omega)]; exact t7⟩
        rw [th1.2.2.2.1 v hv, nI_eq (by omega) (hf v hv)]
        refine ⟨fun z => kk g1 f P vis c e th1 h586 (tl.stay h5 hv h0v z), fun z => ?_⟩
        refine c_closeSet r hn hf (by omega) th1 (fun g2 cc th2 => kk g2 f _ vis _ e th2 ?_ (tl.close hi0 t0 hv h0v z))
        rw [cc.2.2.2.2 586 (by omega)]
        exact h586
      | succ j ihj =>
        intro y e f P vis c g hy tl th
        have hyn : y < n := by omega
        have s := (th.rb r).1
        have hvis := tl.1.vn
        have hv0 := t0.vn
        have he : e ≤ vis0 + 1 := by
          obtain ⟨u, u1, u2, u3, u4, u5⟩ := tl.2.2.2.2.1
          exact u5
        have hm := msk_lt (Q v) n
        have hm2 := msk_lt P n
        have h2 : 2 ^ n ≤ 2 ^ 8 := Nat.pow_le_pow_right (by decide) hn
        have hfy := tl.1.1 y hyn
        obtain ⟨t1, t2, t3, t4, t5, t6, t7⟩ := id th
        rw [wX6_search_L30]; dsimp only
        rw [t2, s.e1, s.el1, nI_clamp (by omega), t3 v hv, c_con (by omega) (by omega), msk_tb]
        refine ⟨s.eo, fun z => absurd z (nI_ge hyn (by omega)), fun _ => ⟨s.ea1, vp_in_nI (by omega) (by decide), ?_⟩⟩
        have hd1 : (decide (y < n) && Q v y) = Q v y := by simp [hyn]
        rw [hd1]
        cases hQ : Q v y with
        | false =>
          refine ⟨fun _ => ?_, fun z => absurd rfl z⟩
          rw [nI_add]
          exact ihj (y + 1) e f P vis c g (by omega) (tl.skip (fun z => by rw [hQ] at z; cases z)) th
        | true =>
          refine ⟨fun z => absurd z (by rw [if_pos rfl, n1_ne]; exact id), fun _ => ⟨s.eo, ?_⟩⟩
          rw [s.e2, s.el2, nI_clamp (by omega), t4 y hyn, nI_z (by omega), nI_add]
          refine ⟨s.ea2, vp_in_nI (by omega) (by decide), fun z => ?_, fun z => ?_⟩
          · rw [t6, c_con (by omega) (by omega), msk_tb]
            have hd2 : (decide (y < n) && P y) = P y := by simp [hyn]
            rw [hd2]
            cases hP : P y with
            | false =>
              exact ⟨fun _ => ihj (y + 1) e f P vis c g (by omega) (tl.skip (fun _ => ⟨z, hP⟩)) th, fun u => absurd rfl u⟩
            | true =>
              refine ⟨fun u => absurd u (by rw [if_pos rfl, n1_ne]; exact id), fun _ => ⟨s.eo, ?_⟩⟩
              rw [s.e2, s.el2, t4 y hyn]
              refine ⟨s.ea2, vp_in_nI (by omega) (by decide), fun v35 e35 => ?_⟩
              have : v35 = nI (if f y < e then f y else e) := by
                rw [e35]
                by_cases u : f y < e
                · rw [if_pos u, if_pos (nI_lt u (by omega))]
                · rw [if_neg u, if_neg (by rw [nI_ltI (by omega) (by omega)]; exact u)]
              rw [this]
              exact ihj (y + 1) _ f P vis c g (by omega) (tl.pend hyn hQ z hP) th
          · have := ih (v :: G) y f P vis c g (fun h37 => (isO h37 583 4) ∧ (isA h37 (mR h37 583 3) 0) ∧ (vp_in (nI y) (ln h37 (mR h37 583 3))) ∧ ∀ v42 : Int32, v42 = (if mI h37 (mR h37 583 3) (nI y).toNatClampNeg < nI e then mI h37 (mR h37 583 3) (nI y).toNatClampNeg else nI e) → wX6_search_L30 (wX6_search d) K (j + 1) 583 (nI v) (nI G.length) v42 (nI (y + 1)) h37) (by rw [List.length_cons]; omega) tl.1 th hyn z (fun u hu => by
              rcases List.mem_cons.mp hu with rfl | hu
              · exact rch.e hQ
              · exact rch.tr hv (hg u hu) (rch.e hQ)) (fun g' f' P' vis' c' L th' h586 tp => by
              have s' := (th'.rb r).1
              have hL := tp.lo hyn
              have hvis' := tp.1.vn
              dsimp only
              rw [s'.e3, s'.el3, nI_clamp (by omega), h586]
              refine ⟨s'.eo, s'.ea3, vp_in_nI (by omega) (by decide), fun v42 e42 => ?_⟩
              have : v42 = nI (if L < e then L else e) := by
                rw [e42]
                by_cases u : L < e
                · rw [if_pos u, if_pos (nI_lt u (by omega))]
                · rw [if_neg u, if_neg (by rw [nI_ltI (by omega) (by omega)]; exact u)]
              rw [this]
              exact ihj (y + 1) _ f' P' vis' c' g' (by omega) (tl.white h5 hv hyn hQ z tp) th')
            rw [List.length_cons, ← nI_add] at this
            rw [nI_clamp (show y < 2 ^ 31 by omega)] at this
            exact this
    exact loop n 0 _ _ _ _ _ g1 (by omega) (TL.begin t0 hv h0v hg) th1
end TH_
