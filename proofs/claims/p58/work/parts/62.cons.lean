/-! THE CLASS'S OWN CHECK: it always holds -/
section CO
variable {h g : AH} {p w : Nat} {X : BG} {G : LG} {a : Nat} {A : AG} {K : Int32 → AH → Prop} {T : String → AH → Prop}
theorem sub_z {m s : Nat} (hm : m < 2 ^ 31) (h : ∀ i, m.testBit i = true → s.testBit i = true) : nI m &&& (nI s ^^^ (-1)) = nI 0 := by
  rw [n_m1, n_xor, n_and]
  congr 1
  rw [and_z]
  rintro i ⟨h1, h2⟩
  rw [Nat.testBit_xor, h i h1, show 4294967295 = 2 ^ 32 - 1 by decide, Nat.testBit_two_pow_sub_one] at h2
  by_cases z : i < 32
  · simp [z] at h2
  · have : m.testBit i = false := Nat.testBit_lt_two_pow (Nat.lt_of_lt_of_le hm (Nat.pow_le_pow_right (by decide) (by omega)))
    rw [this] at h1
    cases h1
theorem bts_rev (l : List Nat) : bts l.reverse = bts l := by
  apply Nat.eq_of_testBit_eq
  intro i
  rw [bts_tb, bts_tb]
  congr 1
  exact propext List.mem_reverse
theorem all_n : ∀ n, n ≤ 12 → (nI 1 <<< (nI n &&& nI 31)) - nI 1 = nI (2 ^ n - 1) := by
  intro n hn
  rw [n_shl n (by omega), nI_sub (Nat.two_pow_pos n)]
theorem stems_l (r : rpW h a G) {ex : Nat} (hex : ex = (gp G).length + gk G) (hk : gk G ≤ 12) (k : K (nI 1) h) : ∀ j x, x + j = (gp G).length → wX3_lineIsSound_L70 K (j + 1) a (nI ex) (nI (bts ((gp G).take x).reverse)) (nI x) h := by
  have h12 := r.n12
  have h8 := r.2.2.2.2.2.2.1
  have i := r.2.2
  have hlt : ∀ x, bts ((gp G).take x).reverse < 2 ^ 12 := fun x => bts_lt (fun y hy => by
    have := (i.2.2.2.2.2.1 y (List.mem_of_mem_take (List.mem_reverse.mp hy))).1
    omega)
  intro j
  induction j with
  | zero =>
    intro x hx
    have hx' : x = (gp G).length := by omega
    subst hx'
    have hd := i.d12
    have hh := i.h12
    rw [wX3_lineIsSound_L70]; dsimp only
    rw [r.2.1.1, r.2.1.2.1, r.2.1.2.2.1, r.2.1.2.2.2.1, r.2.1.2.2.2.2.1]
    refine ⟨r.1.o, fun _ v e => ?_, fun z => absurd (nI_le (Nat.le_refl _) (by omega)) z⟩
    rw [all_n _ h12] at e
    subst e
    rw [nI_add, hex]
    refine ⟨fun z => absurd rfl z, fun _ => ?_⟩
    have e1 := sub_z (m := gd G) (s := bts ((gp G).take (gp G).length).reverse) (by omega) (fun b hb => by
      rw [bts_rev, List.take_length, bts_tb]
      exact decide_eq_true (i.2.2.2.2.2.2.2.2.1 b hb))
    have e2 := sub_z (m := gh G) (s := 2 ^ gn G - 1) (by omega) (fun b hb => by
      rw [Nat.testBit_two_pow_sub_one, decide_eq_true_eq]
      refine Nat.lt_of_not_le (fun z => ?_)
      rw [Nat.testBit_lt_two_pow (Nat.lt_of_lt_of_le i.2.2.2.2.2.2.2.1 (Nat.pow_le_pow_right (by decide) z))] at hb
      cases hb)
    exact ⟨fun z => absurd e1 z, fun _ => ⟨fun z => absurd e2 z, fun _ => k⟩⟩
  | succ j ih =>
    intro x hx
    have hxl : x < (gp G).length := by omega
    have hs : (gp G)[x]? = some (gp G)[x] := List.getElem?_eq_getElem hxl
    have hm := List.mem_of_getElem? hs
    obtain ⟨s1, s2⟩ := i.2.2.2.2.2.1 _ hm
    have hni : (gp G)[x] ∉ (gp G).take x := fun z => by
      obtain ⟨y, hy, ey⟩ := List.getElem_of_mem z
      rw [List.length_take] at hy
      rw [List.getElem_take] at ey
      have := (List.pairwise_iff_getElem.mp i.2.2.2.1) y x (by omega) hxl (by omega)
      exact this ey
    have hbx := hlt x
    rw [wX3_lineIsSound_L70]; dsimp only
    rw [r.2.1.2.1, c_stemOf r hs, c_isStem r s1, if_neg s2, c_con (by omega) (by omega), bts_tb, n_shl _ (by omega), n_or, nI_add]
    refine ⟨r.1.o, fun z => absurd z (nI_ge hxl (by omega)), fun _ => ⟨r.1.o, fun z => absurd z (by rw [n1_ne]; exact id), fun _ => ⟨fun _ v e => ?_, fun z => ?_⟩⟩⟩
    · subst e
      have := ih (x + 1) (by omega)
      rw [take_s hs, List.reverse_append] at this
      exact this
    · rw [if_neg (by simpa using hni)] at z
      exact absurd rfl z
theorem lsound_l (r : rpW h a G) (hk : gk G ≤ 12) (k : K (nI 1) h) {C : Nat → Int32 → AH → Prop} (kc : C a (nI ((gp G).length + gk G)) h) : ∀ j x, x + j = gn G → wX3_lineIsSound_L4 K C (j + 1) a (nI ((List.range x).countP (fun b => (gf G b).isSome))) (nI x) h := by
  have h12 := r.n12
  have i := r.2.2
  intro j
  induction j with
  | zero =>
    intro x hx
    have hx' : x = gn G := by omega
    subst hx'
    rw [wX3_lineIsSound_L4]; dsimp only
    rw [r.2.1.1, i.2.2.2.2.2.2.2.2.2]
    exact ⟨r.1.o, fun _ => kc, fun z => absurd (nI_le (Nat.le_refl _) (by omega)) z⟩
  | succ j ih =>
    intro x hx
    have hxn : x < gn G := by omega
    have hnx : ¬ ex G x x := fun z => (ex_lt i hxn z).2 rfl
    obtain ⟨l1, l9⟩ := r.gl9 hxn
    have hcs : (List.range (x + 1)).countP (fun b => (gf G b).isSome) = (List.range x).countP (fun b => (gf G b).isSome) + if (gf G x).isSome = true then 1 else 0 := by
      rw [List.range_succ, List.countP_append]
      simp [List.countP_cons]
    have := ih (x + 1) (by omega)
    rw [hcs] at this
    rw [wX3_lineIsSound_L4]; dsimp only
    rw [r.2.1.1, c_leadsTo r hxn (by omega)]
    refine ⟨r.1.o, fun z => absurd z (nI_ge hxn (by omega)), fun _ => ⟨fun z => absurd z hnx, fun _ => ⟨r.1.o, ?_⟩⟩⟩
    rw [c_lengthOf r hxn]
    refine ⟨fun z => absurd z (nI_nlt l1 (by omega)), fun _ => ⟨r.1.o, ?_⟩⟩
    rw [c_lengthOf r hxn]
    refine ⟨fun z => absurd z (nI_nlt l9 (by omega)), fun _ => ⟨fun _ => ⟨r.1.o, ?_⟩, fun z => absurd rfl z⟩⟩
    rw [c_hasExit r hxn, nI_add, nI_add, nI_add]
    cases hf : (gf G x).isSome with
    | false =>
      rw [hf, if_neg (by decide)] at this
      exact ⟨fun _ => this, fun z => absurd rfl z⟩
    | true =>
      rw [hf, if_pos rfl] at this
      exact ⟨fun z => absurd z (by rw [if_pos rfl, n1_ne]; exact id), fun _ => this⟩
theorem c_lineSound (r : rpW h a G) (hk : gk G ≤ 12) (k : K (nI 1) h) : wX3_lineIsSound a h K := by
  refine ⟨gn G + 1, lsound_l r hk k ⟨(gp G).length + 1, ?_⟩ (gn G) 0 (by omega)⟩
  have := stems_l r rfl hk k (gp G).length 0 (by omega)
  exact this
/-- the number of the train before place x *)-/
def bfI (l : List TG) : Nat → Int32
  | 0 => -1
  | x + 1 => match l[x]? with
    | none => -1
    | some t => nI (tn t)
theorem bfI_lt {A : AG} (i : IP A) (bn : BN A) {x n : Nat} (hn : n < 2 ^ 31) (h : ∀ t, x ≠ 0 → (aT A)[x - 1]? = some t → tn t < n) : (nI n ≤ bfI (aT A) x) = False := by
  cases x with
  | zero => exact lt_nge (m_lt n hn)
  | succ x =>
    show (nI n ≤ match (aT A)[x]? with
      | none => -1
      | some t => nI (tn t)) = False
    cases ht : (aT A)[x]? with
    | none => exact lt_nge (m_lt n hn)
    | some t =>
      have := h t (Nat.succ_ne_zero x) ht
      simp only
      exact eq_false (by rw [nI_leI hn (by omega)]; omega)
theorem sum_take {l : List TG} : ∀ x, ((l.take x).map tl).sum ≤ (l.map tl).sum := by
  intro x
  conv => rhs; rw [← List.take_append_drop x l]
  rw [List.map_append, List.sum_append]
  exact Nat.le_add_right _ _
theorem tsound_l (r : RBp h p X) (i : IP (bA X)) (bn : BN (bA X)) (k : K (nI 1) h) : ∀ j x, x + j = (aT (bA X)).length → wX3_trainsAreSound_L7 K (j + 1) 65 (lN (((aT (bA X)).take x).map tl).sum) (bfI (aT (bA X)) x) (nI x) h := by
  have s := r.2.2.1
  have h8 := i.1
  obtain ⟨b1, b2, b3⟩ := id bn
  have hsum := i.2.2.2.2.2.2
  intro j
  induction j with
  | zero =>
    intro x hx
    have hx' : x = (aT (bA X)).length := by omega
    subst hx'
    rw [wX3_trainsAreSound_L7]; dsimp only
    rw [s.2.2.1, s.2.2.2.2.1, s.2.2.2.2.2.1, s.2.2.2.2.2.2.2.1, nI_add, i.2.2.2.2.2.1, List.take_length]
    refine ⟨s.1.o, fun _ => ⟨fun z => absurd z (by
      rw [bfI_lt i bn (by omega) (fun t _ ht => (i.2.1 t (List.mem_of_getElem? ht)).2.2.2.1)]
      exact id), fun _ => ⟨fun z => absurd rfl z, fun _ => ⟨fun z => ?_, fun _ => k⟩⟩⟩, fun z => absurd (nI_le (Nat.le_refl _) (by omega)) z⟩
    rw [nI_0, lg_cmp_gt, lN_lt (by omega) (by omega)] at z
    omega
  | succ j ih =>
    intro x hx
    have hxl : x < (aT (bA X)).length := by omega
    obtain ⟨t, ht, hm⟩ := T_get hxl
    obtain ⟨k1, k2, k3, k4, -⟩ := i.2.1 t hm
    have h12 := r.n12
    have q := s.t ht
    have q0 : isO h (mR h 98 x) 6 := s.1.tO (by omega)
    have q1 : mI h (mR h 98 x) 0 = nI (tn t) := q.1
    have q2 : mI h (mR h 98 x) 1 = nI (tb t) := q.2.1
    have q3 : mI h (mR h 98 x) 2 = nI (td t) := q.2.2.1
    have q5 : mI h (mR h 98 x) 5 = nI (tl t) := q.2.2.2.2.2
    have htl : tl t ≤ aD (bA X) := by
      have h1 := sum_take (l := aT (bA X)) (x + 1)
      rw [take_s ht, List.map_append, List.sum_append] at h1
      have h2 : (([t] : List TG).map tl).sum = tl t := by simp
      omega
    have m33 : mR h 65 1 = 98 := s.1.m1
    have a33 : isA h 98 6 := s.1.a33
    have l33 : ln h 98 = 8 := s.1.l33
    rw [wX3_trainsAreSound_L7]; dsimp only
    rw [s.2.2.1, m33, l33, nI_clamp (by omega), s.1.m0, q2, c_has s.2.1.1 k1, s.1.m0, q3, c_has s.2.1.1 k2, q2, q3, nI_eq (a := tb t) (b := td t) (by omega) (by omega)]
    refine ⟨s.1.o, fun z => absurd z (nI_ge hxl (by omega)), fun _ => ⟨a33, vp_in_nI (by omega) (by decide), q0, s.1.lg.o, fun z => absurd z (by rw [n1_ne]; exact id), fun _ => ⟨s.1.o, q0, s.1.lg.o, fun z => absurd z (by rw [n1_ne]; exact id), fun _ => ⟨q0, fun z => absurd z k3, fun _ => ?_⟩⟩⟩⟩
    unfold wX3_trainsAreSound_J73
    rw [q1, q5]
    refine ⟨fun z => absurd z (by rw [n1_ne]; exact id), fun _ => ⟨q0, fun z => absurd z (by
      rw [bfI_lt i bn (by omega) (fun u hx0 hu => by
        obtain ⟨h1, e1⟩ := List.getElem?_eq_some_iff.mp hu
        obtain ⟨h2, e2⟩ := List.getElem?_eq_some_iff.mp ht
        have := (List.pairwise_iff_getElem.mp i.2.2.1 (x - 1) x h1 h2 (by omega)).1
        rw [e1, e2] at this
        exact this)]
      exact id), fun _ => ⟨fun _ => ?_, fun z => absurd (nI_pos' (by omega)) z⟩⟩⟩
    rw [nI_l (by omega), lN_add, nI_add]
    have := ih (x + 1) (by omega)
    rw [take_s ht, List.map_append, List.sum_append] at this
    have h2 : (([t] : List TG).map tl).sum = tl t := by simp
    rw [h2] at this
    have h3 : bfI (aT (bA X)) (x + 1) = nI (tn t) := by
      show (match (aT (bA X))[x]? with
        | none => -1
        | some t => nI (tn t)) = nI (tn t)
      rw [ht]
    rw [h3] at this
    exact this
theorem dis_pw (i : IP A) {x : Nat} {t : TG} (ht : (aT A)[x]? = some t) {u : TG} (hu : u ∈ (aT A).take x) : ∀ b ∈ th_ u, b ∉ th_ t := by
  obtain ⟨y, hy, ey⟩ := List.getElem_of_mem hu
  rw [List.length_take] at hy
  rw [List.getElem_take] at ey
  obtain ⟨h2, e2⟩ := List.getElem?_eq_some_iff.mp ht
  have := (List.pairwise_iff_getElem.mp i.2.2.1 y x (by omega) h2 (by omega)).2
  rw [ey, e2] at this
  exact this
theorem bsound_l (r : RBp h p X) (i : IP (bA X)) (k : K (nI 1) h) : ∀ j x, x + j = (aT (bA X)).length → wX3_blocksAreHeldOnce_L4 K (j + 1) 65 (nI (hbt ((aT (bA X)).take x))) (nI x) h := by
  have s := r.2.2.1
  have h8 := i.1
  intro j
  induction j with
  | zero =>
    intro x hx
    have hx' : x = (aT (bA X)).length := by omega
    subst hx'
    rw [wX3_blocksAreHeldOnce_L4]; dsimp only
    rw [s.2.2.1]
    exact ⟨s.1.o, fun _ => k, fun z => absurd (nI_le (Nat.le_refl _) (by omega)) z⟩
  | succ j ih =>
    intro x hx
    have hxl : x < (aT (bA X)).length := by omega
    obtain ⟨t, ht, hm⟩ := T_get hxl
    obtain ⟨k1, k2, k3, k4, k5, k6, k7, kn, k9⟩ := i.2.1 t hm
    have h12 := r.n12
    have hh := s.2.1.1.2.2.h12
    obtain ⟨t1, t2⟩ := tr_b31 r i hm
    have q := s.t ht
    have q0 : isO h (mR h 98 x) 6 := s.1.tO (by omega)
    have q2 : mI h (mR h 98 x) 1 = nI (tb t) := q.2.1
    have q3 : mI h (mR h 98 x) 3 = nI (bts (tr t)) := q.2.2.2.1
    have m33 : mR h 65 1 = 98 := s.1.m1
    have a33 : isA h 98 6 := s.1.a33
    have l33 : ln h 98 = 8 := s.1.l33
    have hH : hbt ((aT (bA X)).take x) < 2 ^ 12 := hbt_lt _ (fun u hu => (tr_b31 r i (List.mem_of_mem_take hu)).2)
    have e1 : hbt ((aT (bA X)).take x) &&& bts (th_ t) = 0 := by
      rw [and_z]
      rintro b ⟨z1, z2⟩
      rw [hbt_tb, List.any_eq_true] at z1
      rw [bts_tb, decide_eq_true_eq] at z2
      obtain ⟨u, hu, hb⟩ := z1
      exact dis_pw i ht hu b (of_decide_eq_true hb) z2
    have e2 : gh (aL (bA X)) &&& bts (tr t) = 0 := by
      rw [and_z]
      rintro b ⟨z1, z2⟩
      rw [bts_tb, decide_eq_true_eq] at z2
      rw [k9 b z2] at z1
      cases z1
    have e3 : tb t ∉ tr t := (List.nodup_cons.mp kn).1
    rw [wX3_blocksAreHeldOnce_L4]; dsimp only
    rw [s.2.2.1, m33, l33, nI_clamp (by omega), q2, q3, c_con (by omega) (by omega), c_heldT q0 q (show tb t < 31 by omega), n_and, nI_z (Nat.lt_of_le_of_lt Nat.and_le_left (by omega)), s.1.m0, s.2.1.1.2.1.2.2.2.1, q3, n_and, nI_z (Nat.lt_of_le_of_lt Nat.and_le_left (by omega)), bts_tb, nI_add]
    refine ⟨s.1.o, fun z => absurd z (nI_ge hxl (by omega)), fun _ => ⟨a33, vp_in_nI (by omega) (by decide), q0, q0, fun z => absurd e1 z, fun _ => ⟨s.1.o, s.1.lg.o, q0, fun z => absurd e2 z, fun _ => ⟨fun _ => ?_, fun z => absurd (by rw [if_neg (by simpa using e3)]) z⟩⟩⟩⟩
    rw [c_heldT q0 q (show tb t < 31 by omega), n_or]
    have := ih (x + 1) (by omega)
    rw [take_s ht, hbt_app] at this
    exact this
theorem ahead_any (r : rpW h a G) {c : Nat} {t : TG} (hO : isO h c 6) (q : cnT h c t) (k : ∀ v, K v h) : ∀ j x v (b : Option Nat), x + j = 12 → (∀ y, b = some y → y < gn G) → wX3_blocksAhead_L10 K (j + 1) a c v (oI b) (nI x) h := by
  have h12 := r.n12
  have i := r.2.2
  intro j
  induction j with
  | zero =>
    intro x v b hx _
    rw [wX3_blocksAhead_L10]; dsimp only
    exact ⟨fun _ => k v, fun z => absurd (nI_le (by omega) (by omega)) z⟩
  | succ j ih =>
    intro x v b hx hb
    rw [wX3_blocksAhead_L10]; dsimp only
    refine ⟨fun _ => k v, fun _ => ⟨r.1.o, ?_⟩⟩
    cases b with
    | none =>
      rw [oI_none, c_has_m r]
      exact ⟨fun _ => k v, fun z => absurd rfl z⟩
    | some b =>
      have hbn := hb b rfl
      rw [oI_some, c_has r hbn, c_exitOf r hbn, nI_add]
      refine ⟨fun _ => k v, fun _ => ⟨hO, fun _ => k v, fun _ => ⟨r.1.o, ih (x + 1) _ _ (by omega) (fun y hy => ?_)⟩⟩⟩
      unfold xo at hy
      split at hy
      · exact (ex_lt i hbn (Or.inr hy)).1
      · exact (ex_lt i hbn (Or.inl hy)).1
theorem ahead_l (r : rpW h a G) {c : Nat} {t : TG} (hO : isO h c 6) (q : cnT h c t) (hd : td t < gn G) {m : Nat} (k : K (nI m) h) : ∀ (l : List Nat) (b x : Nat) (D : List Nat), b < gn G → (∀ y ∈ l, y < gn G) → led G b l → (b :: l).Nodup → (b :: l).getLast? = some (td t) → x + l.length < 12 → bts (l.reverse ++ D) = m → wX3_blocksAhead_L10 K (l.length + 1) a c (nI (bts D)) (nI b) (nI x) h := by
  have h12 := r.n12
  intro l
  induction l with
  | nil =>
    intro b x D hb _ _ _ hl hx hm
    rw [List.getLast?_singleton] at hl
    cases hl
    rw [wX3_blocksAhead_L10]; dsimp only
    rw [c_has r hb, q.2.2.1]
    have hm : bts D = m := hm
    rw [hm]
    exact ⟨fun _ => k, fun _ => ⟨r.1.o, fun _ => k, fun _ => ⟨hO, fun _ => k, fun z => absurd rfl z⟩⟩⟩
  | cons e l ih =>
    intro b x D hb hl1 hled hn hl hx hm
    have he := hl1 e List.mem_cons_self
    have hne : b ≠ td t := fun z => by
      rw [List.getLast?_cons_cons] at hl
      exact (List.nodup_cons.mp hn).1 (z ▸ List.mem_of_getLast? hl)
    rw [wX3_blocksAhead_L10]; dsimp only
    rw [c_has r hb, q.2.2.1, nI_eq (a := b) (b := td t) (by omega) (by omega), c_exitOf r hb, hled.1, oI_some, n_shl e (by omega), n_or, nI_add]
    simp only [List.length_cons] at hx
    refine ⟨fun z => absurd z (nI_ge (by omega) (by decide)), fun _ => ⟨r.1.o, fun z => absurd z (by rw [n1_ne]; exact id), fun _ => ⟨hO, fun z => absurd z hne, fun _ => ⟨r.1.o, ?_⟩⟩⟩⟩
    refine ih e (x + 1) (e :: D) he (fun y hy => hl1 y (List.mem_cons_of_mem _ hy)) hled.2 (List.nodup_cons.mp hn).2 (by rw [List.getLast?_cons_cons] at hl; exact hl) (by omega) ?_
    rw [← hm, List.reverse_cons, List.append_assoc]
    rfl
def lnO (G : LG) (b : Option Nat) : Int32 := match b with
  | none => nI 0
  | some y => nI (gl G y)
theorem c_lenO (r : rpW h a G) {b : Option Nat} (hb : ∀ y, b = some y → y < gn G) {K : Int32 → AH → Prop} : wX4_lengthOf a (oI b) h K ↔ K (lnO G b) h := by
  cases b with
  | none => exact c_lengthOf_m r
  | some y => exact c_lengthOf r (hb y rfl)
theorem rsound_l (r : RBp h p X) (i : IP (bA X)) (bn : BN (bA X)) (k : K (nI 1) h) : ∀ j x, x + j = (aT (bA X)).length → wX3_routesAreSound_L2 K (j + 1) 65 (nI x) h := by
  have s := r.2.2.1
  have h8 := i.1
  have b2 := bn.2.1
  have h12 := r.n12
  have il := s.2.1.1.2.2
  intro j
  induction j with
  | zero =>
    intro x hx
    have hx' : x = (aT (bA X)).length := by omega
    subst hx'
    rw [wX3_routesAreSound_L2]; dsimp only
    rw [s.2.2.1]
    exact ⟨s.1.o, fun _ => k, fun z => absurd (nI_le (Nat.le_refl _) (by omega)) z⟩
  | succ j ih =>
    intro x hx
    have hxl : x < (aT (bA X)).length := by omega
    obtain ⟨t, ht, hm⟩ := T_get hxl
    obtain ⟨k1, k2, k3, k4, k5, k6, k7, kn, k9⟩ := i.2.1 t hm
    obtain ⟨t1, t2⟩ := tr_b31 r i hm
    have q := s.t ht
    have q0 : isO h (mR h 98 x) 6 := s.1.tO (by omega)
    have q2 : mI h (mR h 98 x) 1 = nI (tb t) := q.2.1
    have q3 : mI h (mR h 98 x) 3 = nI (bts (tr t)) := q.2.2.2.1
    have m33 : mR h 65 1 = 98 := s.1.m1
    have a33 : isA h 98 6 := s.1.a33
    have l33 : ln h 98 = 8 := s.1.l33
    have hxo : ∀ y, xo (aL (bA X)) (tb t) = some y → y < gn (aL (bA X)) := fun y hy => by
      unfold xo at hy
      split at hy
      · exact (ex_lt il k1 (Or.inr hy)).1
      · exact (ex_lt il k1 (Or.inl hy)).1
    have next := ih (x + 1) (by omega)
    rw [wX3_routesAreSound_L2]; dsimp only
    rw [s.2.2.1, m33, l33, nI_clamp (by omega), s.1.m0, q2, s.2.2.2.2.2.2.1]
    refine ⟨s.1.o, fun z => absurd z (nI_ge hxl (by omega)), fun _ => ⟨a33, vp_in_nI (by omega) (by decide), q0, fun v6 e6 => ⟨s.1.lg.o, ?_⟩⟩⟩
    rw [c_exitOf s.2.1.1 k1]
    refine ⟨s.1.lg.o, ?_⟩
    rw [c_lenO s.2.1.1 hxo, s.1.m0]
    refine ⟨s.1.o, ?_⟩
    unfold wX3_blocksAhead
    rw [q2]
    by_cases e : tr t = []
    · have hb31 : bts (tr t) < 2 ^ 31 := by omega
      have step : ∀ y0 : Int32, wX3_routesAreSound_J67 K (wX3_routesAreSound_L2 K (j + 1)) 65 (nI x) (mR h 98 x) v6 (lnO (aL (bA X)) (xo (aL (bA X)) (tb t))) y0 h := fun y0 => by
        unfold wX3_routesAreSound_J67
        refine ⟨q0, ?_⟩
        rw [c_isRouted q0 q hb31, if_pos e, nI_add]
        exact ⟨fun _ => next, fun z => absurd rfl z⟩
      refine ⟨q0, 13, ahead_any s.2.1.1 q0 q (fun v => ⟨q0, fun _ => step (nI 0), fun _ => step (nI 1)⟩) 12 0 (nI 0) (some (tb t)) (by omega) (fun y hy => by cases hy; exact k1)⟩
    · obtain ⟨z1, z2, z3⟩ := k7 e
      have q4 : mI h (mR h 98 x) 4 = nI (tu t) := q.2.2.2.2.1 e
      rw [q4, nI_sub (by omega)] at e6
      subst e6
      have hlen := nd12 il kn (fun y hy => by
        rcases List.mem_cons.mp hy with rfl | hy
        · exact k1
        · exact k5 y hy)
      unfold th_ at hlen
      rw [List.length_cons] at hlen
      have hu : tu t < 2 ^ 31 := by
        cases hc : tr t with
        | nil => exact absurd hc e
        | cons c l =>
          rw [hc] at z3 k5
          simp only [List.headD_cons] at z3
          have hg := (il.2.1 c (k5 c List.mem_cons_self)).2
          omega
      refine ⟨q0, (tr t).length + 1, ahead_l (m := bts (tr t)) s.2.1.1 q0 q k2 ⟨q0, fun z => absurd q3.symm z, fun _ => ?_⟩ (tr t) (tb t) 0 [] k1 k5 k6 kn (by rw [List.getLast?_cons, z1]; rfl) (by omega) (by rw [List.append_nil, bts_rev])⟩
      unfold wX3_routesAreSound_J67
      refine ⟨q0, ?_⟩
      rw [c_isRouted q0 q (by omega), if_neg e, nI_add]
      refine ⟨fun z => absurd z (by rw [n1_ne]; exact id), fun _ => ⟨fun z => absurd z (by rw [n1_ne]; exact id), fun _ => ⟨fun z => absurd z (nI_nlt (by omega) (by omega)), fun _ => ⟨fun _ => next, fun z => absurd ?_ z⟩⟩⟩⟩
      cases hc : tr t with
      | nil => exact absurd hc e
      | cons c l =>
        rw [hc] at k6 z3 k5
        simp only [List.headD_cons] at z3
        have hg := (il.2.1 c (k5 c List.mem_cons_self)).2
        rw [k6.1]
        exact nI_le (by omega) (by omega)
theorem cnt_q (i : IP A) : (aT A).countP (fun t => decide (tr t ≠ [])) + (aQ A).length = (aT A).length := by
  have h1 : ((aT A).filter (fun t => decide (tr t = []))).length + (aT A).countP (fun t => decide (tr t ≠ [])) = (aT A).length := by
    generalize aT A = l
    induction l with
    | nil => rfl
    | cons t l ih =>
      rw [List.filter_cons, List.countP_cons, List.length_cons]
      by_cases e : tr t = []
      · rw [if_pos (by simp [e]), if_neg (by simp [e]), List.length_cons]; omega
      · rw [if_neg (by simp [e]), if_pos (by simp [e])]; omega
  have h2 : (aQ A).length = (((aT A).filter (fun t => decide (tr t = []))).map tn).length := by
    apply Nat.le_antisymm
    · refine nd_sub _ _ i.2.2.2.1 (fun q hq => ?_)
      obtain ⟨t, ht, e1, e2⟩ := (i.2.2.2.2.1 q).mp hq
      exact List.mem_map.mpr ⟨t, List.mem_filter.mpr ⟨ht, decide_eq_true e2⟩, e1⟩
    · refine nd_sub _ _ ?_ (fun q hq => ?_)
      · refine List.pairwise_map.mpr (List.Pairwise.imp (fun {t u} z => ?_) (List.Pairwise.filter _ i.2.2.1))
        have := z.1
        omega
      · obtain ⟨t, ht, e1⟩ := List.mem_map.mp hq
        obtain ⟨t1, t2⟩ := List.mem_filter.mp ht
        exact (i.2.2.2.2.1 q).mpr ⟨t, t1, e1, of_decide_eq_true t2⟩
  rw [List.length_map] at h2
  omega
theorem c_inQ (r : RBp h p X) (i : IP (bA X)) {j : Nat} (hj : j < (aQ (bA X)).length) {K : Int32 → AH → Prop} : wX7_inQueue 65 (nI j) h K ↔ K (nI ((aQ (bA X))[j])) h := by
  have s := r.2.2.1
  have h8 := i.q8
  have hq : (aQ (bA X))[j]? = some (aQ (bA X))[j] := List.getElem?_eq_getElem hj
  have e := s.q hq
  unfold wX7_inQueue
  rw [s.2.2.2.1, s.1.m2, s.1.l34, nI_clamp (by omega), e]
  constructor
  · intro z
    exact ((z.2 (by rw [lt0_f (by omega)]; exact id)).2.2 (nI_ge hj (by omega))).2.2
  · intro z
    exact ⟨fun y => absurd y (by rw [lt0_f (by omega)]; exact id), fun _ => ⟨s.1.o, fun y => absurd y (nI_ge hj (by omega)), fun _ => ⟨s.1.a34, vp_in_nI (by omega) (by decide), z⟩⟩⟩
theorem q_n (i : IP A) (bn : BN A) {q : Nat} (hq : q ∈ aQ A) : q < 2 ^ 31 := by
  obtain ⟨u, hu, e, -⟩ := (i.2.2.2.2.1 _).mp hq
  have := (i.2.1 u hu).2.2.2.1
  have := bn.1
  omega
theorem qin_l (r : RBp h p X) (i : IP (bA X)) (bn : BN (bA X)) {C : Nat → Int32 → Int32 → AH → Prop} {x : Nat} {v : Int32} (hx : x < (aQ (bA X)).length) (k : C 65 v (nI x) h) : ∀ j y, y + j = x → wX3_queueIsSound_L74 K C (j + 1) 65 v (nI x) (nI y) h := by
  have s := r.2.2.1
  have h8 := i.q8
  intro j
  induction j with
  | zero =>
    intro y hy
    rw [wX3_queueIsSound_L74]; dsimp only
    exact ⟨fun _ => k, fun z => absurd (nI_le (by omega) (by omega)) z⟩
  | succ j ih =>
    intro y hy
    have hyl : y < (aQ (bA X)).length := by omega
    rw [wX3_queueIsSound_L74]; dsimp only
    rw [c_inQ r i hyl, c_inQ r i hx, nI_eq (q_n i bn (List.getElem_mem _)) (q_n i bn (List.getElem_mem _)), nI_add]
    refine ⟨fun z => absurd z (nI_ge (by omega) (by omega)), fun _ => ⟨s.1.o, s.1.o, fun _ => ih (y + 1) (by omega), fun z => ?_⟩⟩
    exact absurd z ((List.pairwise_iff_getElem.mp i.2.2.2.1) y x hyl hx (by omega))
theorem qout_l (r : RBp h p X) (i : IP (bA X)) (bn : BN (bA X)) (k : K (nI 1) h) : ∀ j x, x + j = (aQ (bA X)).length → wX3_queueIsSound_L40 K (j + 1) 65 (nI ((aT (bA X)).countP (fun t => decide (tr t ≠ [])))) (nI x) h := by
  have s := r.2.2.1
  have h8 := i.q8
  intro j
  induction j with
  | zero =>
    intro x hx
    have hx' : x = (aQ (bA X)).length := by omega
    subst hx'
    rw [wX3_queueIsSound_L40]; dsimp only
    rw [s.2.2.2.1, s.2.2.1, nI_add, cnt_q i]
    exact ⟨s.1.o, fun _ => ⟨fun z => absurd rfl z, fun _ => k⟩, fun z => absurd (nI_le (Nat.le_refl _) (by omega)) z⟩
  | succ j ih =>
    intro x hx
    have hxl : x < (aQ (bA X)).length := by omega
    rw [wX3_queueIsSound_L40]; dsimp only
    rw [s.2.2.2.1, c_inQ r i hxl]
    obtain ⟨t, hf, ht, e1, e2⟩ := fnd_q i (by have := bn.1; omega) (List.getElem_mem hxl)
    refine ⟨s.1.o, fun z => absurd z (nI_ge hxl (by omega)), fun _ => ⟨s.1.o, c_find s i.it (fun c hc => ?_)⟩⟩
    unfold fr_ at hc
    rw [hf] at hc
    obtain ⟨y, hy, hyt, rfl⟩ := hc
    have h1 := s.1.tR hy
    have q0 := s.1.tO hy
    have hb := (tr_b31 r i ht).1
    refine ⟨fun z => absurd z (by omega), fun _ => ⟨q0, ?_⟩⟩
    rw [c_isRouted q0 (s.t hyt) (show bts (tr t) < 2 ^ 31 by omega), if_pos e2]
    refine ⟨fun _ => ⟨x + 1, qin_l r i bn hxl ?_ x 0 (by omega)⟩, fun z => absurd rfl z⟩
    rw [nI_add]
    exact ih (x + 1) (by omega)
theorem qcnt_l (r : RBp h p X) (i : IP (bA X)) {C : Nat → Int32 → AH → Prop} (k : C 65 (nI ((aT (bA X)).countP (fun t => decide (tr t ≠ [])))) h) : ∀ j x, x + j = (aT (bA X)).length → wX3_queueIsSound_L4 K C (j + 1) 65 (nI (((aT (bA X)).take x).countP (fun t => decide (tr t ≠ [])))) (nI x) h := by
  have s := r.2.2.1
  have h8 := i.1
  intro j
  induction j with
  | zero =>
    intro x hx
    have hx' : x = (aT (bA X)).length := by omega
    subst hx'
    rw [wX3_queueIsSound_L4]; dsimp only
    rw [s.2.2.1, List.take_length]
    exact ⟨s.1.o, fun _ => k, fun z => absurd (nI_le (Nat.le_refl _) (by omega)) z⟩
  | succ j ih =>
    intro x hx
    have hxl : x < (aT (bA X)).length := by omega
    obtain ⟨t, ht, hm⟩ := T_get hxl
    have hb := (tr_b31 r i hm).1
    have q := s.t ht
    have q0 : isO h (mR h 98 x) 6 := s.1.tO (by omega)
    have m33 : mR h 65 1 = 98 := s.1.m1
    have a33 : isA h 98 6 := s.1.a33
    have l33 : ln h 98 = 8 := s.1.l33
    have := ih (x + 1) (by omega)
    rw [take_s ht, List.countP_append] at this
    have h2 : ([t] : List TG).countP (fun t => decide (tr t ≠ [])) = if tr t = [] then 0 else 1 := by
      rw [List.countP_cons, List.countP_nil]
      by_cases e : tr t = []
      · simp [e]
      · simp [e]
    rw [h2] at this
    rw [wX3_queueIsSound_L4]; dsimp only
    rw [s.2.2.1, m33, l33, nI_clamp (by omega), c_isRouted q0 q (by omega), nI_add, nI_add, nI_add]
    refine ⟨s.1.o, fun z => absurd z (nI_ge hxl (by omega)), fun _ => ⟨a33, vp_in_nI (by omega) (by decide), q0, ?_⟩⟩
    by_cases e : tr t = []
    · rw [if_pos e] at this ⊢
      exact ⟨fun _ => this, fun z => absurd rfl z⟩
    · rw [if_neg e] at this ⊢
      exact ⟨fun z => absurd z (by rw [n1_ne]; exact id), fun _ => this⟩
theorem c9_isConsistent (r : RBc h X) (i : IP (bA X)) (bn : BN (bA X)) (k : K (nI 1) h) : wX9_isConsistent 64 h K := by
  obtain ⟨p, r⟩ := r
  have s := r.2.2.1
  have one : ∀ {P Q : Prop}, Q → ((nI 1 = nI 0 → P) ∧ (¬ nI 1 = nI 0 → Q)) := fun q => ⟨fun z => absurd z (by rw [n1_ne]; exact id), fun _ => q⟩
  unfold wX9_isConsistent
  refine ⟨r.1.o, ?_⟩
  rw [r.1.f0]
  unfold wX3_hold
  rw [s.1.m0]
  refine ⟨s.1.o, c_lineSound s.2.1.1 (il_gk s.2.1.1.2.2) (one ?_)⟩
  refine ⟨(aT (bA X)).length + 1, ?_⟩
  refine tsound_l r i bn (one ⟨(aT (bA X)).length + 1, ?_⟩) (aT (bA X)).length 0 (by omega)
  refine bsound_l r i (one ⟨(aT (bA X)).length + 1, ?_⟩) (aT (bA X)).length 0 (by omega)
  refine rsound_l r i bn (one ⟨(aT (bA X)).length + 1, ?_⟩) (aT (bA X)).length 0 (by omega)
  refine qcnt_l r i ⟨(aQ (bA X)).length + 1, qout_l r i bn (one ?_) (aQ (bA X)).length 0 (by omega)⟩ (aT (bA X)).length 0 (by omega)
  exact ⟨bool_n.2, k⟩
end CO
