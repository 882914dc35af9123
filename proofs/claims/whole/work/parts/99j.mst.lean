/-! THE MODEL: CONFLICTS, SETS WITHOUT CONFLICT -/
section MMS
variable {h0 h g : AH} {A : AG} {X : BG} {n : Nat} {Q : Nat → Nat → Bool} {K : Int32 → AH → Prop}
theorem rt_12 (k : GK A) {t : TG} (h : tb t < gn (aL A) ∧ td t < gn (aL A)) : ∀ y ∈ rtT A t, y < 12 := by
  have h12 := k.1.1
  have xb := k.2.1.b h.2
  intro y hy
  cases hd : ds (aL A) (td t) (tb t) with
  | none =>
    have hne : tb t ≠ td t := fun z => by
      rw [z, xb.1] at hd
      cases hd
    have hr : rtT A t = [] := (rt_ne xb h.1 hne).mpr ((nx_none xb h.1 hne).mpr hd)
    rw [hr] at hy
    cases hy
  | some d =>
    have := (rt_all k.1 xb h.1 hd).2.2.1 y hy
    omega
theorem m_L22 (s : sM h) {b : Nat} {l : List Nat} (hl : ∀ y ∈ l, y < 12) (hl2 : l.length ≤ 11) (w : wyM h (b :: l)) (kk : K (nI (bts l)) h) : ∀ n k, k + n = l.length → wX10_wayOf_L22 K (n + 1) 606 (nI (bts (l.take k).reverse)) (nI (k + 1)) h := by
  have w1 := w.1
  rw [List.length_cons] at w1
  intro n
  induction n with
  | zero =>
    intro k hk
    have hk' : k = l.length := hk
    rw [wX10_wayOf_L22]; dsimp only
    simp (disch := omega) only [s.o, w1, nI_add, pk_mul, nI_clamp, nI_leI, nI_ltI, nI_eq, vp_in_nI, true_and]
    refine ⟨fun _ => ?_, fun z => absurd (by omega) z⟩
    rw [hk', List.take_length, bts_rev]
    exact kk
  | succ n ih =>
    intro k hk
    have hkl : k < l.length := by omega
    have hc : l[k]? = some l[k] := List.getElem?_eq_getElem hkl
    have hm := hl _ (List.getElem_mem hkl)
    have w2 := w.2 (k + 1) l[k] (by rw [List.getElem?_cons_succ]; exact hc)
    have := ih (k + 1) (by omega)
    rw [List.take_add_one, hc, Option.toList_some, List.reverse_append, List.reverse_singleton, List.singleton_append, bts] at this
    rw [wX10_wayOf_L22]; dsimp only
    simp (disch := omega) only [s.o, s.r12, s.a16, s.l16, w1, w2, nI_add, pk_mul, nI_clamp, nI_leI, nI_ltI, nI_eq, vp_in_nI, true_and, forall_eq, n_shl, n_or]
    exact ⟨fun z => absurd z (by omega), fun _ => this⟩
theorem m_wayOf (s : sM h) (i : IMs A) (bx : BX (aL A)) (r : rm (mI h 607) A) {a : Nat} {t : TG} (ht : (aT A)[a]? = some t) (hne : tb t ≠ td t) (kk : ∀ g, mf [614, 615, 616] [20] h g → K (nI (bts (rtT A t))) g) : wX10_wayOf 606 (nI a) h K := by
  obtain ⟨a8, tm⟩ := i.j8 ht
  obtain ⟨⟨k1, k2, -⟩, -⟩ := i.2.2.2.1 t tm
  have h12 := i.1.1
  have e := r.t a8 ht
  have x := bx.b k2
  unfold wX10_wayOf
  refine ⟨s.o, ?_⟩
  rw [m_train s a8 (show 1 < 19 by decide), e.2.1]
  refine ⟨s.o, ?_⟩
  rw [m_train s a8 (show 2 < 19 by decide), e.2.2.1]
  refine ⟨s.o, m_leads s i.1 x k2 r k1 (fun hd g c w => ?_) (fun d hd g c w => ?_)⟩
  · have he : rtT A t = [] := (rt_ne x k1 hne).mpr ((nx_none x k1 hne).mpr hd)
    have := kk g c
    rw [he] at this
    refine ⟨1, ?_⟩
    rw [wX10_wayOf_L22]; dsimp only
    simp (disch := omega) only [(c.s s).o, w, nI_add, pk_mul, nI_clamp, nI_leI, nI_ltI, nI_eq, vp_in_nI, true_and]
    exact ⟨fun _ => this, fun z => absurd (by decide) z⟩
  · obtain ⟨-, -, a1, -, a2⟩ := rt_all i.1 x k1 hd
    exact ⟨_, m_L22 (c.s s) (fun y hy => by have := a1 y hy; omega) a2 w (kk g c) (rt (aL A) (tb t) (td t)).length 0 (by omega)⟩
theorem m9_conflict (q : RMb h X) (k : GK (bA X)) (hC : aC (bA X) ≤ 9000) {x y : Int32} (kk : mqK h X (qC (bA X) x y) K) : wX10_conflict 606 x y h K := by
  have i := k.ims hC
  have set1 : ∀ (m : Nat) v w, m ≠ 0 → m < 3 → mqK h X (m, nI 0) K → wX10_conflict_J40 K 606 v w 606 (nI m) h := fun m v w hm h3 kk => by
    unfold wX10_conflict_J40
    refine ⟨q.1.o, fun g1 hg1 => ⟨q.1.o, ?_⟩⟩
    have c : mf [614, 615, 616, 617, 618] [0, 20] h g1 := by rw [hg1]; exact mf.uf (by decide)
    have e0 : mI g1 606 0 = nI m := by rw [hg1, mI_uI, if_pos ⟨rfl, rfl⟩]
    rw [e0]
    exact ⟨fun _ => kk.to q c e0, fun z => absurd z (by rw [nI_z (by omega)]; exact hm)⟩
  have bad : ∀ v w, mqK h X (1, nI 0) K → wX10_conflict_J25 K 606 v w 606 h := fun v w kk => set1 1 v w (by decide) (by decide) kk
  unfold wX10_conflict
  unfold qC at kk
  refine ⟨q.1.o, m_placeOf q.1 i q.2.1 (fun hf => ⟨q.1.o, ?_⟩) (fun j t ht hf hx => ⟨q.1.o, ?_⟩)⟩
  · rw [hf] at kk
    refine m_placeOf q.1 i q.2.1 (fun hf2 => ⟨fun _ => bad _ _ kk, fun z => absurd rfl z⟩) (fun j2 u hu hf2 hx2 => ⟨fun _ => bad _ _ kk, fun z => absurd rfl z⟩)
  · obtain ⟨j8, tm_⟩ := i.j8 ht
    refine m_placeOf q.1 i q.2.1 (fun hf2 => ?_) (fun j2 u hu hf2 hx2 => ?_)
    · rw [hf, hf2] at kk
      exact ⟨fun z => absurd z (by rw [nI_nem (by omega)]; exact id), fun _ => ⟨fun z => absurd rfl z, fun _ => bad _ _ kk⟩⟩
    · rw [hf, hf2] at kk
      simp only at kk
      obtain ⟨j28, um_⟩ := i.j8 hu
      have hxy : j = j2 ↔ x = y := by
        rw [← hx, ← hx2]
        have b1 := i.tn tm_
        have b2 := i.tn um_
        refine ⟨fun z => ?_, fun z => ?_⟩
        · subst z
          rw [ht] at hu
          cases hu
          rfl
        · rw [nI_eq (by omega) (by omega)] at z
          exact ix_inj i.2.2.2.2 ht hu z
      refine ⟨fun z => absurd z (by rw [nI_nem (by omega)]; exact id), fun _ => ⟨fun _ => ?_, fun z => absurd z (by rw [nI_nem (by omega)]; exact id)⟩⟩
      rw [nI_eq (by omega) (by omega)]
      refine ⟨fun z => ?_, fun z => ?_⟩
      · rw [if_neg (fun y => z (hxy.mpr y))] at kk
        unfold wX10_conflict_J40
        refine ⟨q.1.o, fun g1 hg1 => ⟨q.1.o, ?_⟩⟩
        have c : mf [614, 615, 616, 617, 618] [0, 20] h g1 := by rw [hg1]; exact mf.uf (by decide)
        have e0 : mI g1 606 0 = nI 0 := by rw [hg1, mI_uI, if_pos ⟨rfl, rfl⟩]
        rw [e0]
        have s1 := c.s q.1
        refine ⟨fun z => absurd rfl z, fun _ => m_wayOf s1 i k.2.1 (q.2.1.fr c (by decide)) ht (k.2.2.2.1 t tm_).2.2.1 (fun g2 c2 => ⟨(c2.s s1).o, m_wayOf (c2.s s1) i k.2.1 ((q.2.1.fr c (by decide)).fr c2 (by decide)) hu (k.2.2.2.1 u um_).2.2.1 (fun g3 c3 => ?_)⟩)⟩
        have := kk.to q (c.tr ((c2.tr c3).mo (by decide) (by decide))) (by rw [c3.f (by decide), c2.f (by decide)]; exact e0)
        have hb : bts (rtT (bA X) t) < 2 ^ 12 := by
          obtain ⟨⟨k1, k2, -⟩, -⟩ := i.2.2.2.1 t tm_
          exact bts_lt (fun y hy => rt_12 k ⟨k1, k2⟩ y hy)
        rw [n_and, nI_z (Nat.lt_of_le_of_lt Nat.and_le_left (by omega)), bts_and]
        unfold cfl at this
        cases hc : (rtT (bA X) t).any (fun b => decide (b ∈ rtT (bA X) u)) with
        | false =>
          rw [hc] at this
          exact ⟨fun _ => this, fun z => absurd rfl z⟩
        | true =>
          rw [hc] at this
          exact ⟨fun z => (by cases z), fun _ => this⟩
      · rw [if_pos (hxy.mp z)] at kk
        exact set1 2 _ _ (by decide) (by decide) kk
/-- what the trains below x of a set use -/
def uS (al : Nat → Nat) (S : Nat) : Nat → Nat
  | 0 => 0
  | x + 1 => if S.testBit x = true then uS al S x ||| al x else uS al S x
theorem uS_z {al : Nat → Nat} {S m : Nat} : ∀ x, uS al S x &&& m = 0 ↔ ∀ j, j < x → S.testBit j = true → al j &&& m = 0 := by
  intro x
  induction x with
  | zero => exact ⟨fun _ j hj => absurd hj (Nat.not_lt_zero j), fun _ => Nat.zero_and m⟩
  | succ x ih =>
    rw [uS]
    by_cases e : S.testBit x = true
    · rw [if_pos e, Nat.and_or_distrib_right, Nat.or_eq_zero_iff, ih]
      constructor
      · rintro ⟨h1, h2⟩ j hj hs
        by_cases z : j = x
        · rw [z]; exact h2
        · exact h1 j (by omega) hs
      · intro h
        exact ⟨fun j hj hs => h j (by omega) hs, h x (by omega) e⟩
    · rw [if_neg e, ih]
      constructor
      · intro h j hj hs
        by_cases z : j = x
        · rw [z] at hs; exact absurd hs e
        · exact h j (by omega) hs
      · exact fun h j hj hs => h j (by omega) hs
theorem uS_lt {al : Nat → Nat} {S m : Nat} : ∀ x, (∀ j, j < x → al j < 2 ^ m) → uS al S x < 2 ^ m := by
  intro x
  induction x with
  | zero => intro _; exact Nat.two_pow_pos m
  | succ x ih =>
    intro h
    rw [uS]
    have h1 := ih (fun j hj => h j (by omega))
    split
    · exact or_lt h1 (h x (by omega))
    · exact h1
/-- no two of the set's trains below x use the same -/
def iS (al : Nat → Nat) (S x : Nat) : Prop := ∀ i j, i < j → j < x → S.testBit i = true → S.testBit j = true → al i &&& al j = 0
def cS (S x : Nat) : Nat := (List.range x).countP (fun i => S.testBit i)
theorem cS_s (S x : Nat) : cS S (x + 1) = cS S x + if S.testBit x = true then 1 else 0 := by
  unfold cS
  rw [List.range_succ, List.countP_append]
  simp [List.countP_cons]
theorem cS_le (S x : Nat) : cS S x ≤ x := by
  have := List.countP_le_length (p := fun i => S.testBit i) (l := List.range x)
  rwa [List.length_range] at this
theorem cS_pc {S n : Nat} (hn : n ≤ 12) (hS : S < 2 ^ n) : cS S n = pc S := by
  have key : ∀ d x, x + d = 12 → n ≤ x → cS S x = cS S 12 := by
    intro d
    induction d with
    | zero => intro x hx _; rw [show x = 12 from hx]
    | succ d ih =>
      intro x hx hg
      rw [← ih (x + 1) (by omega) (by omega), cS_s, if_neg]
      · rfl
      · rw [Nat.testBit_lt_two_pow (Nat.lt_of_lt_of_le hS (Nat.pow_le_pow_right (by decide) hg))]
        decide
  exact key (12 - n) n (by omega) (Nat.le_refl _)
theorem m_L59 (s : sM h) (hn : n ≤ 8) {al : Nat → Nat} (hal : ∀ a, a < n → al a < 2 ^ 12) (e18 : ∀ a, a < n → mI h 618 a = nI (al a)) {S : Nat} (hS : S < 2 ^ 31) {mo : Int32} {C : Nat → Int32 → Int32 → Int32 → Int32 → Int32 → AH → Prop} (kT : iS al S n → C 606 (nI n) mo (nI S) (nI (cS S n)) (nI 1) h) (kF : ¬ iS al S n → ∀ v, C 606 (nI n) mo (nI S) v (nI 0) h) : ∀ d x, x + d = n → iS al S x → wX10_mostWithoutConflict_L59 K C (d + 1) 606 (nI n) mo (nI S) (nI (uS al S x)) (nI (cS S x)) (nI 1) (nI x) h := by
  intro d
  induction d with
  | zero =>
    intro x hx hI
    have hx' : x = n := hx
    subst hx'
    rw [wX10_mostWithoutConflict_L59]; dsimp only
    simp (disch := omega) only [nI_add, pk_mul, nI_clamp, nI_leI, nI_ltI, nI_eq, vp_in_nI]
    exact ⟨fun _ => kT hI, fun z => absurd (Nat.le_refl _) z⟩
  | succ d ih =>
    intro x hx hI
    have hxn : x < n := by omega
    have ea := e18 x hxn
    have hu := uS_lt (S := S) (m := 12) x (fun j hj => hal j (by omega))
    have hx1 := hal x hxn
    have hand : uS al S x &&& al x < 2 ^ 31 := Nat.lt_of_le_of_lt Nat.and_le_left (by omega)
    have n10 : ¬ nI 1 = nI 0 := by decide
    rw [wX10_mostWithoutConflict_L59]; dsimp only
    simp (disch := omega) only [s.o, s.r14, s.a18, s.l18, nI_add, pk_mul, nI_clamp, nI_leI, nI_ltI, nI_eq, vp_in_nI, true_and, ea, shr_b]
    simp only [n_and, nI_z hand]
    refine ⟨fun z => absurd z (by omega), fun _ => ⟨fun z => absurd z (by decide), fun _ => ?_⟩⟩
    by_cases e : S.testBit x = true
    · rw [if_pos e]
      refine ⟨fun _ => ⟨fun z => ?_, fun z => ?_⟩, fun z => absurd z (by decide)⟩
      · unfold wX10_mostWithoutConflict_J100
        simp (disch := omega) only [s.o, s.r14, s.a18, s.l18, nI_add, pk_mul, nI_clamp, nI_leI, nI_ltI, nI_eq, vp_in_nI, true_and, ea, forall_eq]
        rw [wX10_mostWithoutConflict_L59.eq_def]
        have bad : ¬ iS al S n := fun y => z ((uS_z x).mpr (fun j hj hs => y j x hj hxn hs e))
        cases d with
        | zero =>
          dsimp only
          exact ⟨fun _ => kF bad _, fun z => ⟨fun _ => kF bad _, fun z => absurd rfl z⟩⟩
        | succ d =>
          dsimp only
          exact ⟨fun _ => kF bad _, fun z => ⟨fun _ => kF bad _, fun z => absurd rfl z⟩⟩
      · unfold wX10_mostWithoutConflict_J100
        simp (disch := omega) only [s.o, s.r14, s.a18, s.l18, nI_add, pk_mul, nI_clamp, nI_leI, nI_ltI, nI_eq, vp_in_nI, true_and, ea, forall_eq, n_or]
        have := ih (x + 1) (by omega) (fun i j hij hj h1 h2 => by
          by_cases y : j = x
          · rw [y]
            exact (uS_z x).mp z i (by omega) h1
          · exact hI i j hij (by omega) h1 h2)
        rw [uS, if_pos e, cS_s, if_pos e] at this
        exact this
    · rw [if_neg e]
      refine ⟨fun z => absurd rfl z, fun _ => ?_⟩
      have := ih (x + 1) (by omega) (fun i j hij hj h1 h2 => by
        by_cases y : j = x
        · rw [y] at h2
          exact absurd h2 e
        · exact hI i j hij (by omega) h1 h2)
      rw [uS, if_neg e, cS_s, if_neg e] at this
      exact this
theorem m_L40 (s : sM h) (hn : n ≤ 8) {al : Nat → Nat} (hal : ∀ a, a < n → al a < 2 ^ 12) (e18 : ∀ a, a < n → mI h 618 a = nI (al a)) (hQ : ∀ S, S < 2 ^ n → (iS al S n ↔ ind Q n S = true)) (kk : K (nI (mxs (isz Q n) (2 ^ n))) h) : ∀ d x, x + d = 2 ^ n → wX10_mostWithoutConflict_L40 K (d + 1) 606 (nI n) (nI (mxs (isz Q n) x)) (nI x) h := by
  have h28 : 2 ^ n ≤ 2 ^ 8 := Nat.pow_le_pow_right (by decide) hn
  have hmx : ∀ x, mxs (isz Q n) x ≤ 12 := fun x => mxs_le x (fun S _ => by
    unfold isz
    split
    · exact pc_le S
    · exact Nat.zero_le _)
  intro d
  induction d with
  | zero =>
    intro x hx
    have hx' : x = 2 ^ n := hx
    rw [wX10_mostWithoutConflict_L40]; dsimp only
    rw [n_shl n (by omega), nI_leI (by omega) (by omega)]
    rw [hx']
    exact ⟨fun _ => kk, fun z => absurd (Nat.le_refl _) z⟩
  | succ d ih =>
    intro x hx
    have hx2 : x < 2 ^ n := by omega
    have h1 := hmx x
    have h2 := cS_le x n
    have := ih (x + 1) (by omega)
    rw [mxs] at this
    rw [wX10_mostWithoutConflict_L40]; dsimp only
    rw [n_shl n (by omega), nI_leI (by omega) (by omega)]
    refine ⟨fun z => absurd z (by omega), fun _ => ⟨n + 1, ?_⟩⟩
    refine m_L59 (K := K) s hn hal e18 (S := x) (by omega) (fun hI => ?_) (fun hI v => ?_) n 0 (by omega) (fun i j hij hj => absurd hj (Nat.not_lt_zero j))
    · have hi : isz Q n x = cS x n := by
        unfold isz
        rw [if_pos ((hQ x hx2).mp hI), cS_pc (by omega) hx2]
      rw [hi] at this
      refine ⟨fun z => absurd z (by decide), fun _ => ?_⟩
      rw [nI_leI (by omega) (by omega), nI_add]
      refine ⟨fun z => ?_, fun z => ?_⟩
      · rw [Nat.max_eq_left z] at this
        exact this
      · rw [Nat.max_eq_right (by omega)] at this
        exact this
    · have hi : isz Q n x = 0 := by
        unfold isz
        rw [if_neg (fun z => hI ((hQ x hx2).mpr z))]
      rw [hi, Nat.max_zero] at this
      rw [nI_add]
      exact ⟨fun _ => this, fun z => absurd rfl z⟩
theorem m_mst_out (s : sM h0) (i : IMs A) (bx : BX (aL A)) (hne : ∀ t ∈ aT A, tb t ≠ td t) (r : rm (mI h0 607) A) {C : Nat → Int32 → AH → Prop} (k : ∀ g, mw h0 g → mI g 606 0 = nI 0 → (∀ a t, (aT A)[a]? = some t → mI g 618 a = nI (bts (rtT A t))) → C 606 (nI (aT A).length) g) : ∀ j x g, x + j = (aT A).length → mw h0 g → mI g 606 0 = nI 0 → (∀ a t, a < x → (aT A)[a]? = some t → mI g 618 a = nI (bts (rtT A t))) → wX10_mostWithoutConflict_L14 K C (j + 1) 606 (nI (aT A).length) (nI x) g := by
  have h8 := i.2.1
  have nz18 : (nZ ≤ 618) = True := eq_true (by decide)
  intro j
  induction j with
  | zero =>
    intro x g hx c e0 q
    have hx' : x = (aT A).length := hx
    subst hx'
    rw [wX10_mostWithoutConflict_L14]; dsimp only
    simp (disch := omega) only [nI_add, pk_mul, nI_clamp, nI_leI, nI_ltI, nI_eq, vp_in_nI]
    exact ⟨fun _ => k g c e0 (fun a t ha => q a t (List.getElem?_eq_some_iff.mp ha).1 ha), fun z => absurd (Nat.le_refl _) z⟩
  | succ j ih =>
    intro x g hx c e0 q
    have s' := c.s s
    obtain ⟨t, ht, tm⟩ := T_get (show x < (aT A).length by omega)
    rw [wX10_mostWithoutConflict_L14]; dsimp only
    simp (disch := omega) only [s'.o, s'.r14, nI_add, pk_mul, nI_clamp, nI_leI, nI_ltI, nI_eq, vp_in_nI, true_and]
    refine ⟨fun z => absurd z (by omega), fun _ => m_wayOf s' i bx (r.fr c (by decide)) ht (hne t tm) (fun g2 c2 => ?_)⟩
    have s2 := c2.s s'
    simp (disch := omega) only [s2.a18, s2.l18, nz18, nI_add, pk_mul, nI_clamp, nI_leI, nI_ltI, nI_eq, vp_in_nI, true_and, forall_eq]
    have c3 : mw g2 (uI g2 618 x (nI (bts (rtT A t)))) := mf.ui (by decide) (by decide)
    refine ih (x + 1) _ (by omega) (c.tr ((c2.mo (by decide) (by decide)).tr c3)) ?_ (fun a u ha hu => ?_)
    · rw [mI_o (by decide), c2.f (by decide)]; exact e0
    · rw [mI_uI]
      by_cases z : a = x
      · rw [if_pos ⟨rfl, z⟩]
        rw [z, ht] at hu
        cases hu
        rfl
      · rw [if_neg (fun y => z y.2), c2.c (by decide) (by decide)]
        exact q a u (by omega) hu
theorem m9_mostWithoutConflict (q : RMb h X) (k : GK (bA X)) (hC : aC (bA X) ≤ 9000) (kk : mqK h X (0, nI (mst (bA X))) K) : wX10_mostWithoutConflict 606 h K := by
  have i := k.ims hC
  have h8 := i.2.1
  have s := q.1
  have hne : ∀ t ∈ aT (bA X), tb t ≠ td t := fun t ht => (k.2.2.2.1 t ht).2.2.1
  refine ⟨s.o, fun g hg => ?_⟩
  have c : mw h g := by rw [hg]; exact mf.uf (by decide)
  have e0 : mI g 606 0 = nI 0 := by rw [hg, mI_uI, if_pos ⟨rfl, rfl⟩]
  have e4 : mI g 607 4 = nI (aT (bA X)).length := by rw [c.c (by decide) (by decide)]; exact q.2.1.1.2.2.2.2.1
  simp (disch := omega) only [s.r1, s.a7, s.l7, nI_add, pk_mul, nI_clamp, nI_leI, nI_ltI, nI_eq, vp_in_nI, true_and, e4, forall_eq]
  refine ⟨(aT (bA X)).length + 1, m_mst_out s i k.2.1 hne q.2.1 (fun g2 c2 e2 r2 => ⟨2 ^ (aT (bA X)).length + 1, ?_⟩) (aT (bA X)).length 0 g (by omega) c e0 (fun a t ha => absurd ha (Nat.not_lt_zero a))⟩
  have hal : ∀ a t, (aT (bA X))[a]? = some t → bts (rtT (bA X) t) < 2 ^ 12 := fun a t ha => by
    obtain ⟨⟨k1, k2, -⟩, -⟩ := i.2.2.2.1 t (List.mem_of_getElem? ha)
    exact bts_lt (fun y hy => rt_12 k ⟨k1, k2⟩ y hy)
  refine m_L40 (Q := prl (cfl (bA X)) (aT (bA X))) (c2.s s) h8 (al := fun a => match (aT (bA X))[a]? with
    | some t => bts (rtT (bA X) t)
    | none => 0) (fun a ha => ?_) (fun a ha => ?_) (fun S hS => ?_) (kk.to q c2 e2) (2 ^ (aT (bA X)).length) 0 (by omega)
  · obtain ⟨t, ht, -⟩ := T_get ha
    rw [ht]
    exact hal a t ht
  · obtain ⟨t, ht, -⟩ := T_get ha
    rw [ht]
    exact r2 a t ht
  · rw [ind_iff]
    have eP : ∀ a b, a < (aT (bA X)).length → b < (aT (bA X)).length → a ≠ b → (((match (aT (bA X))[a]? with
      | some t => bts (rtT (bA X) t)
      | none => 0) &&& (match (aT (bA X))[b]? with
      | some t => bts (rtT (bA X) t)
      | none => 0) = 0) ↔ prl (cfl (bA X)) (aT (bA X)) a b = false) := fun a b ha hb hab => by
      obtain ⟨t, ht, -⟩ := T_get ha
      obtain ⟨u, hu, -⟩ := T_get hb
      unfold prl
      rw [ht, hu]
      simp only [bts_and, hab, ne_eq, not_false_eq_true, decide_true, Bool.true_and]
      rfl
    constructor
    · intro hI a b ha hb h1 h2
      rcases Nat.lt_trichotomy a b with z | z | z
      · exact (eP a b ha hb (by omega)).mp (hI a b z hb h1 h2)
      · rw [z]; exact prl_ii _ _ _
      · rw [prl_s]
        exact (eP b a hb ha (by omega)).mp (hI b a z ha h2 h1)
    · intro hI a b hab hb h1 h2
      exact (eP a b (by omega) hb (by omega)).mpr (hI a b (by omega) hb h1 h2)
theorem m9_mostWithoutConflictBySets (q : RMb h X) (k : GK (bA X)) (hC : aC (bA X) ≤ 9000) (kk : mqK h X (0, nI (mst (bA X))) K) : wX10_mostWithoutConflictBySets 606 h K := by
  unfold wX10_mostWithoutConflictBySets
  exact ⟨q.1.o, m9_mostWithoutConflict q k hC kk⟩
end MMS
