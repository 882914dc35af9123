/-! THE CLASS'S STATES: trains and queue -/
def shS (h : AH) (S : Nat) : Prop := shL h (S + 1) ∧ mS h S = (6, 0) ∧ mS h (S + 33) = (106, 8) ∧ mS h (S + 34) = (100, 8) ∧ (∀ i, i < 8 → mS h (S + 35 + i) = (7, 0)) ∧ mR h S 0 = S + 1 ∧ mR h S 1 = S + 33 ∧ mR h S 2 = S + 34 ∧ (∀ i, i < 8 → S + 35 ≤ mR h (S + 33) i ∧ mR h (S + 33) i < S + 43) ∧ ∀ i j, i < 8 → j < 8 → mR h (S + 33) i = mR h (S + 33) j → i = j
theorem shS.lg {h : AH} {S : Nat} (s : shS h S) : shL h (S + 1) := s.1
theorem shS.o {h : AH} {S : Nat} (s : shS h S) : isO h S 5 := s.2.1
theorem shS.a33 {h : AH} {S : Nat} (s : shS h S) : isA h (S + 33) 6 := congrArg Prod.fst s.2.2.1
theorem shS.l33 {h : AH} {S : Nat} (s : shS h S) : ln h (S + 33) = 8 := congrArg Prod.snd s.2.2.1
theorem shS.a34 {h : AH} {S : Nat} (s : shS h S) : isA h (S + 34) 0 := congrArg Prod.fst s.2.2.2.1
theorem shS.l34 {h : AH} {S : Nat} (s : shS h S) : ln h (S + 34) = 8 := congrArg Prod.snd s.2.2.2.1
theorem shS.m0 {h : AH} {S : Nat} (s : shS h S) : mR h S 0 = S + 1 := s.2.2.2.2.2.1
theorem shS.m1 {h : AH} {S : Nat} (s : shS h S) : mR h S 1 = S + 33 := s.2.2.2.2.2.2.1
theorem shS.m2 {h : AH} {S : Nat} (s : shS h S) : mR h S 2 = S + 34 := s.2.2.2.2.2.2.2.1
theorem shS.tR {h : AH} {S : Nat} (s : shS h S) {i : Nat} (hi : i < 8) : S + 35 ≤ mR h (S + 33) i ∧ mR h (S + 33) i < S + 43 := s.2.2.2.2.2.2.2.2.1 i hi
theorem shS.ti {h : AH} {S : Nat} (s : shS h S) {i j : Nat} (hi : i < 8) (hj : j < 8) (e : mR h (S + 33) i = mR h (S + 33) j) : i = j := s.2.2.2.2.2.2.2.2.2 i j hi hj e
theorem shS.tO {h : AH} {S : Nat} (s : shS h S) {i : Nat} (hi : i < 8) : isO h (mR h (S + 33) i) 6 := by
  obtain ⟨h1, h2⟩ := s.tR hi
  have := s.2.2.2.2.1 (mR h (S + 33) i - (S + 35)) (by omega)
  rw [show S + 35 + (mR h (S + 33) i - (S + 35)) = mR h (S + 33) i by omega] at this
  exact this
theorem shS.z {h : AH} {S : Nat} (s : shS h S) (k : Nat) (hk : 1 ≤ k) : nZ ≤ S + k := by
  have := s.1.1
  show 64 ≤ S + k
  omega
/-- a train's cell -/
def cnT (h : AH) (c : Nat) (t : TG) : Prop := mI h c 0 = nI (tn t) ∧ mI h c 1 = nI (tb t) ∧ mI h c 2 = nI (td t) ∧ mI h c 3 = nI (bts (tr t)) ∧ (tr t ≠ [] → mI h c 4 = nI (tu t)) ∧ mI h c 5 = nI (tl t)
def cnP (h : AH) (S : Nat) (A : AG) : Prop := mI h S 3 = nI (aT A).length ∧ mI h S 4 = nI (aQ A).length ∧ mI h S 5 = nI (aC A) ∧ mI h S 6 = nI (aO A) ∧ mI h S 7 = nI (aM A) ∧ mL h S 8 = lN (aD A) ∧ (∀ i t, (aT A)[i]? = some t → cnT h (mR h (S + 33) i) t) ∧ (∀ i q, (aQ A)[i]? = some q → mI h (S + 34) i = nI q) ∧ (aT A).length ≤ 8 ∧ (aQ A).length ≤ 8
/-- from a train's block the exits lead over its set route -/
def led (G : LG) : Nat → List Nat → Prop
  | _, [] => True
  | b, c :: l => xo G b = some c ∧ led G c l
def tOk (A : AG) (t : TG) : Prop := tb t < gn (aL A) ∧ td t < gn (aL A) ∧ tb t ≠ td t ∧ tn t < aC A ∧ (∀ b ∈ tr t, b < gn (aL A)) ∧ led (aL A) (tb t) (tr t) ∧ (tr t ≠ [] → (tr t).getLast? = some (td t) ∧ aM A < tu t ∧ tu t ≤ aM A + gl (aL A) ((tr t).headD 0)) ∧ (th_ t).Nodup ∧ ∀ b ∈ tr t, (gh (aL A)).testBit b = false
def IP (A : AG) : Prop := (aT A).length ≤ 8 ∧ (∀ t ∈ aT A, tOk A t) ∧ (aT A).Pairwise (fun t u => tn t < tn u ∧ ∀ b ∈ th_ t, b ∉ th_ u) ∧ (aQ A).Nodup ∧ (∀ q, q ∈ aQ A ↔ ∃ t ∈ aT A, tn t = q ∧ tr t = []) ∧ (aT A).length + aO A = aC A ∧ ((aT A).map tl).sum ≤ aD A
def tIn (A : AG) (t : TG) : Prop := tb t < gn (aL A) ∧ td t < gn (aL A) ∧ ∀ b ∈ tr t, b < gn (aL A)
def IT (A : AG) : Prop := (aT A).length ≤ 8 ∧ ∀ t ∈ aT A, tIn A t
theorem IP.it {A : AG} (i : IP A) : IT A := ⟨i.1, fun t ht => by
  obtain ⟨k1, k2, -, -, k5, -⟩ := i.2.1 t ht
  exact ⟨k1, k2, k5⟩⟩
def BD (c : Nat) (A : AG) : Prop := aC A ≤ 12 * c ∧ aM A ≤ 2880 * c ∧ aD A ≤ 8 * aM A
/-- bounds that the number of calls gives -/
def BN (A : AG) : Prop := aC A < 9000 ∧ aM A < 2000000 ∧ aD A < 16000000
def rpS (h : AH) (S : Nat) (A : AG) : Prop := shS h S ∧ rpL h (S + 1) (aL A) ∧ cnP h S A
section ST
variable {h : AH} {S : Nat} {A : AG}
theorem IP.ql (i : IP A) : (aQ A).length ≤ (aT A).length := by
  obtain ⟨i1, i2, i3, i4, i5, -⟩ := i
  have h1 : ∀ q ∈ aQ A, q ∈ (aT A).map tn := fun q hq => by
    obtain ⟨t, ht, e, -⟩ := (i5 q).mp hq
    exact List.mem_map.mpr ⟨t, ht, e⟩
  have key : ∀ (l m : List Nat), l.Nodup → (∀ q ∈ l, q ∈ m) → l.length ≤ m.length := by
    intro l
    induction l with
    | nil => intro m _ _; exact Nat.zero_le _
    | cons x l ih =>
      intro m hn hm
      have hx := hm x List.mem_cons_self
      have := ih (m.erase x) (List.nodup_cons.mp hn).2 (fun q hq => by
        have hne : q ≠ x := fun z => (List.nodup_cons.mp hn).1 (z ▸ hq)
        exact (List.mem_erase_of_ne hne).mpr (hm q (List.mem_cons_of_mem _ hq)))
      rw [List.length_erase_of_mem hx] at this
      have h2 : 0 < m.length := List.length_pos_of_mem hx
      simp only [List.length_cons]
      omega
  have := key (aQ A) ((aT A).map tn) i4 h1
  rw [List.length_map] at this
  exact this
theorem IP.q8 (i : IP A) : (aQ A).length ≤ 8 := Nat.le_trans i.ql i.1
theorem rpS.t (p : rpS h S A) {i : Nat} {t : TG} (ht : (aT A)[i]? = some t) : cnT h (mR h (S + 33) i) t := p.2.2.2.2.2.2.2.2.1 i t ht
theorem rpS.q (p : rpS h S A) {i q : Nat} (hq : (aQ A)[i]? = some q) : mI h (S + 34) i = nI q := p.2.2.2.2.2.2.2.2.2.1 i q hq
theorem tIn.b12 {t : TG} (i : IL (aL A)) (k : tIn A t) : bts (tr t) < 2 ^ 12 ∧ bts (th_ t) < 2 ^ 12 := by
  obtain ⟨k1, k2, k5⟩ := k
  have h12 := i.1
  exact ⟨bts_lt fun b hb => by have := k5 b hb; omega, bts_lt fun b hb => by
    rcases List.mem_cons.mp hb with rfl | hb
    · omega
    · have := k5 b hb; omega⟩
theorem c_isRouted {c : Nat} {t : TG} (hO : isO h c 6) (q : cnT h c t) (hb : bts (tr t) < 2 ^ 31) {K : Int32 → AH → Prop} : wX8_isRouted c h K ↔ K (if tr t = [] then nI 0 else nI 1) h := by
  unfold wX8_isRouted
  rw [q.2.2.2.1, nI_z hb, show (bts (tr t) = 0) = (tr t = []) from propext (bts_0 _)]
  by_cases e : tr t = [] <;> simp [hO, e]
theorem c_heldT {c : Nat} {t : TG} (hO : isO h c 6) (q : cnT h c t) (hb : tb t < 31) {K : Int32 → AH → Prop} : wX8_held c h K ↔ K (nI (bts (th_ t))) h := by
  unfold wX8_held
  rw [q.2.2.2.1, q.2.1, n_shl _ hb, n_or]
  simp [hO]
  rfl
theorem isReserved_l (p : rpS h S A) (i : IT A) {b : Nat} (hb : b < 31) {K : Int32 → AH → Prop} (k : K (if resv A b = true then nI 1 else nI 0) h) : ∀ j x, x + j = (aT A).length → (∀ u ∈ (aT A).take x, b ∉ tr u) → wX7_isReserved_L2 K (j + 1) S (nI b) (nI x) h := by
  have h8 := i.1
  intro j
  induction j with
  | zero =>
    intro x hx hno
    rw [wX7_isReserved_L2]; dsimp only; rw [p.2.2.1]
    have hx' : x = (aT A).length := by omega
    subst hx'
    rw [List.take_length] at hno
    have : resv A b = false := by
      unfold resv
      rw [List.any_eq_false]
      intro t ht
      simpa using hno t ht
    rw [this] at k
    exact ⟨p.1.o, fun _ => k, fun z => absurd (nI_le (Nat.le_refl _) (by omega)) z⟩
  | succ j ih =>
    intro x hx hno
    rw [wX7_isReserved_L2]; dsimp only; rw [p.2.2.1]
    have hxl : x < (aT A).length := by omega
    obtain ⟨t, ht⟩ : ∃ t, (aT A)[x]? = some t := ⟨_, List.getElem?_eq_getElem hxl⟩
    have hm := List.mem_of_getElem? ht
    have q := p.t ht
    have hk := (i.2 t hm).b12 p.2.1.1.2.2
    refine ⟨p.1.o, fun z => absurd z (nI_ge hxl (by omega)), fun _ => ?_⟩
    simp (disch := omega) only [p.1.o, p.1.m0, p.1.m1, p.1.m2, p.1.a33, p.1.l33, p.1.a34, p.1.l34, p.1.lg.o, nI_clamp, vp_in_nI, p.1.tO (show x < 8 by omega), q.2.2.2.1, c_con (show bts (tr t) < 2 ^ 31 by omega) hb, bts_tb, nI_add, true_and]
    by_cases hin : b ∈ tr t
    · have : resv A b = true := by
        unfold resv
        rw [List.any_eq_true]
        exact ⟨t, hm, by simpa using hin⟩
      rw [this] at k
      simp (disch := omega) only [hin, decide_true, if_true, n0_eq, n1_ne, Nat.one_ne_zero, vp_in_nI, false_implies, not_false_eq_true, forall_const, true_and]
      exact k
    · simp (disch := omega) only [hin, decide_false, Bool.false_eq_true, if_false, n0_eq, n1_ne, Nat.one_ne_zero, vp_in_nI, not_true_eq_false, false_implies, and_true, true_and, forall_const]
      refine ih (x + 1) (by omega) (fun u hu => ?_)
      rw [List.take_add_one, ht, Option.toList_some, List.mem_append, List.mem_singleton] at hu
      rcases hu with hu | rfl
      · exact hno u hu
      · exact hin
theorem c_isReserved (p : rpS h S A) (i : IT A) {b : Nat} (hb : b < 31) {K : Int32 → AH → Prop} (k : K (if resv A b = true then nI 1 else nI 0) h) : wX7_isReserved S (nI b) h K :=
  ⟨(aT A).length + 1, isReserved_l p i hb k _ 0 (by omega) (fun u hu => by simp at hu)⟩
theorem T_get {x : Nat} (hx : x < (aT A).length) : ∃ t, (aT A)[x]? = some t ∧ t ∈ aT A := ⟨_, List.getElem?_eq_getElem hx, List.getElem_mem hx⟩
theorem take_s {α : Type} {l : List α} {x : Nat} {t : α} (ht : l[x]? = some t) : l.take (x + 1) = l.take x ++ [t] := by
  rw [List.take_add_one, ht, Option.toList_some]
theorem find_none {α : Type} {l : List α} {f : α → Bool} (h : ∀ u ∈ l, f u = false) : l.find? f = none := List.find?_eq_none.mpr (fun u hu => by rw [h u hu]; simp)
theorem find_at {α : Type} {l : List α} {f : α → Bool} {x : Nat} {t : α} (ht : l[x]? = some t) (hno : ∀ u ∈ l.take x, f u = false) (hf : f t = true) : l.find? f = some t := by
  have e : l = l.take x ++ t :: l.drop (x + 1) := by
    obtain ⟨hlt, he⟩ := (List.getElem?_eq_some_iff.mp ht)
    rw [← he, ← List.drop_eq_getElem_cons hlt, List.take_append_drop]
  rw [e, List.find?_append, find_none hno, Option.none_or, List.find?_cons_of_pos hf]
/-- the sets of trains, one after another -/
def hbt : List TG → Nat
  | [] => 0
  | t :: l => bts (th_ t) ||| hbt l
theorem hbt_app (l : List TG) (t : TG) : hbt (l ++ [t]) = hbt l ||| bts (th_ t) := by
  induction l with
  | nil => simp [hbt]
  | cons u l ih => simp only [List.cons_append, hbt, ih, Nat.or_assoc]
theorem hbt_tb (l : List TG) (b : Nat) : (hbt l).testBit b = l.any (fun t => decide (b ∈ th_ t)) := by
  induction l with
  | nil => simp [hbt]
  | cons t l ih => rw [hbt, Nat.testBit_or, ih, bts_tb, List.any_cons]
theorem hbt_lt {n : Nat} : ∀ l : List TG, (∀ t ∈ l, bts (th_ t) < 2 ^ n) → hbt l < 2 ^ n
  | [], _ => Nat.two_pow_pos n
  | t :: l, h => or_lt (h t List.mem_cons_self) (hbt_lt l fun u hu => h u (List.mem_cons_of_mem _ hu))
theorem hbt_occ (A : AG) (b : Nat) : (hbt (aT A)).testBit b = (occ A b || resv A b) := by
  rw [hbt_tb]
  unfold occ resv
  induction aT A with
  | nil => rfl
  | cons t l ih =>
    simp only [List.any_cons, ih]
    have : decide (b ∈ th_ t) = (decide (tb t = b) || decide (b ∈ tr t)) := by
      unfold th_
      by_cases h1 : tb t = b
      · subst h1; simp
      · have h2 : ¬ b = tb t := fun z => h1 z.symm
        simp [h1, h2]
    rw [this]
    cases decide (tb t = b) <;> cases decide (b ∈ tr t) <;> simp
theorem held_l (p : rpS h S A) (i : IT A) {K : Int32 → AH → Prop} (k : K (nI (hbt (aT A))) h) : ∀ j x, x + j = (aT A).length → wX7_held_L4 K (j + 1) S (nI (hbt ((aT A).take x))) (nI x) h := by
  have h8 := i.1
  intro j
  induction j with
  | zero =>
    intro x hx
    rw [wX7_held_L4]; dsimp only; rw [p.2.2.1]
    have hx' : x = (aT A).length := by omega
    subst hx'
    rw [List.take_length]
    exact ⟨p.1.o, fun _ => k, fun z => absurd (nI_le (Nat.le_refl _) (by omega)) z⟩
  | succ j ih =>
    intro x hx
    rw [wX7_held_L4]; dsimp only; rw [p.2.2.1]
    have hxl : x < (aT A).length := by omega
    obtain ⟨t, ht, hm⟩ := T_get hxl
    have hk := i.2 t hm
    have h12 := p.2.1.1.n12
    refine ⟨p.1.o, fun z => absurd z (nI_ge hxl (by omega)), fun _ => ?_⟩
    simp (disch := omega) only [p.1.o, p.1.m0, p.1.m1, p.1.m2, p.1.a33, p.1.l33, p.1.a34, p.1.l34, p.1.lg.o, nI_clamp, vp_in_nI, p.1.tO (show x < 8 by omega), c_heldT (p.1.tO (show x < 8 by omega)) (p.t ht) (show tb t < 31 by have := hk.1; omega), n_or, nI_add, true_and]
    rw [← hbt_app, ← take_s ht]
    exact ih (x + 1) (by omega)
theorem c_held (p : rpS h S A) (i : IT A) {K : Int32 → AH → Prop} (k : K (nI (hbt (aT A))) h) : wX7_held S h K :=
  ⟨(aT A).length + 1, by have := held_l p i k (aT A).length 0 (by omega); exact this⟩
theorem holderOf_l (p : rpS h S A) (i : IT A) {b : Nat} (hb : b < 31) {K : Int32 → AH → Prop} (k : K (oI ((hold A b).map tn)) h) : ∀ j x, x + j = (aT A).length → (∀ u ∈ (aT A).take x, decide (b ∈ th_ u) = false) → wX7_holderOf_L2 K (j + 1) S (nI b) (nI x) h := by
  have h8 := i.1
  intro j
  induction j with
  | zero =>
    intro x hx hno
    rw [wX7_holderOf_L2]; dsimp only; rw [p.2.2.1]
    have hx' : x = (aT A).length := by omega
    subst hx'
    rw [List.take_length] at hno
    have : hold A b = none := find_none hno
    rw [this] at k
    exact ⟨p.1.o, fun _ => k, fun z => absurd (nI_le (Nat.le_refl _) (by omega)) z⟩
  | succ j ih =>
    intro x hx hno
    rw [wX7_holderOf_L2]; dsimp only; rw [p.2.2.1]
    have hxl : x < (aT A).length := by omega
    obtain ⟨t, ht, hm⟩ := T_get hxl
    have hk := i.2 t hm
    have h12 := p.2.1.1.n12
    have hb2 := (hk.b12 p.2.1.1.2.2).2
    refine ⟨p.1.o, fun z => absurd z (nI_ge hxl (by omega)), fun _ => ?_⟩
    simp (disch := omega) only [p.1.o, p.1.m0, p.1.m1, p.1.m2, p.1.a33, p.1.l33, p.1.a34, p.1.l34, p.1.lg.o, nI_clamp, vp_in_nI, p.1.tO (show x < 8 by omega), c_heldT (p.1.tO (show x < 8 by omega)) (p.t ht) (show tb t < 31 by have := hk.1; omega), c_con (show bts (th_ t) < 2 ^ 31 by omega) hb, bts_tb, nI_add, true_and]
    by_cases hin : b ∈ th_ t
    · have : hold A b = some t := find_at ht hno (by simpa using hin)
      rw [this] at k
      simp (disch := omega) only [hin, decide_true, if_true, n0_eq, n1_ne, Nat.one_ne_zero, vp_in_nI, false_implies, not_false_eq_true, forall_const, true_and, (p.t ht).1]
      exact k
    · simp (disch := omega) only [hin, decide_false, Bool.false_eq_true, if_false, n0_eq, n1_ne, Nat.one_ne_zero, vp_in_nI, not_true_eq_false, false_implies, and_true, true_and, forall_const]
      refine ih (x + 1) (by omega) (fun u hu => ?_)
      rw [take_s ht, List.mem_append, List.mem_singleton] at hu
      rcases hu with hu | rfl
      · exact hno u hu
      · simpa using hin
theorem c_holderOf (p : rpS h S A) (i : IT A) {b : Nat} (hb : b < 31) {K : Int32 → AH → Prop} (k : K (oI ((hold A b).map tn)) h) : wX7_holderOf S (nI b) h K :=
  ⟨(aT A).length + 1, holderOf_l p i hb k _ 0 (by omega) (fun u hu => by simp at hu)⟩
theorem c_locks {c : Nat} {t : TG} (hO : isO h c 6) (q : cnT h c t) (kb : tb t < 31) (kd : td t < 31) (hb1 : bts (tr t) < 2 ^ 31) (hb2 : bts (th_ t) < 2 ^ 31) {s : Nat} (hs : s < 31) {K : Int32 → AH → Prop} : wX8_locks c (nI s) h K ↔ K (if decide (tr t ≠ [] ∧ s ≠ td t ∧ s ∈ th_ t) = true then nI 1 else nI 0) h := by
  unfold wX8_locks
  simp (disch := omega) only [c_isRouted hO q hb1, hO, q.2.2.1, nI_eq, c_heldT hO q kb, c_con hb2 hs, bts_tb, true_and]
  by_cases e1 : tr t = []
  · simp [e1]
  · by_cases e2 : s = td t
    · simp [e1, e2, n1_ne]
    · by_cases e3 : s ∈ th_ t <;> simp [e1, e2, e3, n1_ne]
theorem lockerOf_l (p : rpS h S A) (i : IT A) {s : Nat} (hs : s < 31) {K : Int32 → AH → Prop} (k : K (oI ((lkr A s).map tn)) h) : ∀ j x, x + j = (aT A).length → (∀ u ∈ (aT A).take x, decide (tr u ≠ [] ∧ s ≠ td u ∧ s ∈ th_ u) = false) → wX7_lockerOf_L11 K (j + 1) S (nI s) (nI x) h := by
  have h8 := i.1
  intro j
  induction j with
  | zero =>
    intro x hx hno
    rw [wX7_lockerOf_L11]; dsimp only; rw [p.2.2.1]
    have hx' : x = (aT A).length := by omega
    subst hx'
    rw [List.take_length] at hno
    have : lkr A s = none := find_none hno
    rw [this] at k
    exact ⟨p.1.o, fun _ => k, fun z => absurd (nI_le (Nat.le_refl _) (by omega)) z⟩
  | succ j ih =>
    intro x hx hno
    rw [wX7_lockerOf_L11]; dsimp only; rw [p.2.2.1]
    have hxl : x < (aT A).length := by omega
    obtain ⟨t, ht, hm⟩ := T_get hxl
    have hk := i.2 t hm
    have h12 := p.2.1.1.n12
    have hb2 := hk.b12 p.2.1.1.2.2
    have hk1 := hk.1
    have hk2 := hk.2.1
    refine ⟨p.1.o, fun z => absurd z (nI_ge hxl (by omega)), fun _ => ?_⟩
    simp (disch := omega) only [p.1.o, p.1.m0, p.1.m1, p.1.m2, p.1.a33, p.1.l33, p.1.a34, p.1.l34, p.1.lg.o, nI_clamp, vp_in_nI, p.1.tO (show x < 8 by omega), c_locks (p.1.tO (show x < 8 by omega)) (p.t ht) (show tb t < 31 by omega) (show td t < 31 by omega) (show bts (tr t) < 2 ^ 31 by omega) (show bts (th_ t) < 2 ^ 31 by omega) hs, nI_add, true_and]
    by_cases hin : tr t ≠ [] ∧ s ≠ td t ∧ s ∈ th_ t
    · have : lkr A s = some t := find_at ht hno (decide_eq_true hin)
      rw [this] at k
      rw [if_pos (decide_eq_true hin)]
      simp (disch := omega) only [n0_eq, n1_ne, Nat.one_ne_zero, vp_in_nI, false_implies, not_false_eq_true, forall_const, true_and, (p.t ht).1]
      exact k
    · rw [if_neg (by simpa using hin)]
      simp (disch := omega) only [n0_eq, n1_ne, Nat.one_ne_zero, vp_in_nI, not_true_eq_false, false_implies, and_true, true_and, forall_const]
      refine ih (x + 1) (by omega) (fun u hu => ?_)
      rw [take_s ht, List.mem_append, List.mem_singleton] at hu
      rcases hu with hu | rfl
      · exact hno u hu
      · exact decide_eq_false hin
theorem c_lockerOf (p : rpS h S A) (i : IT A) {q s : Nat} (hq : (gp (aL A))[q]? = some s) {K : Int32 → AH → Prop} (k : K (oI ((lkr A s).map tn)) h) : wX7_lockerOf S (nI q) h K := by
  unfold wX7_lockerOf
  have hs : s < gn (aL A) := (p.2.1.1.2.2.2.2.2.2.2.1 s (List.mem_of_getElem? hq)).1
  have h12 := p.2.1.1.n12
  simp only [p.1.o, p.1.m0, p.1.m1, p.1.m2, p.1.a33, p.1.l33, p.1.a34, p.1.l34, p.1.lg.o, c_stemOf p.2.1.1 hq, true_and]
  exact ⟨(aT A).length + 1, lockerOf_l p i (by omega) k _ 0 (by omega) (fun u hu => by simp at hu)⟩
/-- the cell of a train that is found, or null -/
def fr_ (h : AH) (S : Nat) (A : AG) (x : Int32) (c : Nat) : Prop := match fnd A x with
  | none => c = 0
  | some t => ∃ i, i < 8 ∧ (aT A)[i]? = some t ∧ c = mR h (S + 33) i
theorem find_l (p : rpS h S A) (i : IT A) {y : Int32} {K : Nat → AH → Prop} (k : ∀ c, fr_ h S A y c → K c h) : ∀ j x, x + j = (aT A).length → (∀ u ∈ (aT A).take x, decide (nI (tn u) = y) = false) → wX7_find_L2 K (j + 1) S y (nI x) h := by
  have h8 := i.1
  intro j
  induction j with
  | zero =>
    intro x hx hno
    rw [wX7_find_L2]; dsimp only; rw [p.2.2.1]
    have hx' : x = (aT A).length := by omega
    subst hx'
    rw [List.take_length] at hno
    have : fnd A y = none := find_none hno
    exact ⟨p.1.o, fun _ => k 0 (by unfold fr_; rw [this]), fun z => absurd (nI_le (Nat.le_refl _) (by omega)) z⟩
  | succ j ih =>
    intro x hx hno
    rw [wX7_find_L2]; dsimp only; rw [p.2.2.1]
    have hxl : x < (aT A).length := by omega
    obtain ⟨t, ht, hm⟩ := T_get hxl
    refine ⟨p.1.o, fun z => absurd z (nI_ge hxl (by omega)), fun _ => ?_⟩
    simp (disch := omega) only [p.1.o, p.1.m0, p.1.m1, p.1.m2, p.1.a33, p.1.l33, p.1.a34, p.1.l34, p.1.lg.o, nI_clamp, vp_in_nI, p.1.tO (show x < 8 by omega), (p.t ht).1, nI_add, true_and]
    refine ⟨fun hne => ?_, fun he => ?_⟩
    · refine ih (x + 1) (by omega) (fun u hu => ?_)
      rw [take_s ht, List.mem_append, List.mem_singleton] at hu
      rcases hu with hu | rfl
      · exact hno u hu
      · exact decide_eq_false hne
    · have : fnd A y = some t := find_at ht hno (decide_eq_true he)
      exact k _ (by unfold fr_; rw [this]; exact ⟨x, by omega, ht, rfl⟩)
theorem c_find (p : rpS h S A) (i : IT A) {y : Int32} {K : Nat → AH → Prop} (k : ∀ c, fr_ h S A y c → K c h) : wX7_find S y h K :=
  ⟨(aT A).length + 1, find_l p i k _ 0 (by omega) (fun u hu => by simp at hu)⟩
theorem c_stateOf (p : rpS h S A) (i : IT A) {b : Nat} (hb : b < gn (aL A)) {K : Int32 → AH → Prop} (k : K (nI (stc A b)) h) : wX7_stateOf S (nI b) h K := by
  have h12 := p.2.1.1.n12
  have hh := p.2.1.1.2.2.h12
  have hT : hbt (aT A) < 2 ^ 12 := hbt_lt _ fun t ht => ((i.2 t ht).b12 p.2.1.1.2.2).2
  unfold wX7_stateOf
  unfold stc at k
  simp (disch := omega) only [p.1.o, p.1.m0, p.1.m1, p.1.m2, p.1.a33, p.1.l33, p.1.a34, p.1.l34, p.1.lg.o, p.2.1.1.2.1.2.2.2.1, c_con (show gh (aL A) < 2 ^ 31 by omega) (show b < 31 by omega), true_and]
  by_cases e1 : (gh (aL A)).testBit b = true
  · rw [if_pos e1] at k ⊢
    simp only [n0_eq, n1_ne, Nat.one_ne_zero, false_implies, not_false_eq_true, forall_const, true_and]
    exact k
  · rw [if_neg e1] at k ⊢
    simp only [n0_eq, n1_ne, Nat.one_ne_zero, not_true_eq_false, false_implies, and_true, forall_const]
    refine c_isReserved p i (by omega) ?_
    by_cases e2 : resv A b = true
    · rw [if_pos e2] at k ⊢
      simp only [n0_eq, n1_ne, Nat.one_ne_zero, false_implies, not_false_eq_true, forall_const, true_and]
      exact k
    · rw [if_neg e2] at k ⊢
      simp only [n0_eq, n1_ne, Nat.one_ne_zero, not_true_eq_false, false_implies, and_true, forall_const]
      refine ⟨p.1.o, c_held p i ?_⟩
      have e3 : resv A b = false := by simpa using e2
      simp (disch := omega) only [c_con (show hbt (aT A) < 2 ^ 31 by omega) (show b < 31 by omega), hbt_occ, e3, Bool.or_false]
      by_cases e4 : occ A b = true
      · rw [if_pos e4] at k ⊢
        simp only [n0_eq, n1_ne, Nat.one_ne_zero, false_implies, not_false_eq_true, forall_const, true_and]
        exact k
      · rw [if_neg e4] at k ⊢
        simp only [n0_eq, n1_ne, Nat.one_ne_zero, not_true_eq_false, false_implies, and_true, forall_const]
        exact k
end ST
