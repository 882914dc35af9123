/-! WAITING AND CONFLICTS: the class's relation -/
theorem bts_and (l m : List Nat) : (bts l &&& bts m = 0) = (l.any (fun b => decide (b ∈ m)) = false) := by
  apply propext
  rw [and_z, List.any_eq_false]
  constructor
  · intro h b hb hm
    exact h b ⟨by rw [bts_tb]; exact decide_eq_true hb, by rw [bts_tb]; exact hm⟩
  · rintro h i ⟨h1, h2⟩
    rw [bts_tb, decide_eq_true_eq] at h1
    rw [bts_tb] at h2
    exact h i h1 h2
/-- a row of a relation as a set -/
def msk (Q : Nat → Bool) : Nat → Nat
  | 0 => 0
  | y + 1 => if Q y = true then msk Q y ||| 2 ^ y else msk Q y
theorem msk_tb (Q : Nat → Bool) (j : Nat) : ∀ y, (msk Q y).testBit j = (decide (j < y) && Q j) := by
  intro y
  induction y with
  | zero => simp [msk]
  | succ y ih =>
    rw [msk]
    by_cases e : Q y = true
    · rw [if_pos e, tb_or, ih]
      by_cases e2 : y = j
      · subst e2; simp [e]
      · have h1 : decide (j < y + 1) = decide (j < y) := by
          by_cases z : j < y
          · simp [z, Nat.lt_succ_of_lt z]
          · have : ¬ j < y + 1 := by omega
            simp [z, this]
        simp [e2, h1]
    · rw [if_neg e, ih]
      by_cases e2 : j = y
      · subst e2; simp [e]
      · have h1 : decide (j < y + 1) = decide (j < y) := by
          by_cases z : j < y
          · simp [z, Nat.lt_succ_of_lt z]
          · have : ¬ j < y + 1 := by omega
            simp [z, this]
        rw [h1]
theorem msk_lt (Q : Nat → Bool) : ∀ y, msk Q y < 2 ^ y := by
  intro y
  induction y with
  | zero => exact Nat.two_pow_pos 0
  | succ y ih =>
    rw [msk]
    have : msk Q y < 2 ^ (y + 1) := Nat.lt_of_lt_of_le ih (Nat.pow_le_pow_right (by decide) (Nat.le_succ y))
    by_cases e : Q y = true
    · rw [if_pos e]; exact or_lt this (p2_lt (Nat.lt_succ_self y))
    · rw [if_neg e]; exact this
/-- who is related to whom, by places -/
def prl (P : TG → TG → Bool) (T : List TG) (i j : Nat) : Bool := decide (i ≠ j) && (match T[i]?, T[j]? with
  | some t, some u => P t u
  | _, _ => false)
section RE
variable {h g : AH} {p w : Nat} {X : BG} {K : Int32 → AH → Prop} {T : String → AH → Prop}
theorem c_routeOf (r : RBp h p X) (i : IP (bA X)) {j : Nat} {t : TG} (hj : (aT (bA X))[j]? = some t) {K : Int32 → AH → Prop} : wX7_routeOf 65 (mR h 98 j) h K ↔ K (nI (bts (rtT (bA X) t))) h := by
  have s := r.2.2.1
  have h8 : j < 8 := Nat.lt_of_lt_of_le (List.getElem?_eq_some_iff.mp hj).1 i.1
  obtain ⟨k1, k2, -⟩ := i.2.1 t (List.mem_of_getElem? hj)
  have q := s.t hj
  have q1 : mI h (mR h 98 j) 1 = nI (tb t) := q.2.1
  have q2 : mI h (mR h 98 j) 2 = nI (td t) := q.2.2.1
  have q3 : isO h (mR h 98 j) 6 := s.1.tO h8
  unfold wX7_routeOf
  rw [s.1.m0, q1, q2, c_routeBlocks s.2.1 k1 k2]
  exact ⟨fun z => z.2.2.2, fun z => ⟨s.1.o, q3, s.1.lg.o, z⟩⟩
theorem rtT_lt (r : RBp h p X) (i : IP (bA X)) {t : TG} (ht : t ∈ aT (bA X)) : bts (rtT (bA X) t) < 2 ^ 12 := by
  obtain ⟨k1, k2, -⟩ := i.2.1 t ht
  have h12 := r.n12
  exact bts_lt fun y hy => by have := (rt_gn r k1 k2).1 y hy; omega
theorem c_waits (r : RBp h p X) (i : IP (bA X)) {j k : Nat} {t u : TG} (hj : (aT (bA X))[j]? = some t) (hk : (aT (bA X))[k]? = some u) {K : Int32 → AH → Prop} (kk : K (if wts (bA X) t u = true then nI 1 else nI 0) h) : wX7_waits 65 (mR h 98 j) (mR h 98 k) h K := by
  have s := r.2.2.1
  have h8 : j < 8 := Nat.lt_of_lt_of_le (List.getElem?_eq_some_iff.mp hj).1 i.1
  have h9 : k < 8 := Nat.lt_of_lt_of_le (List.getElem?_eq_some_iff.mp hk).1 i.1
  have b1 := (tr_b31 r i (List.mem_of_getElem? hj)).1
  have b2 := (tr_b31 r i (List.mem_of_getElem? hk)).2
  have b3 := rtT_lt r i (List.mem_of_getElem? hj)
  have hu := i.2.1 u (List.mem_of_getElem? hk)
  have h12 := r.n12
  have q3 : isO h (mR h 98 j) 6 := s.1.tO h8
  have q4 : isO h (mR h 98 k) 6 := s.1.tO h9
  unfold wX7_waits
  refine ⟨q3, ?_⟩
  rw [c_isRouted q3 (s.t hj) (show bts (tr t) < 2 ^ 31 by omega)]
  unfold wts at kk
  by_cases e : tr t = []
  · rw [if_pos e]
    refine ⟨fun z => absurd rfl z, fun _ => ⟨s.1.o, ?_⟩⟩
    rw [c_routeOf r i hj]
    refine ⟨q4, ?_⟩
    rw [c_heldT q4 (s.t hk) (show tb u < 31 by have := hu.1; omega), n_and, nI_z (Nat.lt_of_le_of_lt Nat.and_le_left (by omega)), bts_and]
    cases hc : (rtT (bA X) t).any (fun b => decide (b ∈ th_ u)) with
    | false =>
      rw [hc] at kk
      simp only [Bool.and_false, Bool.false_eq_true, if_false] at kk
      exact ⟨fun _ => kk, fun z => absurd rfl z⟩
    | true =>
      rw [hc] at kk
      simp only [e, decide_true, Bool.and_true, if_true] at kk
      exact ⟨fun z => (by cases z), fun _ => kk⟩
  · rw [if_neg e]
    simp only [e, decide_false, Bool.false_and, Bool.false_eq_true, if_false] at kk
    exact ⟨fun _ => kk, fun z => absurd z (by rw [n1_ne]; exact id)⟩
theorem c_meet (r : RBp h p X) (i : IP (bA X)) {j k : Nat} {t u : TG} (hj : (aT (bA X))[j]? = some t) (hk : (aT (bA X))[k]? = some u) {K : Int32 → AH → Prop} (kk : K (if cfl (bA X) t u = true then nI 1 else nI 0) h) : wX7_routesMeet 65 (mR h 98 j) (mR h 98 k) h K := by
  have s := r.2.2.1
  have b3 := rtT_lt r i (List.mem_of_getElem? hj)
  unfold wX7_routesMeet
  refine ⟨s.1.o, ?_⟩
  rw [c_routeOf r i hj]
  refine ⟨s.1.o, ?_⟩
  rw [c_routeOf r i hk, n_and, nI_z (Nat.lt_of_le_of_lt Nat.and_le_left (by omega)), bts_and]
  unfold cfl at kk
  cases hc : (rtT (bA X) t).any (fun b => decide (b ∈ rtT (bA X) u)) with
  | false =>
    rw [hc] at kk
    exact ⟨fun _ => kk, fun z => absurd rfl z⟩
  | true =>
    rw [hc] at kk
    exact ⟨fun z => (by cases z), fun _ => kk⟩
theorem c9_waitsFor (r : RBc h X) (i : IP (bA X)) {x y : Int32} (k : kq (qW (bA X) x y) [xS] K T h) : wX9_waitsFor 64 x y h K T := by
  obtain ⟨p, r⟩ := r
  have s := r.2.2.1
  unfold wX9_waitsFor
  unfold qW at k
  refine ⟨r.1.o, c_present r i (fun j t hf hj h8 => ⟨r.1.o, c_present r i (fun j2 u hf2 hj2 h82 => ?_) (fun hf2 => ?_)⟩) (fun hf => ?_)⟩
  · rw [hf, hf2] at k
    simp only at k
    by_cases e : x = y
    · rw [if_neg (fun z => z.1 e)] at k
      exact ⟨fun _ => k.1 rfl, fun z => absurd e z⟩
    · refine ⟨fun z => absurd z e, fun _ => ⟨r.1.o, ?_⟩⟩
      rw [r.1.f0]
      refine ⟨s.1.o, c_waits r i hj hj2 ?_⟩
      by_cases e2 : wts (bA X) t u = true
      · rw [if_pos ⟨e, e2⟩] at k
        rw [if_pos e2]
        exact ⟨fun z => absurd z (by rw [n1_ne]; exact id), fun _ => k.1 rfl⟩
      · rw [if_neg (fun z => e2 z.2)] at k
        rw [if_neg e2]
        exact ⟨fun _ => k.1 rfl, fun z => absurd rfl z⟩
  · rw [hf, hf2] at k
    exact k.2 0 rfl
  · rw [hf] at k
    exact k.2 0 rfl
theorem c9_conflict (r : RBc h X) (i : IP (bA X)) {x y : Int32} (k : kq (qC (bA X) x y) [xS, xA] K T h) : wX9_conflict 64 x y h K T := by
  obtain ⟨p, r⟩ := r
  have s := r.2.2.1
  unfold wX9_conflict
  unfold qC at k
  refine ⟨r.1.o, c_present r i (fun j t hf hj h8 => ⟨r.1.o, c_present r i (fun j2 u hf2 hj2 h82 => ?_) (fun hf2 => ?_)⟩) (fun hf => ?_)⟩
  · rw [hf, hf2] at k
    simp only at k
    by_cases e : x = y
    · rw [if_pos e] at k
      exact ⟨fun z => absurd e z, fun _ => k.2 1 rfl⟩
    · rw [if_neg e] at k
      refine ⟨fun _ => ⟨r.1.o, ?_⟩, fun z => absurd z e⟩
      rw [r.1.f0]
      refine ⟨s.1.o, c_meet r i hj hj2 ⟨?_, k.1 rfl⟩⟩
      split
      · exact bool_n.2
      · exact bool_n.1
  · rw [hf, hf2] at k
    exact k.2 0 rfl
  · rw [hf] at k
    exact k.2 0 rfl
/-- the relation's rows: those below x are whole, row x goes up to y -/
def RLi (h0 : AH) (n : Nat) (Q : Nat → Nat → Bool) (x y : Nat) (g : AH) : Prop := chi 583 585 h0 g ∧ mI g 583 0 = nI n ∧ ∀ i, i < n → mI g 584 i = nI (if i < x then msk (Q i) n else if i = x then msk (Q i) y else 0)
/-- a relation of n with its rows -/
def RRo (h0 : AH) (n : Nat) (Q : Nat → Nat → Bool) (g : AH) : Prop := chi 583 585 h0 g ∧ mI g 583 0 = nI n ∧ ∀ i, i < n → mI g 584 i = nI (msk (Q i) n)
theorem RLi.rb {h0 : AH} {n x y : Nat} {Q : Nat → Nat → Bool} (q : RLi h0 n Q x y g) (r : RBp h0 p X) : RBp g p X := r.rel (q.1.mo (by omega) (by omega))
theorem RRo.rb {h0 : AH} {n : Nat} {Q : Nat → Nat → Bool} (q : RRo h0 n Q g) (r : RBp h0 p X) : RBp g p X := r.rel (q.1.mo (by omega) (by omega))
theorem RLi.skip {h0 : AH} {n x y : Nat} {Q : Nat → Nat → Bool} (q : RLi h0 n Q x y g) (e : ¬ Q x y = true) : RLi h0 n Q x (y + 1) g := by
  refine ⟨q.1, q.2.1, fun i hi => ?_⟩
  rw [q.2.2 i hi]
  by_cases e1 : i = x
  · subst e1
    rw [msk, if_neg e]
  · simp only [e1, if_false]
theorem c_relate {h0 : AH} {n x y : Nat} {Q : Nat → Nat → Bool} (q : RLi h0 n Q x y g) (r : RBp h0 p X) (hn : n ≤ 8) (hx : x < n) (hy : y < n) (e : Q x y = true) {K : AH → Prop} (k : ∀ g', RLi h0 n Q x (y + 1) g' → K g') : wX6_relate 583 (nI x) (nI y) g K := by
  have s := (q.rb r).1
  have hm := msk_lt (Q x) y
  have hm2 : 2 ^ y < 2 ^ 8 := p2_lt (by omega)
  unfold wX6_relate
  rw [q.2.1, s.e1, s.el1, nI_clamp (by omega), q.2.2 x hx, if_neg (Nat.lt_irrefl x), if_pos rfl, n_shl y (by omega), n_or]
  refine ⟨fun z => absurd z (by rw [lt0_f (by omega)]; exact id), fun _ => ⟨s.eo, fun z => absurd z (nI_ge hx (by omega)), fun _ => ⟨s.ea1, vp_in_nI (by omega) (by decide), by decide, fun g' e' => k g' ?_⟩⟩⟩
  refine ⟨q.1.tr (by rw [e']; exact chi.uI (by omega) (by omega)), by rw [e', mI_uI, if_neg (by omega)]; exact q.2.1, fun i hi => ?_⟩
  rw [e', mI_uI]
  by_cases e1 : i = x
  · subst e1
    rw [if_pos ⟨rfl, rfl⟩, if_neg (Nat.lt_irrefl i), if_pos rfl, msk, if_pos e]
  · rw [if_neg (fun z => e1 z.2), q.2.2 i hi]
    simp only [e1, if_false]
theorem beg_n : ∀ n, n < 9 → (if nI 0 < (if nI 8 < nI n then nI 8 else nI n) then (if nI 8 < nI n then nI 8 else nI n) else nI 0) = nI n := by decide +kernel
theorem c_begin (r : RBp h p X) {n : Nat} (hn : n ≤ 8) {Q : Nat → Nat → Bool} {K : AH → Prop} (k : ∀ g, RLi h n Q 0 0 g → K g) : wX6_begin 583 (nI n) h K := by
  have s := r.1
  unfold wX6_begin
  refine ⟨s.eo, fun g1 e1 => ?_⟩
  have en := beg_n n (by omega)
  rw [en] at e1
  have c1 : chi 583 585 h g1 := by rw [e1]; exact chi.uI (by omega) (by omega)
  rw [s.e1]
  have a1 : isA g1 584 0 := by unfold isA; rw [c1.2.1]; exact s.ea1
  have l1 : ln g1 584 = 8 := by unfold ln; rw [c1.2.1]; exact s.el1
  refine w_fill a1 (by decide) l1 (by decide) (fun g2 c2 e2 => k g2 ⟨c1.tr (c2.mo (by omega) (by omega)), ?_, fun i hi => ?_⟩)
  · rw [c2.2.2.2.2 583 (by omega), e1, mI_uI, if_pos ⟨rfl, rfl⟩]
  · rw [e2 i (by omega), if_neg (Nat.not_lt_zero i)]
    by_cases z : i = 0
    · rw [if_pos z]; rfl
    · rw [if_neg z]
theorem relWaiting_in {h0 : AH} (r : RBp h0 p X) (i : IP (bA X)) {x : Nat} (hx : x < (aT (bA X)).length) {K : AH → Prop} {C : Nat → Nat → Int32 → AH → Prop} (k : ∀ g, RLi h0 (aT (bA X)).length (prl (wts (bA X)) (aT (bA X))) x (aT (bA X)).length g → C 65 583 (nI x) g) : ∀ j y g, y + j = (aT (bA X)).length → RLi h0 (aT (bA X)).length (prl (wts (bA X)) (aT (bA X))) x y g → wX7_relateWaiting_L20 K C (j + 1) 65 583 (nI x) (nI y) g := by
  have h8 := i.1
  intro j
  induction j with
  | zero =>
    intro y g hy q
    have s := (q.rb r).2.2.1
    have hy' : y = (aT (bA X)).length := by omega
    subst hy'
    rw [wX7_relateWaiting_L20]; dsimp only
    rw [s.2.2.1]
    exact ⟨s.1.o, fun _ => k g q, fun z => absurd (nI_le (Nat.le_refl _) (by omega)) z⟩
  | succ j ih =>
    intro y g hy q
    have rg := q.rb r
    have s := rg.2.2.1
    rw [wX7_relateWaiting_L20]; dsimp only
    rw [s.2.2.1, nI_eq (by omega) (by omega), s.1.m1, s.1.l33, nI_clamp (by omega), nI_clamp (by omega), nI_add]
    refine ⟨s.1.o, fun z => absurd z (nI_ge (by omega) (by omega)), fun _ => ⟨fun e => ?_, fun e => ⟨s.1.a33, vp_in_nI (by omega) (by decide), vp_in_nI (by omega) (by decide), ?_⟩⟩⟩
    · refine ih (y + 1) g (by omega) (q.skip ?_)
      unfold prl
      simp [e]
    · obtain ⟨t, ht, -⟩ := T_get hx
      obtain ⟨u, hu, -⟩ := T_get (show y < (aT (bA X)).length by omega)
      refine c_waits rg i ht hu ?_
      have eP : prl (wts (bA X)) (aT (bA X)) x y = wts (bA X) t u := by
        unfold prl
        rw [ht, hu]
        simp [e]
      by_cases e2 : wts (bA X) t u = true
      · rw [if_pos e2]
        refine ⟨fun z => absurd z (by rw [n1_ne]; exact id), fun _ => ⟨rg.1.eo, c_relate q r h8 hx (by omega) (eP.trans e2) (fun g' q' => ih (y + 1) g' (by omega) q')⟩⟩
      · rw [if_neg e2]
        refine ⟨fun _ => ih (y + 1) g (by omega) (q.skip (by rw [eP]; exact e2)), fun z => absurd rfl z⟩
theorem relWaiting_out {h0 : AH} (r : RBp h0 p X) (i : IP (bA X)) {K : AH → Prop} (k : ∀ g, RRo h0 (aT (bA X)).length (prl (wts (bA X)) (aT (bA X))) g → K g) : ∀ j x g, x + j = (aT (bA X)).length → RLi h0 (aT (bA X)).length (prl (wts (bA X)) (aT (bA X))) x 0 g → wX7_relateWaiting_L10 K (j + 1) 65 583 (nI x) g := by
  have h8 := i.1
  intro j
  induction j with
  | zero =>
    intro x g hx q
    have s := (q.rb r).2.2.1
    have hx' : x = (aT (bA X)).length := by omega
    subst hx'
    rw [wX7_relateWaiting_L10]; dsimp only
    rw [s.2.2.1]
    refine ⟨s.1.o, fun _ => k g ⟨q.1, q.2.1, fun i hi => ?_⟩, fun z => absurd (nI_le (Nat.le_refl _) (by omega)) z⟩
    rw [q.2.2 i hi, if_pos hi]
  | succ j ih =>
    intro x g hx q
    have s := (q.rb r).2.2.1
    rw [wX7_relateWaiting_L10]; dsimp only
    rw [s.2.2.1]
    refine ⟨s.1.o, fun z => absurd z (nI_ge (by omega) (by omega)), fun _ => ⟨(aT (bA X)).length + 1, relWaiting_in r i (by omega) (fun g' q' => ?_) _ 0 g (by omega) q⟩⟩
    rw [nI_add]
    refine ih (x + 1) g' (by omega) ⟨q'.1, q'.2.1, fun i hi => ?_⟩
    rw [q'.2.2 i hi]
    by_cases e1 : i < x
    · rw [if_pos e1, if_pos (by omega)]
    · rw [if_neg e1]
      by_cases e2 : i = x
      · rw [if_pos e2, if_pos (by omega)]
      · rw [if_neg e2, if_neg (by omega)]
        by_cases e3 : i = x + 1
        · rw [if_pos e3]; rfl
        · rw [if_neg e3]
theorem c_relateWaiting (r : RBp h p X) (i : IP (bA X)) {K : AH → Prop} (k : ∀ g, RRo h (aT (bA X)).length (prl (wts (bA X)) (aT (bA X))) g → K g) : wX7_relateWaiting 65 583 h K := by
  have s := r.2.2.1
  unfold wX7_relateWaiting
  rw [s.2.2.1]
  exact ⟨s.1.o, r.1.eo, c_begin r i.1 (fun g q => ⟨_, relWaiting_out r i k (aT (bA X)).length 0 g (by omega) q⟩)⟩
theorem relConflicts_in {h0 : AH} (r : RBp h0 p X) (i : IP (bA X)) {x : Nat} (hx : x < (aT (bA X)).length) {K : AH → Prop} {C : Nat → Nat → Int32 → AH → Prop} (k : ∀ g, RLi h0 (aT (bA X)).length (prl (cfl (bA X)) (aT (bA X))) x (aT (bA X)).length g → C 65 583 (nI x) g) : ∀ j y g, y + j = (aT (bA X)).length → RLi h0 (aT (bA X)).length (prl (cfl (bA X)) (aT (bA X))) x y g → wX7_relateConflicts_L20 K C (j + 1) 65 583 (nI x) (nI y) g := by
  have h8 := i.1
  intro j
  induction j with
  | zero =>
    intro y g hy q
    have s := (q.rb r).2.2.1
    have hy' : y = (aT (bA X)).length := by omega
    subst hy'
    rw [wX7_relateConflicts_L20]; dsimp only
    rw [s.2.2.1]
    exact ⟨s.1.o, fun _ => k g q, fun z => absurd (nI_le (Nat.le_refl _) (by omega)) z⟩
  | succ j ih =>
    intro y g hy q
    have rg := q.rb r
    have s := rg.2.2.1
    rw [wX7_relateConflicts_L20]; dsimp only
    rw [s.2.2.1, nI_eq (by omega) (by omega), s.1.m1, s.1.l33, nI_clamp (by omega), nI_clamp (by omega), nI_add]
    refine ⟨s.1.o, fun z => absurd z (nI_ge (by omega) (by omega)), fun _ => ⟨fun e => ?_, fun e => ⟨s.1.a33, vp_in_nI (by omega) (by decide), vp_in_nI (by omega) (by decide), ?_⟩⟩⟩
    · refine ih (y + 1) g (by omega) (q.skip ?_)
      unfold prl
      simp [e]
    · obtain ⟨t, ht, -⟩ := T_get hx
      obtain ⟨u, hu, -⟩ := T_get (show y < (aT (bA X)).length by omega)
      refine c_meet rg i ht hu ?_
      have eP : prl (cfl (bA X)) (aT (bA X)) x y = cfl (bA X) t u := by
        unfold prl
        rw [ht, hu]
        simp [e]
      by_cases e2 : cfl (bA X) t u = true
      · rw [if_pos e2]
        refine ⟨fun z => absurd z (by rw [n1_ne]; exact id), fun _ => ⟨rg.1.eo, c_relate q r h8 hx (by omega) (eP.trans e2) (fun g' q' => ih (y + 1) g' (by omega) q')⟩⟩
      · rw [if_neg e2]
        refine ⟨fun _ => ih (y + 1) g (by omega) (q.skip (by rw [eP]; exact e2)), fun z => absurd rfl z⟩
theorem relConflicts_out {h0 : AH} (r : RBp h0 p X) (i : IP (bA X)) {K : AH → Prop} (k : ∀ g, RRo h0 (aT (bA X)).length (prl (cfl (bA X)) (aT (bA X))) g → K g) : ∀ j x g, x + j = (aT (bA X)).length → RLi h0 (aT (bA X)).length (prl (cfl (bA X)) (aT (bA X))) x 0 g → wX7_relateConflicts_L10 K (j + 1) 65 583 (nI x) g := by
  have h8 := i.1
  intro j
  induction j with
  | zero =>
    intro x g hx q
    have s := (q.rb r).2.2.1
    have hx' : x = (aT (bA X)).length := by omega
    subst hx'
    rw [wX7_relateConflicts_L10]; dsimp only
    rw [s.2.2.1]
    refine ⟨s.1.o, fun _ => k g ⟨q.1, q.2.1, fun i hi => ?_⟩, fun z => absurd (nI_le (Nat.le_refl _) (by omega)) z⟩
    rw [q.2.2 i hi, if_pos hi]
  | succ j ih =>
    intro x g hx q
    have s := (q.rb r).2.2.1
    rw [wX7_relateConflicts_L10]; dsimp only
    rw [s.2.2.1]
    refine ⟨s.1.o, fun z => absurd z (nI_ge (by omega) (by omega)), fun _ => ⟨(aT (bA X)).length + 1, relConflicts_in r i (by omega) (fun g' q' => ?_) _ 0 g (by omega) q⟩⟩
    rw [nI_add]
    refine ih (x + 1) g' (by omega) ⟨q'.1, q'.2.1, fun i hi => ?_⟩
    rw [q'.2.2 i hi]
    by_cases e1 : i < x
    · rw [if_pos e1, if_pos (by omega)]
    · rw [if_neg e1]
      by_cases e2 : i = x
      · rw [if_pos e2, if_pos (by omega)]
      · rw [if_neg e2, if_neg (by omega)]
        by_cases e3 : i = x + 1
        · rw [if_pos e3]; rfl
        · rw [if_neg e3]
theorem c_relateConflicts (r : RBp h p X) (i : IP (bA X)) {K : AH → Prop} (k : ∀ g, RRo h (aT (bA X)).length (prl (cfl (bA X)) (aT (bA X))) g → K g) : wX7_relateConflicts 65 583 h K := by
  have s := r.2.2.1
  unfold wX7_relateConflicts
  rw [s.2.2.1]
  exact ⟨s.1.o, r.1.eo, c_begin r i.1 (fun g q => ⟨_, relConflicts_out r i k (aT (bA X)).length 0 g (by omega) q⟩)⟩
end RE
