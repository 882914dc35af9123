/-! THE CLASS'S OUTPUT: blocks, trains, signs -/
section WR
variable {h g h0 : AH} {p w : Nat} {X : BG} {A : AG} {o : List Nat} {K : Int32 → AH → Prop} {T : String → AH → Prop}
theorem fcs.uI {j : Nat} {v : Int32} : fcs h (uI h 604 j v) := ⟨Nat.le_refl _, rfl, Or.inl rfl, fun a _ h1 _ => ⟨rfl, mI_o h1, rfl, rfl⟩⟩
theorem sb_zero (s : isO h 604 8) (q : sbO h o) (ho : o.length < 2 ^ 31) {K : AH → Prop} (k : ∀ g, fcs h g → isO g 604 8 → sbO g [] → K g) : wJ4_setLength_d00df 604 (nI 0) h K := by
  unfold wJ4_setLength_d00df wJ5_setLength_d00df
  refine ⟨s, fun _ => ⟨s, sb_ens s q (Nat.zero_le _) (by decide) (fun g f1 e1 q1 hl s1 => ⟨s1, fun _ => ?_, fun z => ?_⟩)⟩, fun z => absurd (nI_pos' (by decide)) z⟩
  · have fin : ∀ g2, fcs g g2 → (∀ j, j ≠ 2 → mI g2 604 j = mI g 604 j) → (∀ a, a ≠ 604 → mI g2 a = mI g a) → mR g2 = mR g → mS g2 = mS g → mN g2 = mN g → wJ5_setLength_d00df_J76 K 604 (nI 0) g2 := fun g2 f2 e2 e3 eR eS eN => by
      unfold wJ5_setLength_d00df_J76
      refine ⟨by unfold isO; rw [eS]; exact s1, fun g3 e4 => ?_⟩
      obtain ⟨q11, q12, q13, q14, q15, q16, q17, q18, q19⟩ := q1
      have r604 : mR g 604 0 ≠ 604 := by omega
      have eR3 : mR g3 = mR g := by rw [e4, mR_uI, eR]
      have eS3 : mS g3 = mS g := by rw [e4, mS_uI, eS]
      have eI3 : mI g3 (mR g 604 0) = mI g (mR g 604 0) := by rw [e4, mI_o r604, e3 _ r604]
      refine k g3 ((f1.tr f2).tr (by rw [e4]; exact fcs.uI)) (by unfold isO; rw [eS3]; exact s1) ⟨?_, ?_, ?_, Nat.zero_le _, ?_, ?_, ?_, fun i c hc => by simp at hc, fun i => ?_⟩
      · rw [eR3]; unfold isA; rw [eS3]; exact q11
      · rw [eR3]; exact q12
      · rw [eR3, e4, mN_uI, eN]; exact q13
      · rw [eR3]; unfold ln; rw [eS3]; exact q15
      · rw [e4, mI_uI, if_neg (by omega), e2 1 (by omega)]; exact q16
      · rw [e4, mI_uI, if_pos ⟨rfl, rfl⟩]; rfl
      · rw [eR3, eI3]; exact q19 i
    refine ⟨fun _ => fin g (fcs.rf g) (fun _ _ => rfl) (fun _ _ => rfl) rfl rfl rfl, fun _ g2 e2 => fin g2 (by rw [e2]; exact fcs.uI) (fun j hj => by rw [e2, mI_uI, if_neg (by omega)]) (fun a ha => by rw [e2, mI_o ha]) (by rw [e2, mR_uI]) (by rw [e2, mS_uI]) (by rw [e2, mN_uI])⟩
  · exfalso
    rw [q1.2.2.2.2.2.2.1] at z
    exact z (nI_pos' ho)
/-- a block's signs -/
def bch (A : AG) (b : Nat) : List Nat := stc A b :: (if stc A b = 111 ∨ stc A b = 114 then (match hold A b with
  | none => []
  | some t => nch (tn t)) else [])
def owB (A : AG) : List Nat := (List.range (gn (aL A))).flatMap (bch A)
def owT (t : TG) : List Nat := nch (tn t) ++ [64] ++ nch (tb t) ++ (if tr t = [] then [63] ++ nch (td t) else (tr t).flatMap (fun b => 62 :: nch b))
/-- the box with another output -/
def wO_ (X : BG) (o : List Nat) : BG := (bA X, bH X, bS X, o, X.2.2.2.2)
theorem hold_of {b : Nat} (h : stc A b = 111 ∨ stc A b = 114) : ∃ t, hold A b = some t := by
  have h2 : occ A b = true ∨ resv A b = true := by
    unfold stc at h
    split at h
    · omega
    · split at h
      · rename_i z; exact Or.inr z
      · split at h
        · rename_i z; exact Or.inl z
        · omega
  cases ht : hold A b with
  | some t => exact ⟨t, rfl⟩
  | none =>
    exfalso
    have h3 := List.find?_eq_none.mp ht
    rcases h2 with z | z
    · unfold occ at z
      obtain ⟨t, t1, t2⟩ := List.any_eq_true.mp z
      exact h3 t t1 (decide_eq_true (by rw [← of_decide_eq_true t2]; exact List.mem_cons_self))
    · unfold resv at z
      obtain ⟨t, t1, t2⟩ := List.any_eq_true.mp z
      exact h3 t t1 (decide_eq_true (List.mem_cons_of_mem _ (of_decide_eq_true t2)))
theorem bch_l (A : AG) (b : Nat) : (bch A b).length ≤ 5 := by
  unfold bch
  rw [List.length_cons]
  split
  · split
    · simp
    · rename_i t _; have := (nch_l (tn t)).1; omega
  · simp
theorem fm_s {f : Nat → List Nat} (x : Nat) : (List.range (x + 1)).flatMap f = (List.range x).flatMap f ++ f x := by
  rw [List.range_succ, List.flatMap_append]
  simp
theorem fm_l {f : Nat → List Nat} {c : Nat} (h : ∀ b, (f b).length ≤ c) : ∀ x, ((List.range x).flatMap f).length ≤ c * x := by
  intro x
  induction x with
  | zero => simp
  | succ x ih =>
    rw [fm_s, List.length_append]
    have := h x
    rw [Nat.mul_succ]
    omega
theorem nch_2 {c : Nat} (hc : c < 12) : (nch c).length ≤ 2 := by
  rw [nch_n]
  unfold nds
  by_cases z : c < 10
  · rw [if_pos z]; omega
  · rw [if_neg z, if_pos (by omega)]; omega
theorem rest_l (r : RBp h p X) (sd : stD h) (i : IP (bA X)) {j : Nat} {t : TG} (hj : (aT (bA X))[j]? = some t) {K : AH → Prop} : ∀ (l : List Nat) (b x : Nat) (o : List Nat) (g : AH), led (aL (bA X)) b l → b < gn (aL (bA X)) → (∀ y ∈ l, y < gn (aL (bA X))) → (b :: l).Nodup → (b :: l).getLast? = some (td t) → x + l.length < 12 → o.length ≤ 11 + 3 * x → fcs h g → RBp g p (wO_ X o) → (∀ g', fcs h g' → RBp g' p (wO_ X (o ++ l.flatMap (fun b => 62 :: nch b))) → K g') → wX9_writeRestOfRoute_L7 K (l.length + 1) 64 (mR h 98 j) (nI b) (nI x) g := by
  have h12 := r.n12
  have q0 := r.2.2.2.2.2.2.1
  have h8 : j < 8 := Nat.lt_of_lt_of_le (List.getElem?_eq_some_iff.mp hj).1 i.1
  have eR : ∀ {g : AH}, fcs h g → mR g 98 = mR h 98 := fun f => (f.low q0 (a := 98) (by omega)).2.2.1
  intro l
  induction l with
  | nil =>
    intro b x o g _ hb _ _ hl hx _ f rg k
    rw [List.getLast?_singleton] at hl
    cases hl
    have s : rpS g 65 (bA X) := rg.2.2.1
    have q := s.t hj
    have qd : mI g (mR h 98 j) 2 = nI (td t) := by rw [← eR f]; exact q.2.2.1
    have qo : isO g (mR h 98 j) 6 := by rw [← eR f]; exact s.1.tO h8
    rw [wX9_writeRestOfRoute_L7]; dsimp only
    rw [qd]
    refine ⟨fun z => absurd z (nI_ge (by simp only [List.length_nil] at hx; omega) (by decide)), fun _ => ⟨qo, fun _ => ?_, fun z => absurd rfl z⟩⟩
    have := k g f (by rw [List.flatMap_nil, List.append_nil]; exact rg)
    exact this
  | cons c l ih =>
    intro b x o g hled hb hlt hn hl hx ho f rg k
    have hc := hlt c List.mem_cons_self
    have s : rpS g 65 (bA X) := rg.2.2.1
    have sb : sbO g o := rg.2.2.2.2.2.2.1
    have q := s.t hj
    have qd : mI g (mR h 98 j) 2 = nI (td t) := by rw [← eR f]; exact q.2.2.1
    have qo : isO g (mR h 98 j) 6 := by rw [← eR f]; exact s.1.tO h8
    have hd := (i.2.1 t (List.mem_of_getElem? hj)).2.1
    have hne : b ≠ td t := fun z => by
      rw [List.getLast?_cons_cons] at hl
      exact (List.nodup_cons.mp hn).1 (z ▸ List.mem_of_getLast? hl)
    simp only [List.length_cons] at hx
    rw [wX9_writeRestOfRoute_L7]; dsimp only
    rw [qd, rg.1.f0, s.1.m0, c_exitOf s.2.1.1 hb, hled.1, oI_some, rg.1.f6, nI_eq (by omega) (by omega)]
    refine ⟨fun z => absurd z (nI_ge (by omega) (by decide)), fun _ => ⟨qo, fun z => absurd z hne, fun _ => ⟨rg.1.o, s.1.o, s.1.lg.o, rg.1.o, rg.1.so, ?_⟩⟩⟩
    refine sb_chr rg.1.so sb (by decide) (by omega) (fun g2 f2 s2 q2 => ⟨s2, ?_⟩)
    have sd2 : stD g2 := sd.sm (fun a ha => (f.tr f2).low q0 (by omega))
    have hcl := nch_l c
    have hnc := nch_2 (c := c) (by omega)
    refine sb_num s2 sd2 q2 (by omega) (by rw [List.length_append, List.length_singleton]; omega) (fun g3 f3 s3 q3 => ?_)
    rw [nI_add]
    refine ih c (x + 1) (o ++ [62] ++ nch c) g3 hled.2 hc (fun y hy => hlt y (List.mem_cons_of_mem _ hy)) (List.nodup_cons.mp hn).2 (by rw [List.getLast?_cons_cons] at hl; exact hl) (by omega) (by rw [List.length_append, List.length_append, List.length_singleton]; omega) ((f.tr f2).tr f3) ((rg.txt f2 q2).txt f3 q3) (fun g' f' r' => k g' f' ?_)
    rw [List.flatMap_cons]
    rw [show o ++ (62 :: nch c ++ l.flatMap (fun b => 62 :: nch b)) = o ++ [62] ++ nch c ++ l.flatMap (fun b => 62 :: nch b) by simp]
    exact r'
theorem c9_writeTrain (r : RBc h X) (sd : stD h) (i : IP (bA X)) (bn : BN (bA X)) (ho : (bO X).length < 2 ^ 31) {x : Int32} (k : ∀ t, fnd (bA X) x = some t → ∀ g, fcl h g → RBc g (wO_ X (owT t)) → K (nI (owT t).length) g) (kT : fnd (bA X) x = none → T xS h) : wX9_writeTrain 64 x h K T := by
  obtain ⟨p, r⟩ := r
  have q := r.2.2.2.2.2.2.1
  have h12 := r.n12
  unfold wX9_writeTrain
  refine ⟨r.1.o, c_present r i (fun j t hf hj h8 => ⟨r.1.o, ?_⟩) kT⟩
  obtain ⟨k1, k2, k3, k4, k5, k6, k7, kn, k9⟩ := i.2.1 t (List.mem_of_getElem? hj)
  have hb := (tr_b31 r i (List.mem_of_getElem? hj)).1
  have hC := bn.1
  have n2 : ∀ c, c < 12 → (nch c).length ≤ 2 := fun c hc => nch_2 hc
  have n4 := nch_l (tn t)
  rw [r.1.f6]
  have eR : ∀ {g : AH}, fcs h g → mR g 98 = mR h 98 := fun f => (f.low q (a := 98) (by omega)).2.2.1
  have ctx : ∀ {g : AH} {o : List Nat}, fcs h g → RBp g p (wO_ X o) → isO g (mR h 98 j) 6 ∧ cnT g (mR h 98 j) t ∧ stD g := fun {g o} f rg => by
    have s : rpS g 65 (bA X) := rg.2.2.1
    refine ⟨by rw [← eR f]; exact s.1.tO h8, by rw [← eR f]; exact s.t hj, sd.sm (fun a ha => f.low q (by omega))⟩
  have fin : ∀ {g : AH}, fcs h g → RBp g p (wO_ X (owT t)) → wX9_writeTrain_J70 K T 64 g := fun {g} f rg => by
    unfold wX9_writeTrain_J70 wJ4_length_8abf5 wJ5_length_8abf5
    rw [rg.1.f6]
    have sb : sbO g (owT t) := rg.2.2.2.2.2.2.1
    rw [sb.2.2.2.2.2.2.1]
    exact ⟨rg.1.o, rg.1.so, rg.1.so, rg.1.so, k t hf g (f.fcl q) ⟨p, rg⟩⟩
  refine ⟨r.1.so, sb_zero r.1.so q ho (fun g1 f1 s1 q1 => ?_)⟩
  have r1 := r.txt f1 q1
  obtain ⟨a1, a2, a3⟩ := ctx f1 r1
  rw [r1.1.f6, a2.1]
  refine ⟨r1.1.o, a1, s1, sb_num s1 a3 q1 (by omega) (Nat.zero_le _) (fun g2 f2 s2 q2 => ⟨s2, sb_chr s2 q2 (by decide) (by rw [List.nil_append]; omega) (fun g3 f3 s3 q3 => ?_)⟩)⟩
  have r3 := (r1.txt f2 q2).txt f3 q3
  obtain ⟨b1, b2, b3⟩ := ctx ((f1.tr f2).tr f3) r3
  rw [b2.2.1]
  have hnb := n2 (tb t) (by omega)
  refine ⟨b1, s3, sb_num s3 b3 q3 (by omega) (by rw [List.nil_append, List.length_append, List.length_singleton]; omega) (fun g4 f4 s4 q4 => ?_)⟩
  have F4 := ((f1.tr f2).tr f3).tr f4
  have r4 := r3.txt f4 q4
  obtain ⟨c1, c2, c3⟩ := ctx F4 r4
  refine ⟨c1, ?_⟩
  rw [c_isRouted c1 c2 (by omega)]
  have eo : ([] : List Nat) ++ nch (tn t) ++ [64] ++ nch (tb t) = nch (tn t) ++ [64] ++ nch (tb t) := by rw [List.nil_append]
  by_cases e : tr t = []
  · rw [if_pos e]
    refine ⟨fun _ => ⟨r4.1.o, ?_⟩, fun z => absurd rfl z⟩
    rw [r4.1.f6]
    refine ⟨s4, sb_chr s4 q4 (by decide) (by rw [eo]; simp only [List.length_append, List.length_singleton]; omega) (fun g5 f5 s5 q5 => ?_)⟩
    have r5 := r4.txt f5 q5
    obtain ⟨d1, d2, d3⟩ := ctx (F4.tr f5) r5
    rw [d2.2.2.1]
    refine ⟨d1, s5, sb_num s5 d3 q5 (by omega) (by rw [eo]; simp only [List.length_append, List.length_singleton]; omega) (fun g6 f6 s6 q6 => fin ((F4.tr f5).tr f6) ?_)⟩
    have := r5.txt f6 q6
    have ew : owT t = [] ++ nch (tn t) ++ [64] ++ nch (tb t) ++ [63] ++ nch (td t) := by unfold owT; rw [if_pos e]; simp
    rw [ew]
    exact this
  · rw [if_neg e]
    obtain ⟨z1, -⟩ := k7 e
    have hlen := nodup_le 12 (th_ t) kn (fun y hy => by
      rcases List.mem_cons.mp hy with rfl | hy
      · omega
      · have := k5 y hy; omega)
    unfold th_ at hlen
    rw [List.length_cons] at hlen
    refine ⟨fun z => absurd z (by rw [n1_ne]; exact id), fun _ => ⟨r4.1.o, ?_⟩⟩
    unfold wX9_writeRestOfRoute
    rw [c2.2.1]
    refine ⟨c1, (tr t).length + 1, by omega, ?_⟩
    refine rest_l r sd i hj (tr t) (tb t) 0 _ g4 k6 k1 k5 kn (by rw [List.getLast?_cons, z1]; rfl) (by omega) (by rw [eo]; simp only [List.length_append, List.length_singleton]; omega) F4 r4 (fun g5 F5 r5 => fin F5 ?_)
    have ew : owT t = [] ++ nch (tn t) ++ [64] ++ nch (tb t) ++ (tr t).flatMap (fun b => 62 :: nch b) := by unfold owT; rw [if_neg e]; simp
    rw [ew]
    exact r5
def qCh (X : BG) (x : Int32) : QA := match iv (bO X).length x with
  | none => (1, nI 0)
  | some i => (0, nI ((bO X).getD i 0))
end WR
