/-! THE MODEL RUNS PROGRAMS -/
section BXA
variable {G : LG} {to : Nat}
/-- a walk of f steps from b to the block 'to', and what it costs -/
def wkF (G : LG) (to : Nat) : Nat → Nat → Nat → Prop
  | 0, b, n => b = to ∧ n = 0
  | f + 1, b, n => ∃ e n', ex G b e ∧ wkF G to f e n' ∧ n = n' + 16 * gl G e + 1
def wkE (G : LG) (to b n : Nat) : Prop := ∃ f, wkF G to f b n
theorem least_of {P : Nat → Prop} (h : ∃ n, P n) : ∃ n, P n ∧ ∀ m, P m → n ≤ m := by
  obtain ⟨n, hn⟩ := h
  have key : ∀ n, (∃ m, m ≤ n ∧ P m) → ∃ n, P n ∧ ∀ m, P m → n ≤ m := by
    intro n
    induction n with
    | zero =>
      rintro ⟨m, hm, hp⟩
      exact ⟨m, hp, fun k _ => by omega⟩
    | succ n ih =>
      rintro ⟨m, hm, hp⟩
      by_cases z : ∃ m, m ≤ n ∧ P m
      · exact ih z
      · refine ⟨m, hp, fun k hk => ?_⟩
        by_cases y : k ≤ n
        · exact absurd ⟨k, y, hk⟩ z
        · omega
  exact key n ⟨n, Nat.le_refl n, hn⟩
noncomputable def lsO (P : Nat → Prop) : Option Nat := @dite _ (∃ n, P n) (Classical.propDecidable _) (fun h => some (Classical.choose (least_of h))) (fun _ => none)
theorem lsO_some {P : Nat → Prop} {n : Nat} (h : lsO P = some n) : P n ∧ ∀ m, P m → n ≤ m := by
  unfold lsO at h
  by_cases z : ∃ n, P n
  · rw [dif_pos z] at h
    have := Classical.choose_spec (least_of z)
    injection h with h
    rw [h] at this
    exact this
  · rw [dif_neg z] at h
    cases h
theorem lsO_none {P : Nat → Prop} (h : lsO P = none) : ∀ n, ¬ P n := by
  intro n hn
  unfold lsO at h
  rw [dif_pos ⟨n, hn⟩] at h
  cases h
theorem lsO_get {P : Nat → Prop} {n : Nat} (h : P n) : ∃ m, lsO P = some m := by
  unfold lsO
  rw [dif_pos ⟨n, h⟩]
  exact ⟨_, rfl⟩
/-- the shortest routes are there in every line -/
theorem bx_all (G : LG) : BX G := by
  intro to _
  refine ⟨fun b => lsO (wkE G to b), fun b => @ite _ (b = to) (Nat.decEq _ _) none (lsO (fun e => ex G b e ∧ ∃ d d', lsO (wkE G to b) = some d ∧ lsO (wkE G to e) = some d' ∧ d = d' + 16 * gl G e + 1)), ?_, if_pos rfl, fun b _ hb => ⟨fun hd => ?_, fun d hd => ?_⟩⟩
  · obtain ⟨m, hm⟩ := lsO_get (P := wkE G to to) (n := 0) ⟨0, rfl, rfl⟩
    have := (lsO_some hm).2 0 ⟨0, rfl, rfl⟩
    show lsO (wkE G to to) = some 0
    rw [hm, show m = 0 by omega]
  · have hd : lsO (wkE G to b) = none := hd
    have hn := lsO_none hd
    refine ⟨?_, fun e he => ?_⟩
    · simp only
      rw [if_neg hb]
      cases hz : lsO (fun e => ex G b e ∧ ∃ d d', lsO (wkE G to b) = some d ∧ lsO (wkE G to e) = some d' ∧ d = d' + 16 * gl G e + 1) with
      | none => rfl
      | some e =>
        obtain ⟨-, d, d', h1, -⟩ := (lsO_some hz).1
        rw [hd] at h1
        cases h1
    · cases hz : lsO (wkE G to e) with
      | none => exact hz
      | some d =>
        obtain ⟨f, hf⟩ := (lsO_some hz).1
        exact absurd ⟨f + 1, e, d, he, hf, rfl⟩ (hn (d + 16 * gl G e + 1))
  · have hd : lsO (wkE G to b) = some d := hd
    obtain ⟨⟨f, hf⟩, hmin⟩ := lsO_some hd
    cases f with
    | zero => exact absurd hf.1 hb
    | succ f =>
      obtain ⟨e, n', he, hw, hn⟩ := hf
      obtain ⟨d', hd'⟩ := lsO_get (P := wkE G to e) (n := n') ⟨f, hw⟩
      obtain ⟨⟨f2, hf2⟩, hmin2⟩ := lsO_some hd'
      have h1 := hmin2 n' ⟨f, hw⟩
      have h2 := hmin (d' + 16 * gl G e + 1) ⟨f2 + 1, e, d', he, hf2, rfl⟩
      have hde : d = d' + 16 * gl G e + 1 := by omega
      have hP : ex G b e ∧ ∃ d d', lsO (wkE G to b) = some d ∧ lsO (wkE G to e) = some d' ∧ d = d' + 16 * gl G e + 1 := ⟨he, d, d', hd, hd', hde⟩
      obtain ⟨c, hc⟩ := lsO_get (P := fun e => ex G b e ∧ ∃ d d', lsO (wkE G to b) = some d ∧ lsO (wkE G to e) = some d' ∧ d = d' + 16 * gl G e + 1) (n := e) hP
      obtain ⟨⟨c1, dd, d2, c2, c3, c4⟩, cmin⟩ := lsO_some hc
      rw [hd] at c2
      injection c2 with c2
      subst c2
      refine ⟨c, d2, ?_, c1, c3, c4, fun e2 d3 h3 h4 => ⟨?_, fun h5 => ?_⟩⟩
      · simp only
        rw [if_neg hb]
        exact hc
      · have h4 : lsO (wkE G to e2) = some d3 := h4
        obtain ⟨f3, hf3⟩ := (lsO_some h4).1
        exact hmin (d3 + 16 * gl G e2 + 1) ⟨f3 + 1, e2, d3, h3, hf3, rfl⟩
      · exact cmin e2 ⟨h3, d, d3, hd, h4, h5⟩
end BXA
section RN9
variable {h g g' : AH} {A : AG} {X Y : BG} {T : List Nat} {w c k s j : Nat} {K : Int32 → AH → Prop}
theorem il_hut {G : LG} (i : IL G) {m : Nat} (hm : m < 2 ^ gn G) : IL (gShut G m) := by
  obtain ⟨i1, i2, i3, i4, i5, i6, i7, i8, i9, i10⟩ := i
  exact ⟨i1, i2, i3, i4, i5, i6, i7, hm, i9, i10⟩
theorem il_oBlock (i : IL (aL A)) (x : Int32) : IL (aL (oBlock A x).2.2) := by
  unfold oBlock
  by_cases e1 : x < nI 1 ∨ nI 9 < x
  · rw [if_pos e1]; exact i
  · rw [if_neg e1]
    by_cases e2 : gn (aL A) = 12
    · rw [if_pos e2]; exact i
    · rw [if_neg e2]
      obtain ⟨j, hj, hj1, rfl⟩ := nI_of1 (x := x) (fun z => e1 (Or.inl z))
      have h9 : j ≤ 9 := by
        by_cases z : j ≤ 9
        · exact z
        · exact absurd (Or.inr (by rw [nI_ltI (by decide) hj]; omega)) e1
      rw [nI_clamp hj]
      have := i.1
      exact i.block (by omega) hj1 h9
theorem il_oPoint (i : IL (aL A)) (x y z : Int32) : IL (aL (oPoint A x y z).2.2) := by
  have h12 := i.1
  unfold oPoint
  cases h1 : iv (gn (aL A)) x with
  | none => exact i
  | some a =>
    cases h2 : iv (gn (aL A)) y with
    | none => exact i
    | some b =>
      cases h3 : iv (gn (aL A)) z with
      | none => exact i
      | some d =>
        simp only
        have a1 := (iv_some (by omega) h1).1
        have a2 := (iv_some (by omega) h2).1
        have a3 := (iv_some (by omega) h3).1
        by_cases e1 : a = b ∨ a = d ∨ b = d
        · rw [if_pos e1]; exact i
        · rw [if_neg e1]
          by_cases e2 : (gp (aL A)).length = 8 ∨ (gf (aL A) a).isSome
          · rw [if_pos e2]; exact i
          · rw [if_neg e2]
            have h8 := i.2.2.2.2.1
            refine i.point a1 a2 a3 (fun z => e1 (Or.inl z)) (fun z => e1 (Or.inr (Or.inl z))) (fun z => e1 (Or.inr (Or.inr z))) (by have := fun z => e2 (Or.inl z); omega) ?_
            cases hz : gf (aL A) a with
            | none => rfl
            | some v => exact absurd (Or.inr (by rw [hz]; rfl)) e2
theorem il_oLink (i : IL (aL A)) (x y : Int32) : IL (aL (oLink A x y).2.2) := by
  have h12 := i.1
  unfold oLink
  cases h1 : iv (gn (aL A)) x with
  | none => exact i
  | some a =>
    cases h2 : iv (gn (aL A)) y with
    | none => exact i
    | some b =>
      simp only
      have a1 := (iv_some (by omega) h1).1
      have a2 := (iv_some (by omega) h2).1
      by_cases e1 : a = b
      · rw [if_pos e1]; exact i
      · rw [if_neg e1]
        by_cases e2 : (gf (aL A) a).isSome
        · rw [if_pos e2]; exact i
        · rw [if_neg e2]
          refine i.link a1 a2 e1 ?_
          cases hz : gf (aL A) a with
          | none => rfl
          | some v => exact absurd (by rw [hz]; rfl) e2
theorem il_oShut (i : IL (aL A)) (x : Int32) : IL (aL (oShut A x).2.2) := by
  have h12 := i.1
  unfold oShut
  cases h1 : iv (gn (aL A)) x with
  | none => exact i
  | some a =>
    simp only
    have a1 := (iv_some (by omega) h1).1
    split
    · exact i
    · exact il_hut i (or_lt i.2.2.2.2.2.2.2.1 (p2_lt a1))
theorem il_oOpen (i : IL (aL A)) (x : Int32) : IL (aL (oOpen A x).2.2) := by
  unfold oOpen
  cases h1 : iv (gn (aL A)) x with
  | none => exact i
  | some a =>
    simp only
    split
    · exact il_hut i (Nat.lt_of_le_of_lt (clr_le _ _) i.2.2.2.2.2.2.2.1)
    · exact i
theorem il_oThrow (i : IL (aL A)) (x : Int32) : IL (aL (oThrow A x).2.2) := by
  unfold oThrow
  cases h1 : iv (gp (aL A)).length x with
  | none => exact i
  | some p =>
    simp only
    cases h2 : (gp (aL A))[p]? with
    | none => exact i
    | some s =>
      simp only
      split
      · exact i
      · refine il_side i (fun b hb => ?_)
        rw [Nat.testBit_xor, Nat.testBit_two_pow] at hb
        by_cases z : s = b
        · rw [← z]; exact List.mem_of_getElem? h2
        · simp [z] at hb
          exact i.2.2.2.2.2.2.2.2.1 b hb
theorem il_oTrain (i : IL (aL A)) (x y : Int32) : IL (aL (oTrain A x y).2.2) := by
  unfold oTrain
  split
  · split
    · exact i
    · split
      · exact i
      · exact i
  · exact i
theorem il_oFree (i : IL (aL A)) (x : Int32) : IL (aL (oFree A x).2.2) := by
  unfold oFree
  split
  · exact i
  · split
    · exact i
    · exact i
/-- a command keeps all that is known of a state -/
theorem gk_exR (gk : GK (bA X)) (b : BW w (bA X)) (hw : w ≤ 6200) (c : CM) : GK (exR (bA X) c).2.2 := by
  have ip := (exR_k gk b hw c).1
  have il := gk.1
  refine ⟨?_, bx_all _, ip⟩
  unfold exR
  split
  · exact il_oBlock il _
  · exact il_oPoint il _ _ _
  · exact il_oLink il _ _
  · exact il_oTrain il _ _
  · exact (gk_set gk _).1
  · exact il_oFree il _
  · exact il_oShut il _
  · exact il_oOpen il _
  · exact il_oThrow il _
  · exact (bw_pass b gk hw _).2.1
  · exact (bw_pass b gk hw _).2.1
theorem ob_f (x : Int32) : (oBlock A x).1 ≠ 0 → (oBlock A x).2.2 = A := by
  unfold oBlock
  split
  · exact fun _ => rfl
  · split
    · exact fun _ => rfl
    · exact fun z => absurd rfl z
theorem op_f (x y z : Int32) : (oPoint A x y z).1 ≠ 0 → (oPoint A x y z).2.2 = A := by
  unfold oPoint
  split
  · split
    · exact fun _ => rfl
    · split
      · exact fun _ => rfl
      · exact fun z => absurd rfl z
  · exact fun _ => rfl
theorem ol_f (x y : Int32) : (oLink A x y).1 ≠ 0 → (oLink A x y).2.2 = A := by
  unfold oLink
  split
  · split
    · exact fun _ => rfl
    · split
      · exact fun _ => rfl
      · exact fun z => absurd rfl z
  · exact fun _ => rfl
theorem ot_f (x y : Int32) : (oTrain A x y).1 ≠ 0 → (oTrain A x y).2.2 = A := by
  unfold oTrain
  split
  · split
    · exact fun _ => rfl
    · split
      · exact fun _ => rfl
      · exact fun z => absurd rfl z
  · exact fun _ => rfl
theorem oh_f (x : Int32) : (oShut A x).1 ≠ 0 → (oShut A x).2.2 = A := by
  unfold oShut
  split
  · exact fun _ => rfl
  · split
    · exact fun _ => rfl
    · exact fun z => absurd rfl z
theorem oo_f (x : Int32) : (oOpen A x).1 ≠ 0 → (oOpen A x).2.2 = A := by
  unfold oOpen
  split
  · exact fun _ => rfl
  · split
    · exact fun z => absurd rfl z
    · exact fun _ => rfl
theorem ow_f (x : Int32) : (oThrow A x).1 ≠ 0 → (oThrow A x).2.2 = A := by
  unfold oThrow
  split
  · exact fun _ => rfl
  · split
    · exact fun _ => rfl
    · split
      · exact fun _ => rfl
      · exact fun z => absurd rfl z
theorem of_f (x : Int32) : (oFree A x).1 ≠ 0 → (oFree A x).2.2 = A := by
  unfold oFree
  split
  · exact fun _ => rfl
  · split
    · exact fun _ => rfl
    · exact fun z => absurd rfl z
theorem oq_f (x : Int32) : (oPass A x).1 ≠ 0 → (oPass A x).2.2 = A := by
  unfold oPass
  split
  · exact fun _ => rfl
  · exact fun z => absurd rfl z
theorem os_f (x : Int32) : (oSet A x).1 ≠ 0 → (oSet A x).2.2 = A := by
  unfold oSet
  split
  · exact fun _ => rfl
  · split
    · exact fun _ => rfl
    · split
      · exact fun z => absurd rfl z
      · exact fun _ => rfl
/-- the model's box while a program runs -/
theorem RMb.go (q : RMb h X) {A' : AG} (c : mf [607, 614, 615, 616] [19, 20] h g) (r : rm (mI g 607) A') : RMb g (A', X.2) := by
  obtain ⟨s, q1, q2, q3, q4, q5, q6⟩ := q
  exact ⟨c.s s, r, q2.fr c (by decide) (by decide), q3.fr c (by decide) (by decide), q4.fr c (by decide) (by decide), q5.fr c (by decide) (by decide), q6.fr c (by decide) (by decide) (by decide) (by decide)⟩
theorem m_exc (q : RMb h X) {r : RsA} (h3 : r.1 ≤ 3) (hf : r.1 ≠ 0 → r.2.2 = bA X) (kk : ∀ v g, mf [607, 614, 615, 616] [19, 20, 21, 22] h g → RMb g (r.2.2, X.2) → (v = nI 0 ↔ r.1 = 0) → K v g) : mopK h r K := by
  constructor
  · intro hr
    refine kk _ h (mf.rf _ _ _) ?_ (by rw [nI_z (by omega)])
    rw [hf hr]
    exact q
  · intro hr g c r2 e
    exact kk _ g (c.mo (fun _ h => h) (by decide)) (q.go c r2) ⟨fun _ => hr, fun _ => rfl⟩
theorem m_does (q : RMb h X) (gk : GK (bA X)) (i : PX w X) (hw : w ≤ 6200) {ns : List Nat} (hk : k < 11) (hl : ns.length = wld (frm k)) (t : tld h c k ns) (hc : c < 13) (kk : ∀ v g, mf [607, 614, 615, 616] [19, 20, 21, 22] h g → RMb g (exX X (k, ns)) → (v = nI 0 ↔ (exR (bA X) (k, ns)).1 = 0) → K v g) : wX10_does 606 (nI c) h K := by
  have s := q.1
  have bn : BN (bA X) := i.1.2.bn hw
  have hC : aC (bA X) ≤ 9000 := by have := bn.1; omega
  have im := gk.ims hC
  have r := q.2.1
  obtain ⟨t0, t9, t1⟩ := t
  have nsv : ∀ p, p < wld (frm k) → mI h 612 (4 * c + 1 + p) = cn (k, ns) p := fun p hp => by
    have hp2 : p < ns.length := by omega
    have : ns[p]? = some (ns.getD p 0) := by
      rw [List.getD_eq_getElem?_getD, List.getElem?_eq_getElem hp2]
      rfl
    exact t1 p _ this
  have e1 : 4 * c + 2 = 4 * c + 1 + 1 := rfl
  have e2 : 4 * c + 3 = 4 * c + 1 + 2 := rfl
  unfold wX10_does
  simp (disch := omega) only [s.o, s.r8, s.a12, s.l12, nI_add, pk_mul, nI_clamp, nI_leI, nI_ltI, nI_eq, vp_in_nI, true_and, t0, forall_eq]
  have hf : k = 4 ∨ exX X (k, ns) = ((exR (bA X) (k, ns)).2.2, X.2) := by
    by_cases z : k = 4
    · exact Or.inl z
    · refine Or.inr ?_
      unfold exX
      rw [if_neg (show ¬ (k, ns).1 = 4 from z)]
  have fin : ∀ (r0 : RsA), exR (bA X) (k, ns) = r0 → k ≠ 4 → r0.1 ≤ 3 → (r0.1 ≠ 0 → r0.2.2 = bA X) → mopK h r0 K := fun r0 h1 h4 h2 h3 => by
    refine m_exc q h2 h3 (fun v g c2 q2 hv => kk v g c2 ?_ ?_)
    · rw [hf.resolve_left h4, h1]; exact q2
    · rw [h1]; exact hv
  have gp_ : ∀ n, n ≤ 240 → GK (mins n (bA X)) ∧ aC (mins n (bA X)) ≤ 9000 ∧ aM (mins n (bA X)) < 2 ^ 29 := fun n hn => by
    obtain ⟨b1, b2, -, -⟩ := i.1.2.mins gk hw hn
    obtain ⟨b3, b4, -⟩ := b2
    exact ⟨b1, by omega, by omega⟩
  have hk2 : k = 0 ∨ k = 1 ∨ k = 2 ∨ k = 3 ∨ k = 4 ∨ k = 5 ∨ k = 6 ∨ k = 7 ∨ k = 8 ∨ k = 9 ∨ k = 10 := by omega
  rcases hk2 with rfl | rfl | rfl | rfl | rfl | rfl | rfl | rfl | rfl | rfl | rfl
  · refine ⟨fun _ => ?_, fun z => absurd z (by decide), fun z => absurd z (by decide), fun z => absurd z (by decide), fun z => absurd z (by decide), fun z => absurd z (by decide), fun z => absurd z (by decide), fun z => absurd z (by decide), fun z => absurd z (by decide), fun z => absurd (by decide) z.1⟩
    have v0 := nsv 0 (by decide)
    rw [Nat.add_zero] at v0
    rw [v0]
    exact m_lays s im r (fin _ rfl (by decide) (Nat.le_trans (rg_block _ gk.1).1 (by decide)) (ob_f _))
  · refine ⟨fun z => absurd z (by decide), fun z => absurd z (by decide), fun z => absurd z (by decide), fun z => absurd z (by decide), fun _ => ?_, fun z => absurd z (by decide), fun z => absurd z (by decide), fun z => absurd z (by decide), fun z => absurd z (by decide), fun z => absurd (by decide) z.2.2.2.2.1⟩
    have v0 := nsv 0 (by decide)
    rw [Nat.add_zero] at v0
    rw [v0, e1, e2, nsv 1 (by decide), nsv 2 (by decide)]
    exact m_forks s im gk.2.2 r (fin _ rfl (by decide) (rg_point _ _ _ gk.1).1 (op_f _ _ _))
  · refine ⟨fun z => absurd z (by decide), fun z => absurd z (by decide), fun _ => ?_, fun z => absurd z (by decide), fun z => absurd z (by decide), fun z => absurd z (by decide), fun z => absurd z (by decide), fun z => absurd z (by decide), fun z => absurd z (by decide), fun z => absurd (by decide) z.2.2.1⟩
    have v0 := nsv 0 (by decide)
    rw [Nat.add_zero] at v0
    rw [v0, e1, nsv 1 (by decide)]
    exact m_links s im r (fin _ rfl (by decide) (rg_link _ _ gk.1).1 (ol_f _ _))
  · refine ⟨fun z => absurd z (by decide), fun z => absurd z (by decide), fun z => absurd z (by decide), fun z => absurd z (by decide), fun z => absurd z (by decide), fun z => absurd z (by decide), fun _ => ?_, fun z => absurd z (by decide), fun z => absurd z (by decide), fun z => absurd (by decide) z.2.2.2.2.2.2.1⟩
    have v0 := nsv 0 (by decide)
    rw [Nat.add_zero] at v0
    rw [v0, e1, nsv 1 (by decide)]
    exact m_comes s im gk.2.2 (by have := bn.1; omega) r (fin _ rfl (by decide) (rg_train _ _ bn).1 (ot_f _ _))
  · refine ⟨fun z => absurd z (by decide), fun z => absurd z (by decide), fun z => absurd z (by decide), fun z => absurd z (by decide), fun z => absurd z (by decide), fun _ => ?_, fun z => absurd z (by decide), fun z => absurd z (by decide), fun z => absurd z (by decide), fun z => absurd (by decide) z.2.2.2.2.2.1⟩
    have v0 := nsv 0 (by decide)
    rw [Nat.add_zero] at v0
    rw [v0]
    have hM : aM (bA X) < 2 ^ 30 := by have := bn.2.1; omega
    have h3 := (rg_set (cn (4, ns) 0) gk).1
    have eE : exR (bA X) (4, ns) = oSet (bA X) (cn (4, ns) 0) := rfl
    have eX : exX X (4, ns) = ((oSet (bA X) (cn (4, ns) 0)).2.2, (rfd (bA X) (cn (4, ns) 0) X).2) := by
      unfold exX
      rw [if_pos (show ((4, ns) : CM).1 = 4 from rfl), eE]
    have no3 : (oSet (bA X) (cn (4, ns) 0)).1 ≠ 3 → exX X (4, ns) = ((oSet (bA X) (cn (4, ns) 0)).2.2, X.2) := fun hn => by
      have : rfd (bA X) (cn (4, ns) 0) X = X := by
        unfold rfd
        cases fnd (bA X) (cn (4, ns) 0) with
        | none => rfl
        | some t => simp only; rw [if_neg hn]
      rw [eX, this]
    rw [eE] at kk
    refine m_clears gk im hM s r (fun hr => ?_) (fun t ht hr g c2 e21 e22 => ?_) (fun hr g c2 r2 _ => ?_)
    · refine kk _ h (mf.rf _ _ _) ?_ (by rw [nI_z (by omega)])
      rw [no3 (by omega), os_f _ (by omega)]
      exact q
    · refine kk _ g (c2.mo (by decide) (by decide)) ?_ (by rw [nI_z (by omega), hr])
      have hX : rfd (bA X) (cn (4, ns) 0) X = (bA X, bH X, bS X, bO X, bF X, (why (bA X) t).1, (why (bA X) t).2, bE X, bX X) := by
        unfold rfd
        rw [ht]; simp only
        rw [if_pos hr]
      rw [eX, hX, os_f _ (by omega)]
      obtain ⟨s, q1, q2, q3, q4, q5, q6⟩ := q
      obtain ⟨-, -, a3, a4⟩ := q6
      exact ⟨c2.s s, q1.fr c2 (by decide), q2.fr c2 (by decide) (by decide), q3.fr c2 (by decide) (by decide), q4.fr c2 (by decide) (by decide), q5.fr c2 (by decide) (by decide), e21, e22, by rw [c2.f (by decide)]; exact a3, by rw [c2.f (by decide)]; exact a4⟩
    · refine kk _ g (c2.mo (fun _ h => h) (by decide)) ?_ ⟨fun _ => hr, fun _ => rfl⟩
      rw [no3 (by omega)]
      exact q.go c2 r2
  · refine ⟨fun z => absurd z (by decide), fun _ => ?_, fun z => absurd z (by decide), fun z => absurd z (by decide), fun z => absurd z (by decide), fun z => absurd z (by decide), fun z => absurd z (by decide), fun z => absurd z (by decide), fun z => absurd z (by decide), fun z => absurd (by decide) z.2.1⟩
    have v0 := nsv 0 (by decide)
    rw [Nat.add_zero] at v0
    rw [v0]
    exact m_frees gk im s r (fin _ rfl (by decide) (Nat.le_trans (rg_free _ gk.2.2).1 (by decide)) (of_f _))
  · refine ⟨fun z => absurd z (by decide), fun z => absurd z (by decide), fun z => absurd z (by decide), fun z => absurd z (by decide), fun z => absurd z (by decide), fun z => absurd z (by decide), fun z => absurd z (by decide), fun _ => ?_, fun z => absurd z (by decide), fun z => absurd (by decide) z.2.2.2.2.2.2.2.1⟩
    have v0 := nsv 0 (by decide)
    rw [Nat.add_zero] at v0
    rw [v0]
    exact m_shuts s im r (fin _ rfl (by decide) (Nat.le_trans (rg_shut _).1 (by decide)) (oh_f _))
  · refine ⟨fun z => absurd z (by decide), fun z => absurd z (by decide), fun z => absurd z (by decide), fun _ => ?_, fun z => absurd z (by decide), fun z => absurd z (by decide), fun z => absurd z (by decide), fun z => absurd z (by decide), fun z => absurd z (by decide), fun z => absurd (by decide) z.2.2.2.1⟩
    have v0 := nsv 0 (by decide)
    rw [Nat.add_zero] at v0
    rw [v0]
    exact m_opens s im r (fin _ rfl (by decide) (Nat.le_trans (rg_open _).1 (by decide)) (oo_f _))
  · refine ⟨fun z => absurd z (by decide), fun z => absurd z (by decide), fun z => absurd z (by decide), fun z => absurd z (by decide), fun z => absurd z (by decide), fun z => absurd z (by decide), fun z => absurd z (by decide), fun z => absurd z (by decide), fun _ => ?_, fun z => absurd (by decide) z.2.2.2.2.2.2.2.2⟩
    have v0 := nsv 0 (by decide)
    rw [Nat.add_zero] at v0
    rw [v0]
    exact m_throwsOver s im r (fin _ rfl (by decide) (Nat.le_trans (rg_throw _).1 (by decide)) (ow_f _))
  · refine ⟨fun z => absurd z (by decide), fun z => absurd z (by decide), fun z => absurd z (by decide), fun z => absurd z (by decide), fun z => absurd z (by decide), fun z => absurd z (by decide), fun z => absurd z (by decide), fun z => absurd z (by decide), fun z => absurd z (by decide), fun _ => ?_⟩
    rw [t9 rfl]
    exact m_passes s gp_ r (fin _ rfl (by decide) (Nat.le_trans (rg_pass _ gk i.1.2 hw).1 (by decide)) (oq_f _))
  · refine ⟨fun z => absurd z (by decide), fun z => absurd z (by decide), fun z => absurd z (by decide), fun z => absurd z (by decide), fun z => absurd z (by decide), fun z => absurd z (by decide), fun z => absurd z (by decide), fun z => absurd z (by decide), fun z => absurd z (by decide), fun _ => ?_⟩
    have v0 := nsv 0 (by decide)
    rw [Nat.add_zero] at v0
    rw [v0]
    exact m_passes s gp_ r (fin _ rfl (by decide) (Nat.le_trans (rg_pass _ gk i.1.2 hw).1 (by decide)) (oq_f _))
end RN9
