/-! ROUTES: EVERY LINE HAS THEM; WHAT THE OPERATIONS KEEP -/
section BXA
variable {G : LG} {to : Nat}
/-- a walk of f steps from b to the block 'to', and what it costs -/
def wkF (G : LG) (to : Nat) : Nat → Nat → Nat → Prop
  | 0, b, n => b = to ∧ n = 0
  | f + 1, b, n => ∃ e n', ex G b e ∧ wkF G to f e n' ∧ n = n' + 16 * gl G e + 1
def wkE (G : LG) (to b n : Nat) : Prop := ∃ f, wkF G to f b n
theorem least_of {P : Nat → Prop} (h : ∃ n, P n) : ∃ n, P n ∧ ∀ m, P m → n ≤ m := by
  obtain ⟨n, hn⟩ := h
  have key : ∀ n, (∃ m, m ≤ n ∧ P m) → ∃ n, P n ∧ ∀ m, P m → n ≤ m := by
    intro n
    induction n with
    | zero =>
      rintro ⟨m, hm, hp⟩
      exact ⟨m, hp, fun k _ => by omega⟩
    | succ n ih =>
      rintro ⟨m, hm, hp⟩
      by_cases z : ∃ m, m ≤ n ∧ P m
      · exact ih z
      · refine ⟨m, hp, fun k hk => ?_⟩
        by_cases y : k ≤ n
        · exact absurd ⟨k, y, hk⟩ z
        · omega
  exact key n ⟨n, Nat.le_refl n, hn⟩
noncomputable def lsO (P : Nat → Prop) : Option Nat := @dite _ (∃ n, P n) (Classical.propDecidable _) (fun h => some (Classical.choose (least_of h))) (fun _ => none)
theorem lsO_some {P : Nat → Prop} {n : Nat} (h : lsO P = some n) : P n ∧ ∀ m, P m → n ≤ m := by
  unfold lsO at h
  by_cases z : ∃ n, P n
  · rw [dif_pos z] at h
    have := Classical.choose_spec (least_of z)
    injection h with h
    rw [h] at this
    exact this
  · rw [dif_neg z] at h
    cases h
theorem lsO_none {P : Nat → Prop} (h : lsO P = none) : ∀ n, ¬ P n := by
  intro n hn
  unfold lsO at h
  rw [dif_pos ⟨n, hn⟩] at h
  cases h
theorem lsO_get {P : Nat → Prop} {n : Nat} (h : P n) : ∃ m, lsO P = some m := by
  unfold lsO
  rw [dif_pos ⟨n, h⟩]
  exact ⟨_, rfl⟩
/-- the shortest routes are there in every line -/
theorem bx_all (G : LG) : BX G := by
  intro to _
  refine ⟨fun b => lsO (wkE G to b), fun b => @ite _ (b = to) (Nat.decEq _ _) none (lsO (fun e => ex G b e ∧ ∃ d d', lsO (wkE G to b) = some d ∧ lsO (wkE G to e) = some d' ∧ d = d' + 16 * gl G e + 1)), ?_, if_pos rfl, fun b _ hb => ⟨fun hd => ?_, fun d hd => ?_⟩⟩
  · obtain ⟨m, hm⟩ := lsO_get (P := wkE G to to) (n := 0) ⟨0, rfl, rfl⟩
    have := (lsO_some hm).2 0 ⟨0, rfl, rfl⟩
    show lsO (wkE G to to) = some 0
    rw [hm, show m = 0 by omega]
  · have hd : lsO (wkE G to b) = none := hd
    have hn := lsO_none hd
    refine ⟨?_, fun e he => ?_⟩
    · simp only
      rw [if_neg hb]
      cases hz : lsO (fun e => ex G b e ∧ ∃ d d', lsO (wkE G to b) = some d ∧ lsO (wkE G to e) = some d' ∧ d = d' + 16 * gl G e + 1) with
      | none => rfl
      | some e =>
        obtain ⟨-, d, d', h1, -⟩ := (lsO_some hz).1
        rw [hd] at h1
        cases h1
    · cases hz : lsO (wkE G to e) with
      | none => exact hz
      | some d =>
        obtain ⟨f, hf⟩ := (lsO_some hz).1
        exact absurd ⟨f + 1, e, d, he, hf, rfl⟩ (hn (d + 16 * gl G e + 1))
  · have hd : lsO (wkE G to b) = some d := hd
    obtain ⟨⟨f, hf⟩, hmin⟩ := lsO_some hd
    cases f with
    | zero => exact absurd hf.1 hb
    | succ f =>
      obtain ⟨e, n', he, hw, hn⟩ := hf
      obtain ⟨d', hd'⟩ := lsO_get (P := wkE G to e) (n := n') ⟨f, hw⟩
      obtain ⟨⟨f2, hf2⟩, hmin2⟩ := lsO_some hd'
      have h1 := hmin2 n' ⟨f, hw⟩
      have h2 := hmin (d' + 16 * gl G e + 1) ⟨f2 + 1, e, d', he, hf2, rfl⟩
      have hde : d = d' + 16 * gl G e + 1 := by omega
      have hP : ex G b e ∧ ∃ d d', lsO (wkE G to b) = some d ∧ lsO (wkE G to e) = some d' ∧ d = d' + 16 * gl G e + 1 := ⟨he, d, d', hd, hd', hde⟩
      obtain ⟨c, hc⟩ := lsO_get (P := fun e => ex G b e ∧ ∃ d d', lsO (wkE G to b) = some d ∧ lsO (wkE G to e) = some d' ∧ d = d' + 16 * gl G e + 1) (n := e) hP
      obtain ⟨⟨c1, dd, d2, c2, c3, c4⟩, cmin⟩ := lsO_some hc
      rw [hd] at c2
      injection c2 with c2
      subst c2
      refine ⟨c, d2, ?_, c1, c3, c4, fun e2 d3 h3 h4 => ⟨?_, fun h5 => ?_⟩⟩
      · simp only
        rw [if_neg hb]
        exact hc
      · have h4 : lsO (wkE G to e2) = some d3 := h4
        obtain ⟨f3, hf3⟩ := (lsO_some h4).1
        exact hmin (d3 + 16 * gl G e2 + 1) ⟨f3 + 1, e2, d3, h3, hf3, rfl⟩
      · exact cmin e2 ⟨h3, d, d3, hd, h4, h5⟩
end BXA
section RN9
variable {h g g' : AH} {A : AG} {X Y : BG} {T : List Nat} {w c k s j : Nat} {K : Int32 → AH → Prop}
theorem il_hut {G : LG} (i : IL G) {m : Nat} (hm : m < 2 ^ gn G) : IL (gShut G m) := by
  obtain ⟨i1, i2, i3, i4, i5, i6, i7, i8, i9, i10⟩ := i
  exact ⟨i1, i2, i3, i4, i5, i6, i7, hm, i9, i10⟩
theorem il_oBlock (i : IL (aL A)) (x : Int32) : IL (aL (oBlock A x).2.2) := by
  unfold oBlock
  by_cases e1 : x < nI 1 ∨ nI 9 < x
  · rw [if_pos e1]; exact i
  · rw [if_neg e1]
    by_cases e2 : gn (aL A) = 12
    · rw [if_pos e2]; exact i
    · rw [if_neg e2]
      obtain ⟨j, hj, hj1, rfl⟩ := nI_of1 (x := x) (fun z => e1 (Or.inl z))
      have h9 : j ≤ 9 := by
        by_cases z : j ≤ 9
        · exact z
        · exact absurd (Or.inr (by rw [nI_ltI (by decide) hj]; omega)) e1
      rw [nI_clamp hj]
      have := i.1
      exact i.block (by omega) hj1 h9
theorem il_oPoint (i : IL (aL A)) (x y z : Int32) : IL (aL (oPoint A x y z).2.2) := by
  have h12 := i.1
  unfold oPoint
  cases h1 : iv (gn (aL A)) x with
  | none => exact i
  | some a =>
    cases h2 : iv (gn (aL A)) y with
    | none => exact i
    | some b =>
      cases h3 : iv (gn (aL A)) z with
      | none => exact i
      | some d =>
        simp only
        have a1 := (iv_some (by omega) h1).1
        have a2 := (iv_some (by omega) h2).1
        have a3 := (iv_some (by omega) h3).1
        by_cases e1 : a = b ∨ a = d ∨ b = d
        · rw [if_pos e1]; exact i
        · rw [if_neg e1]
          by_cases e2 : (gp (aL A)).length = 8 ∨ (gf (aL A) a).isSome
          · rw [if_pos e2]; exact i
          · rw [if_neg e2]
            have h8 := i.2.2.2.2.1
            refine i.point a1 a2 a3 (fun z => e1 (Or.inl z)) (fun z => e1 (Or.inr (Or.inl z))) (fun z => e1 (Or.inr (Or.inr z))) (by have := fun z => e2 (Or.inl z); omega) ?_
            cases hz : gf (aL A) a with
            | none => rfl
            | some v => exact absurd (Or.inr (by rw [hz]; rfl)) e2
theorem il_oLink (i : IL (aL A)) (x y : Int32) : IL (aL (oLink A x y).2.2) := by
  have h12 := i.1
  unfold oLink
  cases h1 : iv (gn (aL A)) x with
  | none => exact i
  | some a =>
    cases h2 : iv (gn (aL A)) y with
    | none => exact i
    | some b =>
      simp only
      have a1 := (iv_some (by omega) h1).1
      have a2 := (iv_some (by omega) h2).1
      by_cases e1 : a = b
      · rw [if_pos e1]; exact i
      · rw [if_neg e1]
        by_cases e2 : (gf (aL A) a).isSome
        · rw [if_pos e2]; exact i
        · rw [if_neg e2]
          refine i.link a1 a2 e1 ?_
          cases hz : gf (aL A) a with
          | none => rfl
          | some v => exact absurd (by rw [hz]; rfl) e2
theorem il_oShut (i : IL (aL A)) (x : Int32) : IL (aL (oShut A x).2.2) := by
  have h12 := i.1
  unfold oShut
  cases h1 : iv (gn (aL A)) x with
  | none => exact i
  | some a =>
    simp only
    have a1 := (iv_some (by omega) h1).1
    split
    · exact i
    · exact il_hut i (or_lt i.2.2.2.2.2.2.2.1 (p2_lt a1))
theorem il_oOpen (i : IL (aL A)) (x : Int32) : IL (aL (oOpen A x).2.2) := by
  unfold oOpen
  cases h1 : iv (gn (aL A)) x with
  | none => exact i
  | some a =>
    simp only
    split
    · exact il_hut i (Nat.lt_of_le_of_lt (clr_le _ _) i.2.2.2.2.2.2.2.1)
    · exact i
theorem il_oThrow (i : IL (aL A)) (x : Int32) : IL (aL (oThrow A x).2.2) := by
  unfold oThrow
  cases h1 : iv (gp (aL A)).length x with
  | none => exact i
  | some p =>
    simp only
    cases h2 : (gp (aL A))[p]? with
    | none => exact i
    | some s =>
      simp only
      split
      · exact i
      · refine il_side i (fun b hb => ?_)
        rw [Nat.testBit_xor, Nat.testBit_two_pow] at hb
        by_cases z : s = b
        · rw [← z]; exact List.mem_of_getElem? h2
        · simp [z] at hb
          exact i.2.2.2.2.2.2.2.2.1 b hb
theorem il_oTrain (i : IL (aL A)) (x y : Int32) : IL (aL (oTrain A x y).2.2) := by
  unfold oTrain
  split
  · split
    · exact i
    · split
      · exact i
      · exact i
  · exact i
theorem il_oFree (i : IL (aL A)) (x : Int32) : IL (aL (oFree A x).2.2) := by
  unfold oFree
  split
  · exact i
  · split
    · exact i
    · exact i
/-- a command keeps all that is known of a state -/
theorem gk_exR (gk : GK (bA X)) (b : BW w (bA X)) (hw : w ≤ 6200) (c : CM) : GK (exR (bA X) c).2.2 := by
  have ip := (exR_k gk b hw c).1
  have il := gk.1
  refine ⟨?_, bx_all _, ip⟩
  unfold exR
  split
  · exact il_oBlock il _
  · exact il_oPoint il _ _ _
  · exact il_oLink il _ _
  · exact il_oTrain il _ _
  · exact (gk_set gk _).1
  · exact il_oFree il _
  · exact il_oShut il _
  · exact il_oOpen il _
  · exact il_oThrow il _
  · exact (bw_pass b gk hw _).2.1
  · exact (bw_pass b gk hw _).2.1
theorem ob_f (x : Int32) : (oBlock A x).1 ≠ 0 → (oBlock A x).2.2 = A := by
  unfold oBlock
  split
  · exact fun _ => rfl
  · split
    · exact fun _ => rfl
    · exact fun z => absurd rfl z
theorem op_f (x y z : Int32) : (oPoint A x y z).1 ≠ 0 → (oPoint A x y z).2.2 = A := by
  unfold oPoint
  split
  · split
    · exact fun _ => rfl
    · split
      · exact fun _ => rfl
      · exact fun z => absurd rfl z
  · exact fun _ => rfl
theorem ol_f (x y : Int32) : (oLink A x y).1 ≠ 0 → (oLink A x y).2.2 = A := by
  unfold oLink
  split
  · split
    · exact fun _ => rfl
    · split
      · exact fun _ => rfl
      · exact fun z => absurd rfl z
  · exact fun _ => rfl
theorem ot_f (x y : Int32) : (oTrain A x y).1 ≠ 0 → (oTrain A x y).2.2 = A := by
  unfold oTrain
  split
  · split
    · exact fun _ => rfl
    · split
      · exact fun _ => rfl
      · exact fun z => absurd rfl z
  · exact fun _ => rfl
theorem oh_f (x : Int32) : (oShut A x).1 ≠ 0 → (oShut A x).2.2 = A := by
  unfold oShut
  split
  · exact fun _ => rfl
  · split
    · exact fun _ => rfl
    · exact fun z => absurd rfl z
theorem oo_f (x : Int32) : (oOpen A x).1 ≠ 0 → (oOpen A x).2.2 = A := by
  unfold oOpen
  split
  · exact fun _ => rfl
  · split
    · exact fun z => absurd rfl z
    · exact fun _ => rfl
theorem ow_f (x : Int32) : (oThrow A x).1 ≠ 0 → (oThrow A x).2.2 = A := by
  unfold oThrow
  split
  · exact fun _ => rfl
  · split
    · exact fun _ => rfl
    · split
      · exact fun _ => rfl
      · exact fun z => absurd rfl z
theorem of_f (x : Int32) : (oFree A x).1 ≠ 0 → (oFree A x).2.2 = A := by
  unfold oFree
  split
  · exact fun _ => rfl
  · split
    · exact fun _ => rfl
    · exact fun z => absurd rfl z
theorem oq_f (x : Int32) : (oPass A x).1 ≠ 0 → (oPass A x).2.2 = A := by
  unfold oPass
  split
  · exact fun _ => rfl
  · exact fun z => absurd rfl z
theorem os_f (x : Int32) : (oSet A x).1 ≠ 0 → (oSet A x).2.2 = A := by
  unfold oSet
  split
  · exact fun _ => rfl
  · split
    · exact fun _ => rfl
    · split
      · exact fun z => absurd rfl z
      · exact fun _ => rfl
end RN9
