/-! WHAT THE CALLS KEEP -/
section IV
variable {A : AG} {G : LG}
theorem led_x {G G' : LG} (h : ∀ b, xo G' b = xo G b) : ∀ (l : List Nat) (b : Nat), led G b l → led G' b l := fun l b => led_o l b (fun y _ => h y)
theorem ip_line (i : IP A) {G' : LG} (hn : gn (aL A) ≤ gn G') (hl : ∀ b, b < gn (aL A) → gl G' b = gl (aL A) b) (hx : ∀ t ∈ aT A, led (aL A) (tb t) (tr t) → led G' (tb t) (tr t)) (hh : ∀ t ∈ aT A, ∀ b ∈ tr t, (gh G').testBit b = false) : IP (wL A G') := by
  obtain ⟨i1, i2, i3, i4, i5, i6, i7⟩ := i
  refine ⟨i1, fun t ht => ?_, i3, i4, i5, i6, i7⟩
  obtain ⟨k1, k2, k3, k4, k5, k6, k7, k8, k9⟩ := i2 t ht
  refine ⟨Nat.lt_of_lt_of_le k1 hn, Nat.lt_of_lt_of_le k2 hn, k3, k4, fun b hb => Nat.lt_of_lt_of_le (k5 b hb) hn, hx t ht k6, fun z => ?_, k8, hh t ht⟩
  obtain ⟨z1, z2, z3⟩ := k7 z
  refine ⟨z1, z2, ?_⟩
  show tu t ≤ aM A + gl G' ((tr t).headD 0)
  cases hr : tr t with
  | nil => exact absurd hr z
  | cons c l =>
    rw [hr] at z3 k5
    simp only [List.headD_cons] at z3 ⊢
    rw [hl c (k5 c List.mem_cons_self)]
    exact z3
theorem resv_f {b : Nat} (h : resv A b = false) {t : TG} (ht : t ∈ aT A) : b ∉ tr t := fun z => by
  unfold resv at h
  rw [List.any_eq_false] at h
  exact h t ht (decide_eq_true z)
theorem ip_shut (i : IP A) (x : Int32) : IP (oShut A x).2.2 := by
  unfold oShut
  cases iv (gn (aL A)) x with
  | none => exact i
  | some b =>
    simp only
    by_cases e : (gh (aL A)).testBit b = true ∨ resv A b = true
    · rw [if_pos e]; exact i
    · rw [if_neg e]
      refine ip_line i (Nat.le_refl _) (fun _ _ => rfl) (fun t ht z => led_x (G := aL A) (G' := gShut (aL A) (gh (aL A) ||| 2 ^ b)) (fun _ => rfl) _ _ z) (fun t ht c hc => ?_)
      show (gh (aL A) ||| 2 ^ b).testBit c = false
      have hr : resv A b = false := by
        cases hz : resv A b with
        | false => rfl
        | true => exact absurd (Or.inr hz) e
      have hbc : ¬ b = c := fun z => resv_f hr ht (z ▸ hc)
      rw [tb_or, (i.2.1 t ht).2.2.2.2.2.2.2.2 c hc]
      simp [hbc]
theorem ip_open (i : IP A) (hh : gh (aL A) < 2 ^ 32) (x : Int32) : IP (oOpen A x).2.2 := by
  unfold oOpen
  cases iv (gn (aL A)) x with
  | none => exact i
  | some b =>
    simp only
    by_cases e : (gh (aL A)).testBit b = true
    · rw [if_pos e]
      refine ip_line i (Nat.le_refl _) (fun _ _ => rfl) (fun t ht z => led_x (G := aL A) (G' := gShut (aL A) (clr (gh (aL A)) b)) (fun _ => rfl) _ _ z) (fun t ht c hc => ?_)
      show (clr (gh (aL A)) b).testBit c = false
      rw [clr_bit hh, (i.2.1 t ht).2.2.2.2.2.2.2.2 c hc]
      rfl
    · rw [if_neg e]; exact i
theorem ip_block (i : IP A) (x : Int32) : IP (oBlock A x).2.2 := by
  unfold oBlock
  by_cases e1 : x < nI 1 ∨ nI 9 < x
  · rw [if_pos e1]; exact i
  · rw [if_neg e1]
    by_cases e2 : gn (aL A) = 12
    · rw [if_pos e2]; exact i
    · rw [if_neg e2]
      have ho : ∀ b, b < gn (aL A) → b ≠ gn (aL A) := fun b hb => by omega
      refine ip_line i (G' := gBlock (aL A) x.toNatClampNeg) (Nat.le_succ _) (fun b hb => ups_o (ho b hb)) (fun t ht z => ?_) (fun t ht b hb => (i.2.1 t ht).2.2.2.2.2.2.2.2 b hb)
      obtain ⟨k1, k2, k3, k4, k5, -⟩ := i.2.1 t ht
      refine led_o _ _ (fun y hy => ?_) z
      have hy' : y < gn (aL A) := by
        rcases List.mem_cons.mp hy with rfl | hy
        · exact k1
        · exact k5 y hy
      show (if (gd (aL A)).testBit y then ups (gr (aL A)) (gn (aL A)) none y else ups (gf (aL A)) (gn (aL A)) none y) = xo (aL A) y
      rw [ups_o (ho y hy'), ups_o (ho y hy')]
      rfl
theorem led_m {G G' : LG} (h : ∀ y c, xo G y = some c → xo G' y = some c) : ∀ (l : List Nat) (b : Nat), led G b l → led G' b l := by
  intro l
  induction l with
  | nil => intro b _; exact True.intro
  | cons c l ih => intro b z; exact ⟨h b c z.1, ih c z.2⟩
/-- a block without exits gets some -/
theorem xo_new {G G' : LG} (i : IL G) {s : Nat} (hs : s < gn G) (hf : gf G s = none) (e1 : ∀ b, b ≠ s → gf G' b = gf G b ∧ gr G' b = gr G b) (e2 : gd G' = gd G) : ∀ y c, xo G y = some c → xo G' y = some c := by
  intro y c hy
  by_cases e : y = s
  · subst e
    have hr : gr G y = none := by
      rcases i.2.2.1 y hs with ⟨-, z⟩ | ⟨l, r, z, -⟩
      · exact z
      · rw [hf] at z; cases z
    unfold xo at hy
    rw [hf, hr] at hy
    cases hz : (gd G).testBit y <;> rw [hz] at hy <;> cases hy
  · unfold xo at hy ⊢
    rw [e2, (e1 y e).1, (e1 y e).2]
    exact hy
theorem ip_link (i : IP A) (il : IL (aL A)) (x y : Int32) : IP (oLink A x y).2.2 := by
  unfold oLink
  cases h1 : iv (gn (aL A)) x with
  | none => exact i
  | some f =>
    cases h2 : iv (gn (aL A)) y with
    | none => exact i
    | some t =>
      simp only
      by_cases e1 : f = t
      · rw [if_pos e1]; exact i
      · rw [if_neg e1]
        by_cases e2 : (gf (aL A) f).isSome = true
        · rw [if_pos e2]; exact i
        · rw [if_neg e2]
          have hf : gf (aL A) f = none := by
            cases hz : gf (aL A) f with
            | none => rfl
            | some k => rw [hz] at e2; exact absurd rfl e2
          obtain ⟨hf2, -⟩ : f < gn (aL A) ∧ x = nI f := iv_some (by have := il.1; omega) h1
          refine ip_line i (G' := gLink (aL A) f t) (Nat.le_refl _) (fun _ _ => rfl) (fun u hu z => led_m (xo_new (G' := gLink (aL A) f t) il hf2 hf (fun b hb => ⟨ups_o hb, ups_o hb⟩) rfl) _ _ z) (fun u hu b hb => (i.2.1 u hu).2.2.2.2.2.2.2.2 b hb)
theorem ip_point (i : IP A) (il : IL (aL A)) (x y z : Int32) : IP (oPoint A x y z).2.2 := by
  unfold oPoint
  cases h1 : iv (gn (aL A)) x with
  | none => exact i
  | some s =>
    cases h2 : iv (gn (aL A)) y with
    | none => exact i
    | some l =>
      cases h3 : iv (gn (aL A)) z with
      | none => exact i
      | some r =>
        simp only
        by_cases e1 : s = l ∨ s = r ∨ l = r
        · rw [if_pos e1]; exact i
        · rw [if_neg e1]
          by_cases e2 : (gp (aL A)).length = 8 ∨ (gf (aL A) s).isSome = true
          · rw [if_pos e2]; exact i
          · rw [if_neg e2]
            have hf : gf (aL A) s = none := by
              cases hz : gf (aL A) s with
              | none => rfl
              | some k => rw [hz] at e2; exact absurd (Or.inr rfl) e2
            obtain ⟨hf2, -⟩ : s < gn (aL A) ∧ x = nI s := iv_some (by have := il.1; omega) h1
            refine ip_line i (G' := gPoint (aL A) s l r) (Nat.le_refl _) (fun _ _ => rfl) (fun u hu z => led_m (xo_new (G' := gPoint (aL A) s l r) il hf2 hf (fun b hb => ⟨ups_o hb, ups_o hb⟩) rfl) _ _ z) (fun u hu b hb => (i.2.1 u hu).2.2.2.2.2.2.2.2 b hb)
end IV
