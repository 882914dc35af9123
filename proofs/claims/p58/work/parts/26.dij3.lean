/-- what holds while the routes to one block are found: L, the settled blocks -/
def DI (G : LG) (to : Nat) (L : List Nat) (c : Nat → Nat) (N : Nat → Option Nat) (R : Nat → Nat) : Prop := L.Nodup ∧ (∀ x ∈ L, x < gn G) ∧ c to = 0 ∧ N to = none ∧ (∀ b, b < gn G → c b ≤ 1000000 ∧ (c b < 1000000 → c b ≤ 145 * L.length)) ∧
  (∀ b, b < gn G → b ≠ to → (N b = none → c b = 1000000 ∧ ∀ e, ex G b e → e ∉ L) ∧ ∀ e, N b = some e → ex G b e ∧ e ∈ L ∧ c b = c e + 16 * gl G e + 1 ∧ ∀ e2, ex G b e2 → e2 ∈ L → c b ≤ c e2 + 16 * gl G e2 + 1 ∧ (c b = c e2 + 16 * gl G e2 + 1 → e ≤ e2)) ∧
  (∀ x ∈ L, c x < 1000000 ∧ ∀ y, y < gn G → y ∉ L → c x ≤ c y) ∧ ∀ b, b < gn G → R b = if b ∈ L then (match N b with
    | none => 0
    | some e => R e ||| 2 ^ e) else 0
def R_' (N : Nat → Option Nat) (R : Nat → Nat) (near b : Nat) : Nat := if b = near then (match N near with
    | none => 0
    | some e => R e ||| 2 ^ e) else R b
theorem R_ne {N : Nat → Option Nat} {R : Nat → Nat} {near b : Nat} (h : ¬ b = near) : R_' N R near b = R b := if_neg h
theorem R_eq {N : Nat → Option Nat} {R : Nat → Nat} {near : Nat} : R_' N R near near = (match N near with
    | none => 0
    | some e => R e ||| 2 ^ e) := if_pos rfl
section DJ3
variable {G : LG} {to : Nat} {L : List Nat} {c : Nat → Nat} {N : Nat → Option Nat} {R : Nat → Nat}
theorem DI.len (d : DI G to L c N R) : L.length ≤ gn G := nodup_le _ _ d.1 d.2.1
theorem DI.step (i : IL G) (d : DI G to L c N R) {near : Nat} (h1 : near < gn G) (h2 : near ∉ L) (h3 : c near < 1000000) (h4 : ∀ y, y < gn G → y ∉ L → c near ≤ c y) (ht : to < gn G) :
    DI G to (near :: L) (rc_ G c N (c near + gl G near * 16 + 1) near) (rN_ G c N (c near + gl G near * 16 + 1) near) (R_' N R near) ∧ c near + gl G near * 16 + 1 < 1000000 := by
  have hlen := d.len
  obtain ⟨d1, d2, d3, d4, d5, d6, d7, d8⟩ := d
  have h12 := i.1
  have hg := i.2.1 near h1
  have hb5 := (d5 near h1).2 h3
  have hlt : L.length < gn G := by
    have := nodup_le (gn G) (near :: L) (List.nodup_cons.mpr ⟨h2, d1⟩) (fun x hx => by
      rcases List.mem_cons.mp hx with rfl | hx
      · exact h1
      · exact d2 x hx)
    simp only [List.length_cons] at this
    omega
  generalize hth : c near + gl G near * 16 + 1 = th
  have hth6 : th < 1000000 := by omega
  refine ⟨?_, hth6⟩
  have hto : ¬ rlx G c N th near to := fun z => by
    rcases z.1 with z | ⟨z, -⟩
    · rw [d3] at z; omega
    · rw [d3] at z; omega
  have hLx : ∀ x ∈ L, ¬ rlx G c N th near x := fun x hx z => by
    have := (d7 x hx).2 near h1 h2
    rcases z.1 with z | ⟨z, -⟩ <;> omega
  have hnn : ¬ rlx G c N th near near := fun z => by
    rcases z.1 with z | ⟨z, -⟩ <;> omega
  have hcL : ∀ x ∈ L, rc_ G c N th near x = c x := fun x hx => (rc_n (hLx x hx)).1
  have hNL : ∀ x ∈ L, rN_ G c N th near x = N x := fun x hx => (rc_n (hLx x hx)).2
  have hcn : rc_ G c N th near near = c near := (rc_n hnn).1
  have hge : ∀ y, y < gn G → y ∉ L → c near ≤ rc_ G c N th near y := fun y hy hyL => by
    by_cases hr : rlx G c N th near y
    · rw [(rc_y hr).1]; omega
    · rw [(rc_n hr).1]; exact h4 y hy hyL
  refine ⟨List.nodup_cons.mpr ⟨h2, d1⟩, fun x hx => ?_, by rw [(rc_n hto).1]; exact d3, by rw [(rc_n hto).2]; exact d4, fun b hb => ?_, fun b hb hbt => ?_, fun x hx => ?_, fun b hb => ?_⟩
  · rcases List.mem_cons.mp hx with rfl | hx
    · exact h1
    · exact d2 x hx
  · have := d5 b hb
    simp only [List.length_cons]
    by_cases hr : rlx G c N th near b
    · rw [(rc_y hr).1]
      exact ⟨by omega, fun _ => by omega⟩
    · rw [(rc_n hr).1]
      exact ⟨this.1, fun z => by have := this.2 z; omega⟩
  · have hd := d6 b hb hbt
    by_cases hr : rlx G c N th near b
    · rw [(rc_y hr).1, (rc_y hr).2]
      refine ⟨(fun z => nomatch z), fun e he => ?_⟩
      cases he
      refine ⟨hr.2, List.mem_cons_self, by rw [hcn]; omega, fun e2 x2 m2 => ?_⟩
      rcases List.mem_cons.mp m2 with rfl | m2
      · rw [hcn]
        exact ⟨by omega, fun _ => Nat.le_refl _⟩
      · rw [hcL e2 m2]
        cases hN : N b with
        | none => exact absurd m2 ((hd.1 hN).2 e2 x2)
        | some f =>
          obtain ⟨-, -, -, g4⟩ := hd.2 f hN
          have g5 := g4 e2 x2 m2
          rcases hr.1 with z | ⟨z, f', hf', z2⟩
          · exact ⟨by omega, fun z3 => by omega⟩
          · rw [hN] at hf'
            cases hf'
            exact ⟨by omega, fun z3 => by have := g5.2 (by omega); omega⟩
    · rw [(rc_n hr).1, (rc_n hr).2]
      refine ⟨fun z => ⟨(hd.1 z).1, fun e he hm => ?_⟩, fun e he => ?_⟩
      · rcases List.mem_cons.mp hm with rfl | hm
        · exact hr ⟨Or.inl (by rw [(hd.1 z).1]; exact hth6), he⟩
        · exact (hd.1 z).2 e he hm
      · obtain ⟨g1, g2, g3, g4⟩ := hd.2 e he
        rw [hcL e g2]
        refine ⟨g1, List.mem_cons_of_mem _ g2, g3, fun e2 x2 m2 => ?_⟩
        rcases List.mem_cons.mp m2 with rfl | m2
        · rw [hcn]
          have n1 : ¬ th < c b := fun z => hr ⟨Or.inl z, x2⟩
          exact ⟨by omega, fun z => Nat.le_of_not_lt fun z2 => hr ⟨Or.inr ⟨by omega, e, he, z2⟩, x2⟩⟩
        · rw [hcL e2 m2]
          exact g4 e2 x2 m2
  · rcases List.mem_cons.mp hx with rfl | hx
    · rw [hcn]
      exact ⟨h3, fun y hy hyL => hge y hy (fun z => hyL (List.mem_cons_of_mem _ z))⟩
    · rw [hcL x hx]
      refine ⟨(d7 x hx).1, fun y hy hyL => ?_⟩
      have h5 := (d7 x hx).2 near h1 h2
      have h6 := hge y hy (fun z => hyL (List.mem_cons_of_mem _ z))
      omega
  · have hR : ∀ e ∈ L, R_' N R near e = R e := fun e he => R_ne (fun z => h2 (z ▸ he))
    have h8 := d8 b hb
    by_cases e : b = near
    · subst e
      rw [if_pos List.mem_cons_self, (rc_n hnn).2]
      rw [R_eq]
      cases hN : N b with
      | none => rfl
      | some f =>
        have hbt : b ≠ to := fun z => by rw [z, d4] at hN; cases hN
        have := ((d6 b hb hbt).2 f hN).2.1
        simp only
        rw [hR f this]
    · have e1 : R_' N R near b = R b := R_ne e
      rw [e1]
      by_cases hm : b ∈ L
      · rw [if_pos (List.mem_cons_of_mem _ hm), hNL b hm]
        rw [if_pos hm] at h8
        rw [h8]
        cases hN : N b with
        | none => rfl
        | some f =>
          have hbt : b ≠ to := fun z => by rw [z, d4] at hN; cases hN
          have := ((d6 b hb hbt).2 f hN).2.1
          simp only
          rw [hR f this]
      · rw [if_neg (fun z => (List.mem_cons.mp z).elim e hm), h8, if_neg hm]
theorem DI.fin (i : IL G) (ht : to < gn G) (d : DI G to L c N R) (hend : ∀ y, y < gn G → y ∉ L → 1000000 ≤ c y) : Bst G to (fun b => if c b < 1000000 then some (c b) else none) N ∧ (∀ b, b < gn G → nx G to b = N b) ∧ BT G to ∧ ∀ b, b < gn G → R b = bts (rt G b to) := by
  have hlen := d.len
  obtain ⟨d1, d2, d3, d4, d5, d6, d7, d8⟩ := d
  have h12 := i.1
  have hB : Bst G to (fun b => if c b < 1000000 then some (c b) else none) N := by
    refine ⟨by simp [d3], d4, fun b hb hbt => ⟨fun hD => ?_, fun dd hD => ?_⟩⟩
    · have hc : ¬ c b < 1000000 := fun z => by simp [z] at hD
      have hN : N b = none := by
        cases hN : N b with
        | none => rfl
        | some e =>
          obtain ⟨g1, g2, g3, -⟩ := (d6 b hb hbt).2 e hN
          have h1 := (d7 e g2).1
          have h2 := (d5 e (d2 e g2)).2 h1
          have h3 := i.2.1 e (d2 e g2)
          omega
      refine ⟨hN, fun e he => ?_⟩
      have := hend e (ex_lt i hb he).1 (((d6 b hb hbt).1 hN).2 e he)
      simp [show ¬ c e < 1000000 by omega]
    · have hc : c b < 1000000 := by
        by_cases z : c b < 1000000
        · exact z
        · simp [z] at hD
      simp only [hc, if_true, Option.some.injEq] at hD
      subst hD
      cases hN : N b with
      | none =>
        have := ((d6 b hb hbt).1 hN).1
        omega
      | some e =>
        obtain ⟨g1, g2, g3, g4⟩ := (d6 b hb hbt).2 e hN
        refine ⟨e, c e, rfl, g1, by simp [(d7 e g2).1], g3, fun e2 d2' x2 hD2 => ?_⟩
        have hc2 : c e2 < 1000000 := by
          by_cases z : c e2 < 1000000
          · exact z
          · simp [z] at hD2
        simp only [hc2, if_true, Option.some.injEq] at hD2
        subst hD2
        have hm : e2 ∈ L := by
          by_cases z : e2 ∈ L
          · exact z
          · have := hend e2 (ex_lt i hb x2).1 z
            omega
        exact g4 e2 x2 hm
  have hx : ∀ b, b < gn G → nx G to b = N b := fun b hb => (nx_eq i hB hb).2
  have hBT : BT G to := bq_of ⟨_, _, hB⟩
  refine ⟨hB, hx, hBT, ?_⟩
  have key : ∀ k b, b < gn G → c b ≤ k → R b = bts (rt G b to) := by
    intro k
    induction k using Nat.strongRecOn with
    | ind k ih =>
      intro b hb hk
      cases hN : N b with
      | none =>
        rw [rt_nil (by rw [hx b hb]; exact hN), d8 b hb, hN]
        simp [bts]
      | some e =>
        have hbt : b ≠ to := fun z => by rw [z, d4] at hN; cases hN
        obtain ⟨g1, g2, g3, g4⟩ := (d6 b hb hbt).2 e hN
        have he := d2 e g2
        have h1 := (d7 e g2).1
        have h2 := (d5 e he).2 h1
        have h3 := i.2.1 e he
        have hm : b ∈ L := by
          by_cases z : b ∈ L
          · exact z
          · have := hend b hb z
            omega
        rw [d8 b hb, if_pos hm, hN]
        simp only
        rw [ih (c e) (by omega) e he (Nat.le_refl _), (rt_cons i hBT hb (by rw [hx b hb]; exact hN)).1]
        rfl
  exact fun b hb => key (c b) b hb (Nat.le_refl _)
end DJ3
