/-! ROUTES: Bellman's equations have one solution; the list of a route's blocks -/
theorem nodup_le : ∀ (n : Nat) (l : List Nat), l.Nodup → (∀ x ∈ l, x < n) → l.length ≤ n := by
  intro n
  induction n with
  | zero =>
    intro l _ hb
    cases l with
    | nil => exact Nat.le_refl _
    | cons x l => exact absurd (hb x List.mem_cons_self) (by omega)
  | succ n ih =>
    intro l hn hb
    by_cases hm : n ∈ l
    · have h1 := ih (l.erase n) (hn.erase n) (fun x hx => by
        have h2 := (hn.mem_erase_iff).mp hx
        have := hb x h2.2
        have h3 := h2.1
        omega)
      rw [List.length_erase_of_mem hm] at h1
      omega
    · exact Nat.le_succ_of_le (ih l hn (fun x hx => by
        have := hb x hx
        have h3 : x ≠ n := fun z => hm (z ▸ hx)
        omega))
section RT
variable {G : LG} {to : Nat}
theorem ex_lt (i : IL G) {b e : Nat} (hb : b < gn G) (h : ex G b e) : e < gn G ∧ e ≠ b := by
  rcases i.2.2.1 b hb with ⟨h1, h2⟩ | ⟨l, r, h1, h2, h3, h4, h5, h6⟩
  · rcases h with h | h
    · rw [h1] at h; cases h
    · rw [h2] at h; cases h
  · rcases h with h | h
    · rw [h1] at h; cases h; exact ⟨h3, h5⟩
    · rw [h2] at h; cases h; exact ⟨h4, h6⟩
theorem Bst.le (i : IL G) {D N D' N' : Nat → Option Nat} (h : Bst G to D N) (h' : Bst G to D' N') : ∀ d b, b < gn G → D b = some d → ∃ d', D' b = some d' ∧ d' ≤ d := by
  intro d
  induction d using Nat.strongRecOn with
  | ind d ih =>
    intro b hb hd
    by_cases hbt : b = to
    · subst hbt
      exact ⟨0, h'.1, Nat.zero_le _⟩
    · obtain ⟨e, d1, h1, h2, h3, h4, -⟩ := (h.2.2 b hb hbt).2 d hd
      obtain ⟨d2, h5, h6⟩ := ih d1 (by omega) e (ex_lt i hb h2).1 h3
      cases hD : D' b with
      | none =>
        have := ((h'.2.2 b hb hbt).1 hD).2 e h2
        rw [h5] at this
        cases this
      | some d3 =>
        obtain ⟨e9, d9, _, _, _, _, h7⟩ := (h'.2.2 b hb hbt).2 d3 hD
        have := (h7 e d2 h2 h5).1
        exact ⟨d3, rfl, by omega⟩
theorem Bst.uniq (i : IL G) {D N D' N' : Nat → Option Nat} (h : Bst G to D N) (h' : Bst G to D' N') : ∀ b, b < gn G → D b = D' b ∧ N b = N' b := by
  have key : ∀ b, b < gn G → D b = D' b := by
    intro b hb
    cases hd : D b with
    | none =>
      cases hd' : D' b with
      | none => rfl
      | some d =>
        obtain ⟨d1, h1, -⟩ := h'.le i h d b hb hd'
        rw [hd] at h1
        cases h1
    | some d =>
      obtain ⟨d1, h1, h2⟩ := h.le i h' d b hb hd
      obtain ⟨d2, h3, h4⟩ := h'.le i h d1 b hb h1
      rw [hd] at h3
      cases h3
      rw [h1, show d1 = d by omega]
  intro b hb
  refine ⟨key b hb, ?_⟩
  by_cases hbt : b = to
  · subst hbt
    rw [h.2.1, h'.2.1]
  · cases hd : D b with
    | none => rw [((h.2.2 b hb hbt).1 hd).1, ((h'.2.2 b hb hbt).1 (by rw [← key b hb]; exact hd)).1]
    | some d =>
      obtain ⟨e, d1, h1, h2, h3, h4, h5⟩ := (h.2.2 b hb hbt).2 d hd
      obtain ⟨e', d1', h1', h2', h3', h4', h5'⟩ := (h'.2.2 b hb hbt).2 d (by rw [← key b hb]; exact hd)
      have a1 := (h5 e' d1' h2' (by rw [key e' (ex_lt i hb h2').1]; exact h3')).2 h4'
      have a2 := (h5' e d1 h2 (by rw [← key e (ex_lt i hb h2).1]; exact h3)).2 h4
      rw [h1, h1', show e = e' by omega]
theorem bq_of (h : ∃ D N, Bst G to D N) : Bst G to (ds G to) (nx G to) := by
  obtain ⟨D, N, h⟩ := h
  have h9 : ∃ q : (Nat → Option Nat) × (Nat → Option Nat), Bst G to q.1 q.2 := ⟨(D, N), h⟩
  have e : bq G to = Classical.choose h9 := by unfold bq; rw [dif_pos h9]
  have := Classical.choose_spec h9
  rw [← e] at this
  exact this
def BT (G : LG) (to : Nat) : Prop := Bst G to (ds G to) (nx G to)
theorem BX.b (x : BX G) (ht : to < gn G) : BT G to := bq_of (x to ht)
theorem nx_eq (i : IL G) {D N : Nat → Option Nat} (h : Bst G to D N) {b : Nat} (hb : b < gn G) : ds G to b = D b ∧ nx G to b = N b := (bq_of ⟨D, N, h⟩).uniq i h b hb
def sl (G : LG) : List Nat → Nat
  | [] => 0
  | b :: l => gl G b + sl G l
/-- l leads from b to the block 'to' -/
def lp (G : LG) (to : Nat) : Nat → List Nat → Prop
  | b, [] => b = to
  | b, c :: l => b ≠ to ∧ nx G to b = some c ∧ lp G to c l
theorem lp_of (i : IL G) (x : BT G to) : ∀ d b, b < gn G → ds G to b = some d → ∃ l, lp G to b l ∧ d = 16 * sl G l + l.length ∧ (∀ y ∈ l, y < gn G ∧ ∃ dy, ds G to y = some dy ∧ dy < d) ∧ l.Nodup := by
  have h := x
  intro d
  induction d using Nat.strongRecOn with
  | ind d ih =>
    intro b hb hd
    by_cases hbt : b = to
    · subst hbt
      have : d = 0 := by
        have h1 := h.1
        rw [hd] at h1
        cases h1
        rfl
      subst this
      exact ⟨[], rfl, rfl, fun y hy => absurd hy List.not_mem_nil, List.nodup_nil⟩
    · obtain ⟨e, d1, h1, h2, h3, h4, -⟩ := (h.2.2 b hb hbt).2 d hd
      obtain ⟨l, l1, l2, l3, l4⟩ := ih d1 (by omega) e (ex_lt i hb h2).1 h3
      refine ⟨e :: l, ⟨hbt, h1, l1⟩, by simp only [sl, List.length_cons]; omega, fun y hy => ?_, ?_⟩
      · rcases List.mem_cons.mp hy with rfl | hy
        · exact ⟨(ex_lt i hb h2).1, d1, h3, by omega⟩
        · obtain ⟨y1, dy, y2, y3⟩ := l3 y hy
          exact ⟨y1, dy, y2, by omega⟩
      · refine List.nodup_cons.mpr ⟨fun hm => ?_, l4⟩
        obtain ⟨-, dy, y2, y3⟩ := l3 e hm
        rw [h3] at y2
        cases y2
        omega
theorem rtf_eq (h : nx G to to = none) : ∀ (l : List Nat) (f b : Nat), lp G to b l → l.length ≤ f → rtf G to f b = l := by
  intro l
  induction l with
  | nil =>
    intro f b hl _
    have hb : b = to := hl
    subst hb
    cases f with
    | zero => rfl
    | succ f => simp [rtf, h]
  | cons c l ih =>
    intro f b hl hf
    cases f with
    | zero => simp at hf
    | succ f =>
      simp only [rtf, hl.2.1]
      rw [ih f c hl.2.2 (by simpa using hf)]
/-- all of a route -/
theorem rt_all (i : IL G) (x : BT G to) {b d : Nat} (hb : b < gn G) (hd : ds G to b = some d) : lp G to b (rt G b to) ∧ d = 16 * sl G (rt G b to) + (rt G b to).length ∧ (∀ y ∈ rt G b to, y < gn G) ∧ (b :: rt G b to).Nodup ∧ (rt G b to).length ≤ 11 := by
  obtain ⟨l, l1, l2, l3, l4⟩ := lp_of i x d b hb hd
  have hn : (b :: l).Nodup := List.nodup_cons.mpr ⟨fun hm => by
    obtain ⟨-, dy, y2, y3⟩ := l3 b hm
    rw [hd] at y2
    cases y2
    omega, l4⟩
  have hlen := nodup_le (gn G) (b :: l) hn (fun y hy => by
    rcases List.mem_cons.mp hy with rfl | hy
    · exact hb
    · exact (l3 y hy).1)
  have h12 := i.1
  simp only [List.length_cons] at hlen
  have e : rt G b to = l := rtf_eq x.2.1 l 12 b l1 (by omega)
  rw [e]
  exact ⟨l1, l2, fun y hy => (l3 y hy).1, hn, by omega⟩
theorem nx_none (x : BT G to) {b : Nat} (hb : b < gn G) (hbt : b ≠ to) : nx G to b = none ↔ ds G to b = none := by
  have h := x
  constructor
  · intro hn
    cases hd : ds G to b with
    | none => rfl
    | some d =>
      obtain ⟨e, d1, h1, -⟩ := (h.2.2 b hb hbt).2 d hd
      rw [hn] at h1
      cases h1
  · intro hd
    exact ((h.2.2 b hb hbt).1 hd).1
theorem rt_nil {b : Nat} (h : nx G to b = none) : rt G b to = [] := by
  unfold rt
  simp [rtf, h]
theorem rt_cons (i : IL G) (x : BT G to) {b c : Nat} (hb : b < gn G) (h : nx G to b = some c) : rt G b to = c :: rt G c to ∧ ex G b c ∧ c < gn G ∧ b ≠ to ∧ ∃ d d', ds G to b = some d ∧ ds G to c = some d' ∧ d = d' + 16 * gl G c + 1 := by
  have hB := x
  have hbt : b ≠ to := fun z => by
    rw [z, hB.2.1] at h
    cases h
  cases hd : ds G to b with
  | none =>
    rw [((hB.2.2 b hb hbt).1 hd).1] at h
    cases h
  | some d =>
    obtain ⟨e, d1, h1, h2, h3, h4, -⟩ := (hB.2.2 b hb hbt).2 d hd
    rw [h] at h1
    cases h1
    have hc := (ex_lt i hb h2).1
    have r1 := rt_all i x hb hd
    have r2 := rt_all i x hc h3
    refine ⟨?_, h2, hc, hbt, d, d1, rfl, h3, h4⟩
    exact rtf_eq hB.2.1 (c :: rt G c to) 12 b ⟨hbt, h, r2.1⟩ (by have := r2.2.2.2.2; simp only [List.length_cons]; omega)
theorem rt_self (x : BT G to) : rt G to to = [] := rt_nil x.2.1
theorem rt_ne (x : BT G to) {b : Nat} (hb : b < gn G) (hbt : b ≠ to) : rt G b to = [] ↔ nx G to b = none := by
  constructor
  · intro h
    cases hn : nx G to b with
    | none => rfl
    | some c =>
      unfold rt at h
      simp [rtf, hn] at h
  · exact rt_nil
end RT
