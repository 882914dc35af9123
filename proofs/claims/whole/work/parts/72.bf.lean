/-! THE MODEL'S MEASURES: Bellman and Ford -/
def fs (h : AH) (F S : Nat → Nat) : Prop := ∀ b, b < 12 → mI h 614 b = nI (F b) ∧ mI h 615 b = nI (S b)
def rxl (G : LG) (q : (Nat → Nat) × (Nat → Nat)) (b : Nat) (o : Option Nat) : (Nat → Nat) × (Nat → Nat) := match o with
  | none => q
  | some e => if q.1 e = 9999 then q else if q.1 e + gl G e < q.1 b ∨ (q.1 e + gl G e = q.1 b ∧ q.2 e + 1 < q.2 b) then (ups q.1 b (q.1 e + gl G e), ups q.2 b (q.2 e + 1)) else q
def lbd (G : LG) (to : Nat) (q : (Nat → Nat) × (Nat → Nat)) : Prop := ∀ b, b < gn G → q.1 b ≠ 9999 → ∃ d, ds G to b = some d ∧ (sl G (rt G b to) < q.1 b ∨ (sl G (rt G b to) = q.1 b ∧ (rt G b to).length ≤ q.2 b))
def ext_ (G : LG) (to : Nat) (q : (Nat → Nat) × (Nat → Nat)) (b : Nat) : Prop := q.1 b = sl G (rt G b to) ∧ q.2 b = (rt G b to).length
def bdd (k : Nat) (q : (Nat → Nat) × (Nat → Nat)) : Prop := ∀ b, b < 12 → (q.1 b = 9999 ∧ q.2 b = 9999) ∨ (q.1 b ≤ 9 * k ∧ q.2 b ≤ k)
section BF
variable {h g : AH} {A : AG} {G : LG} {to : Nat} {q : (Nat → Nat) × (Nat → Nat)}
theorem sl_l9 (i : IL G) : ∀ l : List Nat, (∀ y ∈ l, y < gn G) → sl G l ≤ 9 * l.length := by
  intro l
  induction l with
  | nil => intro _; exact Nat.le_refl _
  | cons b l ih =>
    intro hl
    have h1 := ih (fun y hy => hl y (List.mem_cons_of_mem _ hy))
    have h2 := (i.2.1 b (hl b List.mem_cons_self)).2
    simp only [sl, List.length_cons]
    omega
theorem rxl_lbd (i : IL G) (x : BT G to) (u : lbd G to q) {b : Nat} (hb : b < gn G) (hbt : b ≠ to) {o : Option Nat} (ho : ∀ e, o = some e → ex G b e) : lbd G to (rxl G q b o) := by
  cases o with
  | none => exact u
  | some e =>
    have he := ho e rfl
    unfold rxl
    simp only
    by_cases h1 : q.1 e = 9999
    · rw [if_pos h1]; exact u
    rw [if_neg h1]
    by_cases h2 : q.1 e + gl G e < q.1 b ∨ (q.1 e + gl G e = q.1 b ∧ q.2 e + 1 < q.2 b)
    · rw [if_pos h2]
      intro y hy hn
      by_cases hyb : y = b
      · subst hyb
        obtain ⟨d2, e1, e2⟩ := u e (ex_lt i hb he).1 h1
        cases hd : ds G to y with
        | none =>
          have := ((x.2.2 y hb hbt).1 hd).2 e he
          rw [e1] at this
          cases this
        | some d =>
          refine ⟨d, rfl, ?_⟩
          simp only [ups_s]
          obtain ⟨_, _, _, _, _, _, h7⟩ := (x.2.2 y hb hbt).2 d hd
          have h8 := (h7 e d2 he e1).1
          obtain ⟨-, a1, -, -, a2⟩ := rt_all i x hb hd
          obtain ⟨-, a3, -, -, a4⟩ := rt_all i x (ex_lt i hb he).1 e1
          omega
      · simp only [ups_o hyb] at hn ⊢
        exact u y hy hn
    · rw [if_neg h2]; exact u
theorem rxl_bdd (i : IL G) {k : Nat} (hk : k ≤ 1000) (u : bdd k q) {b : Nat} (hb : b < gn G) {o : Option Nat} (ho : ∀ e, o = some e → ex G b e) : bdd (k + 1) (rxl G q b o) := by
  have h12 := i.1
  have u1 : bdd (k + 1) q := fun y hy => by have := u y hy; omega
  cases o with
  | none => exact u1
  | some e =>
    have he := (ex_lt i hb (ho e rfl)).1
    have h9 := i.2.1 e he
    unfold rxl
    simp only
    by_cases h1 : q.1 e = 9999
    · rw [if_pos h1]; exact u1
    rw [if_neg h1]
    by_cases h2 : q.1 e + gl G e < q.1 b ∨ (q.1 e + gl G e = q.1 b ∧ q.2 e + 1 < q.2 b)
    · rw [if_pos h2]
      intro y hy
      by_cases hyb : y = b
      · subst hyb
        simp only [ups_s]
        have := u e (by omega)
        omega
      · simp only [ups_o hyb]
        exact u1 y hy
    · rw [if_neg h2]; exact u1
theorem rxl_keep {b : Nat} {o : Option Nat} (l : lbd G to (rxl G q b o)) {y : Nat} (hy : y < gn G) (h9 : sl G (rt G y to) < 9000) (e : ext_ G to q y) : ext_ G to (rxl G q b o) y := by
  cases o with
  | none => exact e
  | some c =>
    have l' := l y hy
    unfold rxl at l' ⊢
    simp only at l' ⊢
    by_cases h1 : q.1 c = 9999
    · rw [if_pos h1]; exact e
    rw [if_neg h1] at l' ⊢
    by_cases h2 : q.1 c + gl G c < q.1 b ∨ (q.1 c + gl G c = q.1 b ∧ q.2 c + 1 < q.2 b)
    · rw [if_pos h2] at l' ⊢
      by_cases hyb : y = b
      · subst hyb
        simp only [ups_s] at l'
        unfold ext_ at e ⊢
        simp only [ups_s]
        obtain ⟨e1, e2⟩ := e
        by_cases z : q.1 c + gl G c = 9999
        · omega
        · obtain ⟨d, -, l2⟩ := l' z
          omega
      · unfold ext_ at e ⊢
        simp only [ups_o hyb]
        exact e
    · rw [if_neg h2]; exact e
theorem rxl_hit {b c : Nat} (l : lbd G to (rxl G q b (some c))) (hb : b < gn G) (e1 : rt G b to = c :: rt G c to) (h9 : sl G (rt G b to) < 9000) (e : ext_ G to q c) : ext_ G to (rxl G q b (some c)) b := by
  have l' := l b hb
  unfold ext_ at e ⊢
  obtain ⟨c1, c2⟩ := e
  have hs : sl G (rt G b to) = gl G c + sl G (rt G c to) := by rw [e1]; rfl
  have hl : (rt G b to).length = (rt G c to).length + 1 := by rw [e1]; rfl
  unfold rxl at l' ⊢
  simp only at l' ⊢
  rw [if_neg (by omega)] at l' ⊢
  by_cases h2 : q.1 c + gl G c < q.1 b ∨ (q.1 c + gl G c = q.1 b ∧ q.2 c + 1 < q.2 b)
  · rw [if_pos h2]
    simp only [ups_s]
    omega
  · rw [if_neg h2] at l' ⊢
    obtain ⟨d, -, l2⟩ := l' (by omega)
    omega
theorem xE_ex {b k e : Nat} (h : xE G b k = some e) : ex G b e := by
  unfold xE at h
  by_cases h1 : k = 0
  · rw [if_pos h1] at h; exact Or.inl h
  · rw [if_neg h1] at h
    by_cases h2 : b ∈ gp G
    · rw [if_pos h2] at h; exact Or.inr h
    · rw [if_neg h2] at h; cases h
theorem ex_xE (i : IL G) {b e : Nat} (hb : b < gn G) (h : ex G b e) : xE G b 0 = some e ∨ xE G b 1 = some e := by
  unfold xE
  rw [if_pos rfl, if_neg (by decide)]
  by_cases hp : b ∈ gp G
  · rw [if_pos hp]; exact h
  · left
    rcases h with h | h
    · exact h
    · have : gf G b = gr G b := by
        by_cases z : gf G b = gr G b
        · exact z
        · exact absurd (i.2.2.2.2.2.2.1 b hb z) hp
      rw [this]; exact h
def rxl2 (G : LG) (q : (Nat → Nat) × (Nat → Nat)) (b : Nat) : (Nat → Nat) × (Nat → Nat) := rxl G (rxl G q b (xE G b 0)) b (xE G b 1)
/-- what holds in round r, ahead of block x -/
def bFI (G : LG) (to r x k : Nat) (q : (Nat → Nat) × (Nat → Nat)) : Prop := lbd G to q ∧ bdd k q ∧ ∀ b d, b < gn G → ds G to b = some d → ((rt G b to).length ≤ r ∨ ((rt G b to).length ≤ r + 1 ∧ b < x)) → ext_ G to q b
theorem rt_sl (i : IL G) (x : BT G to) {b d : Nat} (hb : b < gn G) (hd : ds G to b = some d) : sl G (rt G b to) ≤ 99 := by
  obtain ⟨-, -, a1, -, a2⟩ := rt_all i x hb hd
  have := sl_l9 i _ a1
  omega
theorem bFI.step (i : IL G) (x : BT G to) {r b k : Nat} (hk : k ≤ 900) (hb : b < gn G) (hbt : b ≠ to) (u : bFI G to r b k q) : bFI G to r (b + 1) (k + 2) (rxl2 G q b) := by
  obtain ⟨u1, u2, u3⟩ := u
  have l1 := rxl_lbd i x u1 hb hbt (o := xE G b 0) (fun e he => xE_ex he)
  have l2 := rxl_lbd i x l1 hb hbt (o := xE G b 1) (fun e he => xE_ex he)
  refine ⟨l2, rxl_bdd i (by omega) (rxl_bdd i (by omega) u2 hb (fun e he => xE_ex he)) hb (fun e he => xE_ex he), fun y d hy hd hc => ?_⟩
  have h99 := rt_sl i x hy hd
  by_cases hyb : y = b
  · subst hyb
    cases hn : nx G to y with
    | none =>
      have := (nx_none x hb hbt).mp hn
      rw [hd] at this
      cases this
    | some c =>
      obtain ⟨e1, e2, e3, -, d1, d2, e4, e5, -⟩ := rt_cons i x hb hn
      have hl : (rt G y to).length = (rt G c to).length + 1 := by rw [e1]; rfl
      have ec := u3 c d2 e3 e5 (Or.inl (by omega))
      have hc9 := rt_sl i x e3 e5
      rcases ex_xE i hb e2 with z | z
      · have := rxl_hit (q := q) (b := y) (c := c) (by rw [← z]; exact l1) hb e1 (by omega) ec
        rw [← z] at this
        exact rxl_keep l2 hb (by omega) this
      · have ec' := rxl_keep l1 e3 (by omega) ec
        unfold rxl2
        rw [z]
        exact rxl_hit (by rw [← z]; exact l2) hb e1 (by omega) ec'
  · have := u3 y d hy hd (by omega)
    exact rxl_keep l2 hy (by omega) (rxl_keep l1 hy (by omega) this)
theorem bFI.skip (x : BT G to) {r k : Nat} (u : bFI G to r to k q) : bFI G to r (to + 1) k q := by
  obtain ⟨u1, u2, u3⟩ := u
  refine ⟨u1, u2, fun y d hy hd hc => ?_⟩
  by_cases hyb : y = to
  · subst hyb
    exact u3 y d hy hd (Or.inl (by rw [rt_self x]; exact Nat.zero_le _))
  · exact u3 y d hy hd (by omega)
theorem m_relax (s : sM h) (i : IL (aL A)) (r : rm (mI h 607) A) (f : fs h q.1 q.2) {k b j : Nat} (hk : k ≤ 900) (u : bdd k q) (hb : b < gn (aL A)) (hj : j < 2) {X : AH → Prop} {c : Nat → Int32 → Int32 → Int32 → AH → Prop} {n : Nat} {t' r' : Int32} (kk : ∀ g, mf [614, 615] [] h g → fs g (rxl (aL A) q b (xE (aL A) b j)).1 (rxl (aL A) q b (xE (aL A) b j)).2 → wX10_measures_L81 X c n 606 t' r' (nI b) (nI (j + 1)) g) : wX10_measures_L81 X c (n + 1) 606 t' r' (nI b) (nI j) h := by
  have h12 := i.1
  rw [wX10_measures_L81]; dsimp only
  simp (disch := omega) only [m_exit s i r hb hj, s.o, nI_add, pk_mul, nI_clamp, nI_leI, nI_ltI, nI_eq, vp_in_nI, true_and]
  refine ⟨fun z => absurd z (by omega), fun _ => ?_⟩
  cases ho : xE (aL A) b j with
  | none =>
    refine ⟨fun _ => ?_, fun z => absurd rfl z⟩
    rw [ho] at kk
    exact kk h (mf.rf _ _ _) f
  | some e =>
    have he := (ex_lt i hb (xE_ex ho)).1
    have h9 := i.2.1 e he
    rw [ho] at kk
    refine ⟨fun z => absurd z (by rw [oI_some, nI_nem (by omega)]; simp), fun _ => ?_⟩
    have f1 := f e (by omega)
    have f2 := f b (by omega)
    have u1 := u e (by omega)
    have u2 := u b (by omega)
    have g1 := (r.2.1 e (by omega)).1 he
    rw [oI_some]
    simp (disch := omega) only [m_block s (show e < 12 by omega), s.r10, s.r11, s.a14, s.a15, s.l14, s.l15, nI_add, pk_mul, nI_clamp, nI_leI, nI_ltI, nI_eq, vp_in_nI, f1.1, true_and]
    rw [g1]
    simp (disch := omega) only [s.o, s.r10, s.r11, s.a14, s.a15, s.l14, s.l15, nI_add, pk_mul, nI_clamp, nI_leI, nI_ltI, nI_eq, vp_in_nI, f1, f2, true_and, forall_eq]
    unfold rxl at kk
    dsimp only at kk
    by_cases z1 : q.1 e = 9999
    · rw [if_pos z1] at kk
      have := kk h (mf.rf _ _ _) f
      simp only [z1, not_true_eq_false, false_implies, true_implies, true_and, and_true]
      exact this
    rw [if_neg z1] at kk
    simp only [z1, not_false_eq_true, false_implies, true_implies, true_and, and_true]
    have key : (q.1 e + gl (aL A) e < q.1 b ∨ (q.1 e + gl (aL A) e = q.1 b ∧ q.2 e + 1 < q.2 b)) → wX10_measures_J178 X (wX10_measures_L81 X c n) 606 t' r' (nI b) (nI j) (nI e) (nI (q.1 e + gl (aL A) e)) h := by
      intro z
      rw [if_pos z] at kk
      unfold wX10_measures_J178
      simp (disch := omega) only [s.o, s.r10, s.r11, s.a14, s.a15, s.l14, s.l15, nI_add, pk_mul, nI_clamp, nI_leI, nI_ltI, nI_eq, vp_in_nI, f1, f2, true_and, forall_eq, isO_uI, isA_uI, ln_uI, mR_uI, isO_uR, isA_uR, ln_uR, mI_uR, isO_uL, isA_uL, ln_uL, mR_uL, mI_uL, mL_uI, mL_uR, isO_uA, isA_uA, ln_uA, mR_uA, mL_uA, mS_uI, mS_uR, mS_uL, mS_uA]
      refine ⟨by decide, by decide, ?_⟩
      refine kk _ ((mf.ui (by decide) (by decide)).tr (mf.ui (by decide) (by decide))) (fun y hy => ?_)
      have fy := f y hy
      constructor
      · rw [mI_uI, if_neg (by omega), mI_uI]
        by_cases e1 : y = b
        · subst e1; rw [if_pos ⟨rfl, rfl⟩]; simp only [ups_s]
        · rw [if_neg (fun z => e1 z.2)]; simp only [ups_o e1]; exact fy.1
      · rw [mI_uI]
        by_cases e1 : y = b
        · subst e1
          rw [if_pos ⟨rfl, rfl⟩]; simp only [ups_s]
          rw [mI_uI, if_neg (by omega), f1.2, nI_add]
        · rw [if_neg (fun z => e1 z.2), mI_uI, if_neg (by omega)]; simp only [ups_o e1]; exact fy.2
    refine ⟨fun z2 => ?_, fun z2 => ⟨fun z3 => key (Or.inl (by omega)), fun z3 => ⟨fun z4 => key (Or.inr ⟨by omega, by omega⟩), fun z4 => ?_⟩⟩⟩
    · rw [if_neg (by omega)] at kk
      exact kk h (mf.rf _ _ _) f
    · rw [if_neg (by omega)] at kk
      exact kk h (mf.rf _ _ _) f
end BF
