/-! PATHS: their number, the shortest -/
/-- paths from b that enter no block of S (b is in S) -/
def mcP (G : LG) (to : Nat) : Nat → Nat → Nat → Nat
  | 0, _, _ => 0
  | f + 1, b, S => if b = to then 1 else (match gf G b with
    | none => 0
    | some l => if S.testBit l = true then 0 else mcP G to f l (S ||| 2 ^ l)) + (if gf G b = gr G b then 0 else match gr G b with
    | none => 0
    | some r => if S.testBit r = true then 0 else mcP G to f r (S ||| 2 ^ r))
def ccP (G : LG) (to : Nat) : Nat → Nat → Nat → Nat
  | 0, _, _ => 0
  | f + 1, b, S => if b = to then 1 else match gf G b with
    | none => 0
    | some l => if S.testBit b = true then 0 else ccP G to f l (S ||| 2 ^ b) + (if gf G b = gr G b then 0 else match gr G b with
      | none => 0
      | some r => ccP G to f r (S ||| 2 ^ b))
def tpP (G : LG) (to : Nat) : Nat → Nat → Nat → Nat
  | 0, _, _ => 1000000
  | f + 1, b, S => if b = to then 0 else match gf G b with
    | none => 1000000
    | some l => if S.testBit b = true then 1000000 else if gf G b = gr G b then tpP G to f l (S ||| 2 ^ b) + gl G l else match gr G b with
      | none => 1000000
      | some r => min (tpP G to f l (S ||| 2 ^ b) + gl G l) (tpP G to f r (S ||| 2 ^ b) + gl G r)
def qPaths (A : AG) (x y : Int32) : QA := match iv (gn (aL A)) x, iv (gn (aL A)) y with
  | some b, some t => (0, nI (mcP (aL A) t 14 b (2 ^ b)))
  | _, _ => (1, nI 0)
section PT
variable {h g : AH} {p w : Nat} {X : BG} {G : LG} {a to : Nat} {K : Int32 → AH → Prop} {T : String → AH → Prop}
theorem ex2 (i : IL G) {b l : Nat} (hb : b < gn G) (h : gf G b = some l) : l < gn G ∧ ∃ r, gr G b = some r ∧ r < gn G := by
  rcases i.2.2.1 b hb with ⟨h1, -⟩ | ⟨l', r, h1, h2, h3, h4, -, -⟩
  · rw [h] at h1; cases h1
  · rw [h] at h1; cases h1; exact ⟨h3, r, h2, h4⟩
theorem cc_mc (i : IL G) (ht : to < gn G) : ∀ f b S, b < gn G → S.testBit to = false → ccP G to f b S = if S.testBit b = true then 0 else mcP G to f b (S ||| 2 ^ b) := by
  intro f
  induction f with
  | zero => intro b S _ _; simp [ccP, mcP]
  | succ f ih =>
    intro b S hb hS
    rw [ccP, mcP]
    by_cases e : b = to
    · subst e
      simp [hS]
    · rw [if_neg e, if_neg e]
      have hS' : (S ||| 2 ^ b).testBit to = false := by
        have : ¬ b = to := e
        rw [tb_or, hS]; simp [this]
      cases hl : gf G b with
      | none =>
        have hr : gr G b = none := by
          rcases i.2.2.1 b hb with ⟨-, z⟩ | ⟨l, r, z, -⟩
          · exact z
          · rw [hl] at z; cases z
        rw [hr]
        simp
      | some l =>
        obtain ⟨l1, r, hr, r1⟩ := ex2 i hb hl
        rw [hr]
        simp only
        by_cases e2 : S.testBit b = true
        · rw [if_pos e2, if_pos e2]
        · rw [if_neg e2, if_neg e2, ih l _ l1 hS', ih r _ r1 hS']
theorem pc_to {S : Nat} (ht : to < 12) (h : S.testBit to = false) : pc S ≤ 11 := by
  have h1 := pc_set ht h
  have h2 := pc_le (S ||| 2 ^ to)
  omega
theorem c_countPaths (r : rpW h a G) (ht : to < gn G) : ∀ (f b S : Nat) (K : Int32 → AH → Prop), b < gn G → S < 2 ^ 12 → S.testBit to = false → pc S + f = 14 → K (nI (ccP G to f b S)) h → wX4_countPaths f a (nI b) (nI to) (nI S) (nI (pc S)) h K := by
  have h12 := r.n12
  intro f
  induction f with
  | zero =>
    intro b S K _ _ hS hp
    have := pc_to (by omega : to < 12) hS
    omega
  | succ f ih =>
    intro b S K hb hlt hS hp k
    have h11 := pc_to (by omega : to < 12) hS
    show wX4_countPaths_b (wX4_countPaths f) a (nI b) (nI to) (nI S) (nI (pc S)) h K
    unfold wX4_countPaths_b
    rw [ccP] at k
    rw [nI_eq (by omega) (by omega)]
    by_cases e : b = to
    · rw [if_pos e] at k
      exact ⟨fun z => absurd e z, fun _ => k⟩
    · rw [if_neg e] at k
      refine ⟨fun _ => ⟨fun z => absurd z (nI_ge (by omega) (by decide)), fun _ => ⟨r.1.o, ?_⟩⟩, fun z => absurd z e⟩
      rw [c_hasExit r hb]
      cases hl : gf G b with
      | none =>
        rw [hl] at k
        exact ⟨fun _ => k, fun z => absurd rfl z⟩
      | some l =>
        obtain ⟨l1, r', hr, r1⟩ := ex2 r.2.2 hb hl
        rw [hl, hr] at k
        simp only at k
        refine ⟨fun z => absurd z (by rw [Option.isSome_some, if_pos rfl, n1_ne]; exact id), fun _ => ?_⟩
        rw [c_con (by omega) (by omega)]
        by_cases e2 : S.testBit b = true
        · rw [if_pos e2] at k ⊢
          exact ⟨fun z => absurd z (by rw [n1_ne]; exact id), fun _ => k⟩
        · rw [if_neg e2] at k ⊢
          have e2' : S.testBit b = false := by simpa using e2
          have hS' : (S ||| 2 ^ b).testBit to = false := by
            have : ¬ b = to := e
            rw [tb_or, hS]; simp [this]
          have hpc := pc_set (by omega : b < 12) e2'
          have hlt' : S ||| 2 ^ b < 2 ^ 12 := or_lt hlt (p2_lt (by omega))
          refine ⟨fun _ => ⟨r.1.o, ?_⟩, fun z => absurd rfl z⟩
          simp (disch := omega) only [r.1.o, r.1.m5, r.1.m6, r.1.m7, r.1.m8, r.1.m9, r.1.m10, r.1.m11, r.1.a1, r.1.a2, r.1.a3, r.1.a4, r.1.a5, r.1.a18, r.1.a31, r.1.l1, r.1.l2, r.1.l3, r.1.l4, r.1.l5, r.1.l18, r.1.l31, r.1.z, r.1.r5, r.1.r18, r.1.a6, r.1.l6, r.1.a19, r.1.l19, nI_clamp, vp_in_nI, r.lf hb, r.rf hb, hl, hr, oI_some, n_shl, n_or, nI_add, true_and]
          rw [← hpc]
          refine ih l (S ||| 2 ^ b) _ l1 hlt' hS' (by omega) ?_
          simp (disch := omega) only [r.1.o, r.1.m5, r.1.m6, r.1.m7, r.1.m8, r.1.m9, r.1.m10, r.1.m11, r.1.a1, r.1.a2, r.1.a3, r.1.a4, r.1.a5, r.1.a18, r.1.a31, r.1.l1, r.1.l2, r.1.l3, r.1.l4, r.1.l5, r.1.l18, r.1.l31, r.1.z, r.1.r5, r.1.r18, r.1.a6, r.1.l6, r.1.a19, r.1.l19, nI_clamp, vp_in_nI, c_isStem r hb, hl, hr, r.rf hb, oI_some, true_and]
          by_cases e3 : some l = some r'
          · rw [if_pos e3] at k ⊢
            refine ⟨fun _ => ?_, fun z => absurd rfl z⟩
            exact k
          · rw [if_neg e3] at k ⊢
            refine ⟨fun z => absurd z (by rw [n1_ne]; exact id), fun _ => ?_⟩
            refine ih r' (S ||| 2 ^ b) _ r1 hlt' hS' (by omega) ?_
            rw [nI_add]
            exact k
theorem tp_le (i : IL G) (ht : to < gn G) : ∀ f b S, b < gn G → tpP G to f b S ≤ 1000000 + 9 * f := by
  intro f
  induction f with
  | zero => intro b S _; exact Nat.le_refl _
  | succ f ih =>
    intro b S hb
    rw [tpP]
    split
    · omega
    · split
      · omega
      · rename_i l hl
        obtain ⟨l1, r, hr, r1⟩ := ex2 i hb hl
        have h1 := ih l (S ||| 2 ^ b) l1
        have h2 := (i.2.1 l l1).2
        rw [hr]
        split
        · omega
        · split
          · omega
          · exact Nat.le_trans (Nat.min_le_left _ _) (by omega)
theorem c_tryPaths (r : rpW h a G) (ht : to < gn G) : ∀ (f b S : Nat) (K : Int32 → AH → Prop), b < gn G → S < 2 ^ 12 → S.testBit to = false → pc S + f = 14 → K (nI (tpP G to f b S)) h → wX4_tryPaths f a (nI b) (nI to) (nI S) (nI (pc S)) h K := by
  have h12 := r.n12
  intro f
  induction f with
  | zero =>
    intro b S K _ _ hS hp
    have := pc_to (by omega : to < 12) hS
    omega
  | succ f ih =>
    intro b S K hb hlt hS hp k
    have h11 := pc_to (by omega : to < 12) hS
    show wX4_tryPaths_b (wX4_tryPaths f) a (nI b) (nI to) (nI S) (nI (pc S)) h K
    unfold wX4_tryPaths_b
    rw [tpP] at k
    rw [nI_eq (by omega) (by omega)]
    by_cases e : b = to
    · rw [if_pos e] at k
      exact ⟨fun z => absurd e z, fun _ => k⟩
    · rw [if_neg e] at k
      refine ⟨fun _ => ⟨fun z => absurd z (nI_ge (by omega) (by decide)), fun _ => ⟨r.1.o, ?_⟩⟩, fun z => absurd z e⟩
      rw [c_hasExit r hb]
      cases hl : gf G b with
      | none =>
        rw [hl] at k
        exact ⟨fun _ => k, fun z => absurd rfl z⟩
      | some l =>
        obtain ⟨l1, r', hr, r1⟩ := ex2 r.2.2 hb hl
        rw [hl, hr] at k
        simp only at k
        refine ⟨fun z => absurd z (by rw [Option.isSome_some, if_pos rfl, n1_ne]; exact id), fun _ => ?_⟩
        rw [c_con (by omega) (by omega)]
        by_cases e2 : S.testBit b = true
        · rw [if_pos e2] at k ⊢
          exact ⟨fun z => absurd z (by rw [n1_ne]; exact id), fun _ => k⟩
        · rw [if_neg e2] at k ⊢
          have e2' : S.testBit b = false := by simpa using e2
          have hS' : (S ||| 2 ^ b).testBit to = false := by
            have : ¬ b = to := e
            rw [tb_or, hS]; simp [this]
          have hpc := pc_set (by omega : b < 12) e2'
          have hlt' : S ||| 2 ^ b < 2 ^ 12 := or_lt hlt (p2_lt (by omega))
          refine ⟨fun _ => ⟨r.1.o, ?_⟩, fun z => absurd rfl z⟩
          simp (disch := omega) only [r.1.o, r.1.m5, r.1.m6, r.1.m7, r.1.m8, r.1.m9, r.1.m10, r.1.m11, r.1.a1, r.1.a2, r.1.a3, r.1.a4, r.1.a5, r.1.a18, r.1.a31, r.1.l1, r.1.l2, r.1.l3, r.1.l4, r.1.l5, r.1.l18, r.1.l31, r.1.z, r.1.r5, r.1.r18, r.1.a6, r.1.l6, r.1.a19, r.1.l19, nI_clamp, vp_in_nI, r.lf hb, r.rf hb, hl, hr, oI_some, n_shl, n_or, nI_add, nI_eq, true_and]
          rw [← hpc]
          have b1 := tp_le r.2.2 ht f l (S ||| 2 ^ b) l1
          have b2 := tp_le r.2.2 ht f r' (S ||| 2 ^ b) r1
          have b3 := (r.gl9 l1).2
          have b4 := (r.gl9 r1).2
          refine ih l (S ||| 2 ^ b) _ l1 hlt' hS' (by omega) ⟨r.1.o, ?_⟩
          rw [c_lengthOf r l1]
          by_cases e3 : l = r'
          · rw [if_pos (by rw [e3])] at k
            rw [nI_add]
            exact ⟨fun z => absurd e3 z, fun _ => k⟩
          · rw [if_neg (fun z => e3 (by injection z))] at k
            refine ⟨fun _ => ?_, fun z => absurd z e3⟩
            refine ih r' (S ||| 2 ^ b) _ r1 hlt' hS' (by omega) ⟨r.1.o, ?_⟩
            rw [c_lengthOf r r1, nI_add, nI_add]
            have : (if nI (tpP G to f r' (S ||| 2 ^ b) + gl G r') < nI (tpP G to f l (S ||| 2 ^ b) + gl G l) then nI (tpP G to f r' (S ||| 2 ^ b) + gl G r') else nI (tpP G to f l (S ||| 2 ^ b) + gl G l)) = nI (min (tpP G to f l (S ||| 2 ^ b) + gl G l) (tpP G to f r' (S ||| 2 ^ b) + gl G r')) := by
              by_cases u : tpP G to f r' (S ||| 2 ^ b) + gl G r' < tpP G to f l (S ||| 2 ^ b) + gl G l
              · rw [if_pos (nI_lt u (by omega)), Nat.min_eq_right (by omega)]
              · rw [if_neg (by rw [nI_ltI (by omega) (by omega)]; exact u), Nat.min_eq_left (by omega)]
            rw [this]
            exact k
/-- what is found is no shorter than the route -/
theorem tp_lo (i : IL G) (x : BT G to) (ht : to < gn G) : ∀ f b S, b < gn G → tpP G to f b S < 1000000 → ∃ d, ds G to b = some d ∧ d / 16 ≤ tpP G to f b S := by
  intro f
  induction f with
  | zero => intro b S _ h; exact absurd h (by show ¬ 1000000 < 1000000; omega)
  | succ f ih =>
    intro b S hb
    rw [tpP]
    by_cases e : b = to
    · rw [if_pos e]
      intro _
      subst e
      exact ⟨0, x.1, Nat.le_refl _⟩
    · rw [if_neg e]
      have key : ∀ c, ex G b c → tpP G to f c (S ||| 2 ^ b) + gl G c < 1000000 → ∃ d, ds G to b = some d ∧ d / 16 ≤ tpP G to f c (S ||| 2 ^ b) + gl G c := fun c hc hlt => by
        have hcn := (ex_lt i hb hc).1
        obtain ⟨d, d1, d2⟩ := ih c (S ||| 2 ^ b) hcn (by omega)
        have hd := (rt_all i x hcn d1).2
        cases hD : ds G to b with
        | none =>
          have := ((x.2.2 b hb e).1 hD).2 c hc
          rw [d1] at this; cases this
        | some d' =>
          obtain ⟨_, _, _, _, _, _, h7⟩ := (x.2.2 b hb e).2 d' hD
          have := (h7 c d hc d1).1
          refine ⟨d', rfl, ?_⟩
          have h11 := hd.2.2.2
          have h12 := hd.1
          omega
      cases hl : gf G b with
      | none => simp only; intro h; omega
      | some l =>
        obtain ⟨l1, r, hr, r1⟩ := ex2 i hb hl
        rw [hr]
        simp only
        by_cases e2 : S.testBit b = true
        · rw [if_pos e2]; intro h; omega
        · rw [if_neg e2]
          by_cases e3 : some l = some r
          · rw [if_pos e3]
            exact key l (Or.inl hl)
          · rw [if_neg e3]
            intro h
            by_cases u : tpP G to f l (S ||| 2 ^ b) + gl G l ≤ tpP G to f r (S ||| 2 ^ b) + gl G r
            · rw [Nat.min_eq_left u] at h ⊢
              exact key l (Or.inl hl) h
            · rw [Nat.min_eq_right (by omega)] at h ⊢
              exact key r (Or.inr hr) h
theorem tp_hi (i : IL G) (x : BT G to) (ht : to < gn G) : ∀ (l : List Nat) (f b S : Nat), b < gn G → rt G b to = l → (b = to ∨ l ≠ []) → (∀ y ∈ b :: l, S.testBit y = false) → l.length < f → tpP G to f b S ≤ sl G l := by
  intro l
  induction l with
  | nil =>
    intro f b S hb hr h1 _ hf
    obtain ⟨f, rfl⟩ : ∃ f', f = f' + 1 := ⟨f - 1, by simp at hf; omega⟩
    rcases h1 with rfl | h1
    · rw [tpP, if_pos rfl]; exact Nat.le_refl _
    · exact absurd rfl h1
  | cons c l ih =>
    intro f b S hb hr h1 hS hf
    obtain ⟨f, rfl⟩ : ∃ f', f = f' + 1 := ⟨f - 1, by simp at hf; omega⟩
    have hnx : nx G to b = some c := by
      cases hn2 : nx G to b with
      | none => rw [rt_nil hn2] at hr; cases hr
      | some d =>
        have := (rt_cons i x hb hn2).1
        rw [hr] at this
        cases this
        rfl
    obtain ⟨q1, q2, q3, q4, d, d', hd, hd', -⟩ := rt_cons i x hb hnx
    rw [hr] at q1
    have q1 : rt G c to = l := by injection q1 with _ q; exact q.symm
    have hnd := (rt_all i x hb hd).2.2.2.1
    rw [hr] at hnd
    have hcl : c = to ∨ l ≠ [] := by
      by_cases z : c = to
      · exact Or.inl z
      · refine Or.inr (fun y => ?_)
        rw [y] at q1
        have := (rt_ne x q3 z).mp q1
        rw [(nx_none x q3 z), hd'] at this
        cases this
    have := ih f c (S ||| 2 ^ b) q3 q1 hcl (fun y hy => by
      have hne : ¬ b = y := fun z => (List.nodup_cons.mp hnd).1 (z ▸ hy)
      rw [tb_or, hS y (List.mem_cons_of_mem _ hy)]; simp [hne]) (by simp only [List.length_cons] at hf; omega)
    rw [tpP, if_neg q4]
    have hSb := hS b List.mem_cons_self
    show _ ≤ gl G c + sl G l
    cases hl : gf G b with
    | none =>
      exfalso
      have hr2 : gr G b = none := by
        rcases i.2.2.1 b hb with ⟨-, z⟩ | ⟨l, r, z, -⟩
        · exact z
        · rw [hl] at z; cases z
      rcases q2 with q2 | q2
      · rw [hl] at q2; cases q2
      · rw [hr2] at q2; cases q2
    | some u =>
      obtain ⟨l1, r, hr2, r1⟩ := ex2 i hb hl
      rw [hr2]
      simp only
      rw [if_neg (by rw [hSb]; decide)]
      have hcu : c = u ∨ c = r := by
        rcases q2 with q2 | q2
        · rw [hl] at q2; cases q2; exact Or.inl rfl
        · rw [hr2] at q2; cases q2; exact Or.inr rfl
      by_cases e3 : some u = some r
      · rw [if_pos e3]
        injection e3 with e3
        have : c = u := by rcases hcu with z | z <;> omega
        rw [← this]
        omega
      · rw [if_neg e3]
        rcases hcu with z | z
        · refine Nat.le_trans (Nat.min_le_left _ _) ?_
          rw [← z]; omega
        · refine Nat.le_trans (Nat.min_le_right _ _) ?_
          rw [← z]; omega
theorem c9_paths (r : RBc h X) {x y : Int32} (k : kq (qPaths (bA X) x y) [xI] K T h) : wX9_paths 64 x y h K T := by
  obtain ⟨p, r⟩ := r
  have s := r.2.2.1
  have h12 := r.n12
  unfold wX9_paths
  unfold qPaths at k
  refine ⟨r.1.o, ?_⟩
  rcases iv_cases (gn (aL (bA X))) (by omega) x with ⟨e, hx⟩ | ⟨b, hb, rfl, e⟩
  · rw [e] at k
    exact c_checkN r hx (k.2 0 rfl)
  · refine c_checkB r hb ⟨r.1.o, ?_⟩
    rcases iv_cases (gn (aL (bA X))) (by omega) y with ⟨e2, hy⟩ | ⟨t, ht, rfl, e2⟩
    · rw [e, e2] at k
      exact c_checkN r hy (k.2 0 rfl)
    · rw [e, e2] at k
      refine c_checkB r ht ⟨r.1.o, ?_⟩
      rw [r.1.f0, s.1.m0]
      refine ⟨s.1.o, s.1.lg.o, ?_⟩
      unfold wX4_numberOfPaths
      refine c_countPaths s.2.1.1 ht 14 b 0 _ hb (by decide) (Nat.zero_testBit _) (by decide) ?_
      rw [cc_mc s.2.1.1.2.2 ht 14 b 0 hb (Nat.zero_testBit _), Nat.zero_testBit, if_neg (by decide), Nat.zero_or]
      exact k.1 rfl
theorem c9_routeLengthByPaths (r : RBc h X) {x y : Int32} (k : kq (qRL (bA X) x y) [xI, xS] K T h) : wX9_routeLengthByPaths 64 x y h K T := by
  obtain ⟨p, r⟩ := r
  have s := r.2.2.1
  have h12 := r.n12
  unfold wX9_routeLengthByPaths
  unfold qRL at k
  refine ⟨r.1.o, ?_⟩
  rcases iv_cases (gn (aL (bA X))) (by omega) x with ⟨e, hx⟩ | ⟨b, hb, rfl, e⟩
  · rw [e] at k
    exact c_checkN r hx (k.2 0 rfl)
  · refine c_checkB r hb ⟨r.1.o, ?_⟩
    rcases iv_cases (gn (aL (bA X))) (by omega) y with ⟨e2, hy⟩ | ⟨t, ht, rfl, e2⟩
    · rw [e, e2] at k
      exact c_checkN r hy (k.2 0 rfl)
    · rw [e, e2] at k
      simp only at k
      refine c_checkB r ht ⟨r.1.o, ?_⟩
      rw [r.1.f0, s.1.m0]
      refine ⟨s.1.o, s.1.lg.o, ?_⟩
      have il := s.2.1.1.2.2
      have bt := s.2.1.2.2.b ht
      have hle := tp_le il ht 14 b 0 hb
      unfold wX4_shortestPath
      refine c_tryPaths s.2.1.1 ht 14 b 0 _ hb (by decide) (Nat.zero_testBit _) (by decide) ?_
      by_cases z : b ≠ t ∧ rt (aL (bA X)) b t = []
      · rw [if_pos z] at k
        refine ⟨fun hlt => ?_, fun _ => ⟨fun y => absurd rfl y, fun _ => k.2 1 rfl⟩⟩
        rw [nI_ltI (by omega) (by decide)] at hlt
        obtain ⟨d, d1, -⟩ := tp_lo il bt ht 14 b 0 hb hlt
        have := (rt_ne bt hb z.1).mp z.2
        rw [nx_none bt hb z.1, d1] at this
        cases this
      · rw [if_neg z] at k
        have hb2 : b = t ∨ rt (aL (bA X)) b t ≠ [] := by
          by_cases y : b = t
          · exact Or.inl y
          · exact Or.inr (fun u => z ⟨y, u⟩)
        obtain ⟨f1, f2, f3⟩ := rt_gn r hb ht
        have h1 := tp_hi il bt ht _ 14 b 0 hb rfl hb2 (fun y _ => Nat.zero_testBit y) (by omega)
        have h2 := sl_le il _ f1
        obtain ⟨d, d1, d2⟩ := tp_lo il bt ht 14 b 0 hb (by omega)
        have h3 := (rt_all il bt hb d1).2.1
        have h4 : tpP (aL (bA X)) t 14 b 0 = sl (aL (bA X)) (rt (aL (bA X)) b t) := by omega
        rw [h4]
        refine ⟨fun _ => ⟨fun _ => k.1 rfl, fun y => absurd y (by rw [nI_nem (by omega)]; exact id)⟩, fun y => absurd (nI_lt (by omega) (by decide)) y⟩
end PT
