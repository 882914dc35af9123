/-! PROGRAMS: the class reads commands -/
section CM_
variable {h g h0 : AH} {p w s : Nat} {X : BG} {T : List Nat} {K : Int32 → AH → Prop}
theorem frm_f : ∀ k, k < 11 → wld (frm k) ≤ 3 ∧ (frm k).length < 200 ∧ 4 ≤ (frm k).length ∧ ∀ c ∈ frm k, c < 128 := by decide
theorem c_match (r : RBp g p X) (t : stF g) {k cnt i st : Nat} (hk : k < 11) (hcnt : cnt < 13) (hi : i ≤ (bF X).length) (hst : st ≤ 60) (his : i ≤ st) (h4 : mI g 587 4 = nI cnt) (h5 : mI g 587 5 = nI st) (kk : mtK g (bF X) (frm k) i 0 st cnt K) : wX5_match 587 (16 + 2 * k) (nI i) g K := by
  obtain ⟨f1, f2, f3, f4⟩ := frm_f k hk
  refine ⟨(frm k).length + 1, match_l k hk hcnt (frm k) 0 i 0 st g K (fun y c hy => ⟨by rw [Nat.zero_add]; exact hy, f4 c (List.mem_of_getElem? hy)⟩) (by omega) (by omega) hi hst his r t h4 h5 kk⟩
/-- how the class stands when the forms below k were tried at s -/
def pcS (g0 : AH) (T : List Nat) (s cnt k : Nat) (g : AH) : Prop := chq g0 g ∧ mI g 587 4 = nI cnt ∧ mI g 587 5 = nI (stp T s k) ∧ mI g (591 + cnt) = nrw T s (mI g0 (591 + cnt)) k ∧ (∀ c, c ≠ 591 + cnt → c ≠ 587 → mI g c = mI g0 c) ∧ (∀ a, a ≠ 589 → mR g a = mR g0 a) ∧ (∀ j, j ≠ cnt → mR g 589 j = mR g0 589 j) ∧ ∀ e j, bst T s k = some (e, j) → mR g 589 cnt = 2 + j
def bstI (o : Option (Nat × Nat)) : Int32 := match o with
  | none => -1
  | some (e, _) => nI e
theorem stp_in (hs : s ≤ T.length) : ∀ k, stp T s k ≤ T.length ∧ s ≤ stp T s k := by
  intro k
  induction k with
  | zero => exact ⟨hs, Nat.le_refl _⟩
  | succ k ih =>
    have := mt_in (T := T) (frm k) s hs
    show max (stp T s k) (mtF T (frm k) s).1 ≤ T.length ∧ s ≤ max (stp T s k) (mtF T (frm k) s).1
    omega
theorem bst_in (hs : s ≤ T.length) : ∀ k, k ≤ 11 → ∀ e j, bst T s k = some (e, j) → e ≤ T.length ∧ j < 11 ∧ s + 4 ≤ e := by
  intro k
  induction k with
  | zero => intro _ e j h; cases h
  | succ k ih =>
    intro hk e j h
    have h1 := mt_in (T := T) (frm k) s hs
    rw [bst] at h
    by_cases b : (mtF T (frm k) s).2.1 = true
    · rw [if_pos b] at h
      have h2 := mt_ok (T := T) (frm k) s b
      have h3 := (frm_f k (by omega)).2.2.1
      cases hb : bst T s k with
      | none =>
        rw [hb] at h
        cases h
        exact ⟨h1, by omega, by omega⟩
      | some q =>
        obtain ⟨e', j'⟩ := q
        rw [hb] at h
        simp only at h
        by_cases z : e' < (mtF T (frm k) s).1
        · rw [if_pos z] at h
          cases h
          exact ⟨h1, by omega, by omega⟩
        · rw [if_neg z] at h
          cases h
          exact ih (by omega) e j hb
    · rw [if_neg b] at h
      exact ih (by omega) e j h
theorem forms_l (r : RBp h p X) (t : stF h) {cnt : Nat} (hcnt : cnt < 13) (hs : s ≤ (bF X).length) (k : ∀ g, pcS h (bF X) s cnt 11 g → wX5_parseCommand_L9 K 1 587 (nI s) (bstI (bst (bF X) s 11)) (nI 11) g) : ∀ j x g, x + j = 11 → pcS h (bF X) s cnt x g → wX5_parseCommand_L9 K (j + 1) 587 (nI s) (bstI (bst (bF X) s x)) (nI x) g := by
  have h60 := r.2.2.2.2.2.1.2.1
  intro j
  induction j with
  | zero =>
    intro x g hx q
    have hx' : x = 11 := by omega
    subst hx'
    exact k g q
  | succ j ih =>
    intro x g hx q
    have hxk : x < 11 := by omega
    obtain ⟨q1, q2, q3, q4, q5, q6, q7, q8⟩ := q
    have rg := r.prg q1
    have tg := t.chq q1
    obtain ⟨t1, t2, t3, t4⟩ := id tg
    obtain ⟨s1, s2⟩ := stp_in hs x
    have ln1 : ln g 1 = 11 := congrArg Prod.snd t1
    rw [wX5_parseCommand_L9]; dsimp only
    rw [ln1, nI_clamp (by omega), (t2 x hxk).1, (t2 x hxk).2.2.1]
    refine ⟨congrArg Prod.fst t1, fun z => absurd z (nI_ge hxk (by decide)), fun _ => ⟨vp_in_nI hxk (by decide), (t2 x hxk).2.1, by show 2 + x < 64; omega, rg.1.po, ?_⟩⟩
    refine c_match rg tg hxk hcnt hs (by omega) s2 q2 q3 (fun g' a1 a2 a3 a4 a5 a6 => ?_)
    have q1' := q1.tr a1
    have rg' := r.prg q1'
    have tg' := t.chq q1'
    have ht1 := tg'.1
    have hm := mt_in (T := bF X) (frm x) s hs
    have base : ∀ (g'' : AH), chq g' g'' → mI g'' = mI g' → (∀ a, a ≠ 589 → mR g'' a = mR g' a) → (∀ j, j ≠ cnt → mR g'' 589 j = mR g' 589 j) → (∀ e j, bst (bF X) s (x + 1) = some (e, j) → mR g'' 589 cnt = 2 + j) → pcS h (bF X) s cnt (x + 1) g'' := fun g'' b1 b2 b3 b4 b5 =>
      ⟨q1'.tr b1, by rw [b2]; exact a2, by rw [b2, a3]; rfl, by rw [b2, a5, q4]; rfl, fun c h1 h2 => by rw [b2, a4 c h1 h2, q5 c h1 h2], fun a ha => by rw [b3 a ha, a6, q6 a ha], fun j hj => by rw [b4 j hj, a6, q7 j hj], b5⟩
    rw [nI_add]
    by_cases b : (mtF (bF X) (frm x) s).2.1 = true
    · rw [if_pos b]
      have take : bst (bF X) s (x + 1) = some ((mtF (bF X) (frm x) s).1, x) → (isO g' 587 3 ∧ (nI 13 ≤ mI g' 587 4 → wX5_parseCommand_L9 K (j + 1) 587 (nI s) (bstI (bst (bF X) s x)) (nI (x + 1)) g') ∧ (¬nI 13 ≤ mI g' 587 4 → isA g' 1 7 ∧ vp_in (nI x) (ln g' 1) ∧ isA g' (mR g' 587 2) 7 ∧ mS g' (mR g' 1 x) = (21, 0) ∧ mR g' 1 x < nZ ∧ nZ ≤ mR g' 587 2 ∧ vp_in (mI g' 587 4) (ln g' (mR g' 587 2)) ∧ ∀ (h25 : AH), h25 = uR g' (mR g' 587 2) (mI g' 587 4).toNatClampNeg (mR g' 1 x) → wX5_parseCommand_L9 K (j + 1) 587 (nI s) (nI (mtF (bF X) (frm x) s).1) (nI (x + 1)) h25)) := fun hb => by
        have ln1' : ln g' 1 = 11 := congrArg Prod.snd ht1
        rw [a2, rg'.1.p2, rg'.1.pl2, ln1', (tg'.2.1 x hxk).1, nI_clamp (by omega)]
        refine ⟨rg'.1.po, fun z => absurd z (nI_ge hcnt (by decide)), fun _ => ⟨congrArg Prod.fst ht1, vp_in_nI hxk (by decide), rg'.1.pa2, (tg'.2.1 x hxk).2.1, by show 2 + x < 64; omega, by decide, vp_in_nI hcnt (by decide), fun h25 e25 => ?_⟩⟩
        have := ih (x + 1) h25 (by omega) (base h25 (by rw [e25]; exact chq.cm _ _) (by rw [e25, mI_uR]) (fun a ha => by rw [e25, mR_o ha]) (fun y hy => by rw [e25, mR_uR, if_neg (fun z => hy z.2)]) (fun e y hy => by
          rw [hb] at hy
          cases hy
          rw [e25, mR_uR, if_pos ⟨rfl, rfl⟩]))
        rw [hb] at this
        exact this
      cases hb : bst (bF X) s x with
      | none =>
        have hb2 : bst (bF X) s (x + 1) = some ((mtF (bF X) (frm x) s).1, x) := by rw [bst, if_pos b, hb]
        rw [hb] at take
        refine ⟨fun z => absurd z ?_, fun _ => take hb2⟩
        show ¬ nI (mtF (bF X) (frm x) s).1 ≤ -1
        rw [lt_nge (m_lt _ (by omega))]
        exact id
      | some q =>
        obtain ⟨e, y⟩ := q
        have he := (bst_in hs x (by omega) e y hb).1
        show (nI (mtF (bF X) (frm x) s).1 ≤ nI e → _) ∧ _
        rw [nI_leI (by omega) (by omega)]
        by_cases z : e < (mtF (bF X) (frm x) s).1
        · have hb2 : bst (bF X) s (x + 1) = some ((mtF (bF X) (frm x) s).1, x) := by rw [bst, if_pos b, hb]; simp only; rw [if_pos z]
          rw [hb] at take
          exact ⟨fun u => by omega, fun _ => take hb2⟩
        · have hb2 : bst (bF X) s (x + 1) = some (e, y) := by rw [bst, if_pos b, hb]; simp only; rw [if_neg z]
          have := ih (x + 1) g' (by omega) (base g' (chq.rf g') rfl (fun _ _ => rfl) (fun _ _ => rfl) (fun e' y' hy => by
            rw [hb2] at hy
            rw [a6]
            exact q8 e' y' (by rw [hb]; exact hy)))
          rw [hb2] at this
          exact ⟨fun _ => this, fun u => absurd (nI_le (Nat.le_of_not_lt z) (by omega)) u⟩
    · rw [if_neg b]
      have hb2 : bst (bF X) s (x + 1) = bst (bF X) s x := by rw [bst, if_neg b]
      have := ih (x + 1) g' (by omega) (base g' (chq.rf g') rfl (fun _ _ => rfl) (fun _ _ => rfl) (fun e' y' hy => by
        rw [hb2] at hy
        rw [a6]
        exact q8 e' y' hy))
      rw [hb2] at this
      refine ⟨fun _ => this, fun z => absurd ?_ z⟩
      cases hq : bst (bF X) s x with
      | none => exact Int32.le_refl _
      | some q =>
        obtain ⟨e, y⟩ := q
        have he := (bst_in hs x (by omega) e y hq).1
        show (-1 : Int32) ≤ nI e
        have h1 : (-1 : Int32).toInt = -1 := by decide
        rw [Int32.le_iff_toInt_le, nI_toInt (by omega)]
        omega
/-- the commands that were read are kept -/
def cmS (g : AH) (n : Nat) (cs : List CM) : Prop := ∀ c k ns, cs[c]? = some (k, ns) → mR g 589 (n + c) = 2 + k ∧ k < 11 ∧ ns.length = wld (frm k) ∧ ∀ q v, ns[q]? = some v → mI g (591 + (n + c)) q = nI v ∧ v < 1000
theorem mt_wl : ∀ (F : List Nat) (i : Nat), (mtF T F i).2.1 = true → (mtF T F i).2.2.length = wld F := by
  intro F
  induction F with
  | nil => intro i _; rfl
  | cons c F ih =>
    intro i h
    rw [mt_step] at h ⊢
    by_cases e : tkn T c i = 0
    · rw [if_pos e] at h; cases h
    · rw [if_neg e] at h ⊢
      show (nts T c i ++ (mtF T F (i + tkn T c i)).2.2).length = wld (c :: F)
      rw [List.length_append, ih _ h]
      unfold wld nts
      rw [List.countP_cons]
      by_cases z : c = 35 ∨ c = 42
      · rw [if_pos z, if_pos (decide_eq_true z), List.length_singleton]; omega
      · rw [if_neg z, if_neg (by simpa using z)]; simp
theorem sel_k {k : Nat} (h : sel T s = some k) : k < 11 := by
  unfold sel at h
  split at h
  · cases h; decide
  · cases h; decide
  · cases h; decide
  · split at h
    · cases h; decide
    · cases h; decide
  · split at h
    · cases h; decide
    · cases h; decide
  · cases h; decide
  · cases h; decide
  · cases h; decide
  · cases h
theorem rd1_s {e k : Nat} {ns : List Nat} (h : rd1 T s = (e, some (k, ns))) : k < 11 ∧ ns.length = wld (frm k) ∧ (∀ v ∈ ns, v < 1000) ∧ s + 4 ≤ e := by
  unfold rd1 at h
  cases hs : sel T s with
  | none => rw [hs] at h; cases h
  | some j =>
    rw [hs] at h
    simp only at h
    have hj := sel_k hs
    by_cases b : (mtF T (frm j) s).2.1 = true
    · rw [if_pos b] at h
      have h2 := mt_ok (T := T) (frm j) s b
      have h3 := (frm_f j hj).2.2.1
      have h4 := mt_wl (T := T) (frm j) s b
      have h5 := mt_ns (T := T) (frm j) s
      cases h
      exact ⟨hj, h4, h5, by omega⟩
    · rw [if_neg b] at h
      split at h
      · cases h
        exact ⟨by decide, by decide, fun v hv => absurd hv List.not_mem_nil, Nat.le_refl _⟩
      · cases h
/-- after one command was read -/
def pcE (g0 : AH) (T : List Nat) (s cnt : Nat) (g : AH) : Prop := chq g0 g ∧ mI g 587 4 = nI cnt ∧ mI g 587 5 = nI (rd1 T s).1 ∧ (∀ c, c ≠ 591 + cnt → c ≠ 587 → mI g c = mI g0 c) ∧ (∀ j, j ≠ cnt → mR g 589 j = mR g0 589 j) ∧ ∀ e k ns, rd1 T s = (e, some (k, ns)) → mR g 589 cnt = 2 + k ∧ ∀ q v, ns[q]? = some v → mI g (591 + cnt) q = nI v
theorem c_parseCommand (r : RBp h p X) (t : stF h) {cnt : Nat} (hcnt : cnt < 13) (h4 : mI h 587 4 = nI cnt) (hs : s ≤ (bF X).length) (k : ∀ g, pcE h (bF X) s cnt g → K (match rd1 (bF X) s with
    | (_, none) => -1
    | (e, some _) => if e = (bF X).length ∨ (bF X)[e]? = some 59 then nI e else -1) g) : wX5_parseCommand 587 (nI s) h K := by
  have h60 := r.2.2.2.2.2.1.2.1
  unfold wX5_parseCommand
  refine ⟨r.1.po, fun g e => ⟨12, ?_⟩⟩
  have q0 : chq h g := by rw [e]; exact chq.s5 _
  have r0 := r.prg q0
  refine forms_l (h := g) r0 (t.chq q0) hcnt hs (fun g1 q => ?_) 11 0 g (by omega) ⟨chq.rf g, by rw [e, mI_uI, if_neg (by omega)]; exact h4, by rw [e, mI_uI, if_pos ⟨rfl, rfl⟩]; rfl, rfl, fun _ _ _ => rfl, fun _ _ => rfl, fun _ _ => rfl, fun e j hy => by cases hy⟩
  obtain ⟨q1, q2, q3, q4, q5, q6, q7, q8⟩ := q
  have r1 := r0.prg q1
  have t1 := (t.chq q0).chq q1
  obtain ⟨f1, f2, f3⟩ := fin_all (bF X) s (mI g (591 + cnt))
  have pe : pcE h (bF X) s cnt g1 := ⟨q0.tr q1, q2, by rw [q3, f1], fun c h1 h2 => by rw [q5 c h1 h2, e, mI_o h2], fun j hj => by rw [q7 j hj, e, mR_uI], fun e' k' ns hr => by
    obtain ⟨b1, b2⟩ := f2 e' k' ns hr
    exact ⟨q8 _ _ b1, fun q v hv => by rw [q4]; exact b2 q v hv⟩⟩
  have kk := k g1 pe
  have b1 := r1.2.2.2.2.2.1.1
  have ln1 : ln g1 1 = 11 := congrArg Prod.snd t1.1
  rw [wX5_parseCommand_L9]; dsimp only
  rw [ln1, b1]
  refine ⟨congrArg Prod.fst t1.1, fun _ => ⟨r1.1.po, ?_⟩, fun z => absurd (nI_le (Nat.le_refl 11) (by decide)) z⟩
  cases hr : rd1 (bF X) s with
  | mk e' o =>
    rw [hr] at kk f3
    cases o with
    | some c =>
      obtain ⟨k', ns⟩ := c
      simp only at kk
      obtain ⟨b2, -⟩ := f2 e' k' ns hr
      have he := (bst_in hs 11 (by decide) _ _ b2).1
      rw [b2]
      show (nI e' = nI (bF X).length → K (nI e') g1) ∧ (¬ nI e' = nI (bF X).length → wX5_isAt 587 (nI e') (nI 59) g1 _)
      rw [nI_eq (a := e') (b := (bF X).length) (by omega) (by omega)]
      refine ⟨fun z => ?_, fun z => c_isAt r1 (by omega) (by decide) ?_⟩
      · rw [if_pos (Or.inl z)] at kk; exact kk
      · by_cases z2 : (bF X)[e']? = some 59
        · rw [if_pos (Or.inr z2)] at kk
          rw [if_pos z2]
          exact ⟨fun y => absurd y (by rw [n1_ne]; exact id), fun _ => kk⟩
        · rw [if_neg (fun y => y.elim z z2)] at kk
          rw [if_neg z2]
          exact ⟨fun _ => kk, fun y => absurd rfl y⟩
    | none =>
      simp only at kk
      rcases f3 rfl with z | ⟨k', z, z32⟩
      · rw [z]
        show ((-1 : Int32) = nI (bF X).length → K (-1) g1) ∧ (¬ (-1 : Int32) = nI (bF X).length → wX5_isAt 587 (-1) (nI 59) g1 _)
        refine ⟨fun _ => kk, fun _ => ?_⟩
        unfold wX5_isAt
        exact ⟨fun _ => ⟨fun _ => kk, fun y => absurd rfl y⟩, fun y => absurd (m_lt 0 (by decide)) y⟩
      · have he := (List.getElem?_eq_some_iff.mp z32).1
        rw [z]
        show (nI (s + 4) = nI (bF X).length → K (nI (s + 4)) g1) ∧ (¬ nI (s + 4) = nI (bF X).length → wX5_isAt 587 (nI (s + 4)) (nI 59) g1 _)
        rw [nI_eq (a := s + 4) (b := (bF X).length) (by omega) (by omega)]
        refine ⟨fun y => by omega, fun _ => c_isAt r1 (by omega) (by decide) ?_⟩
        rw [z32, if_neg (by decide)]
        exact ⟨fun _ => kk, fun y => absurd rfl y⟩
theorem parse_l (t : stF h) (r : RBp h p X) {N : Prop} : ∀ (f i s : Nat) (g : AH) (K : Int32 → AH → Prop), i + f = 13 → 5 * i ≤ s → s ≤ (bF X).length → chq h g → mI g 587 4 = nI i → (∀ g', chq h g' → (∀ j, j < i → mR g' 589 j = mR g 589 j ∧ mI g' (591 + j) = mI g (591 + j)) → (match prs (bF X) f s with
    | (e, none) => mI g' 587 5 = nI e → K (nI 0) g'
    | (_, some cs) => mI g' 587 4 = nI (i + cs.length) → i + cs.length ≤ 12 → cmS g' i cs → K (nI 1) g')) → wX5_parse_L9 K (f + 1) 587 (nI s) (nI i) g := by
  have h60 := r.2.2.2.2.2.1.2.1
  intro f
  induction f with
  | zero => intro i s g K hi hs hl _ _ _; omega
  | succ f ih =>
    intro i s g K hi hs hl q h4 kk
    have rg := r.prg q
    have tg := t.chq q
    rw [wX5_parse_L9]; dsimp only
    refine ⟨fun z => absurd z (nI_ge (by omega) (by decide)), fun _ => ⟨rg.1.po, c_parseCommand rg tg (by omega) h4 hl (fun g1 pe => ?_)⟩⟩
    obtain ⟨p1, p2, p3, p4, p5, p6⟩ := pe
    have q1 := q.tr p1
    have r1 := r.prg q1
    have b1 := r1.2.2.2.2.2.1.1
    have same : ∀ j, j < i → mR g1 589 j = mR g 589 j ∧ mI g1 (591 + j) = mI g (591 + j) := fun j hj => ⟨p5 j (by omega), p4 _ (by omega) (by omega)⟩
    cases hr : rd1 (bF X) s with
    | mk e o =>
      cases o with
      | none =>
        have := kk g1 q1 same
        rw [prs, hr] at this
        simp only at this
        rw [hr] at p3
        exact ⟨fun z => absurd rfl z, fun _ => this p3⟩
      | some c =>
        obtain ⟨k', ns⟩ := c
        obtain ⟨c1, c2, c3, c4⟩ := rd1_s hr
        obtain ⟨d1, d2⟩ := p6 e k' ns hr
        have hein : e ≤ (bF X).length := by
          have := (fin_all (bF X) s (mI g 0)).2.1 e k' ns hr
          exact (bst_in hl 11 (by decide) _ _ this.1).1
        simp only
        by_cases z : e = (bF X).length ∨ (bF X)[e]? = some 59
        · rw [if_pos z]
          refine ⟨fun _ => ⟨r1.1.po, fun g2 e2 => ?_⟩, fun y => absurd y (by rw [nI_nem (by omega)]; exact id)⟩
          rw [p2, nI_add] at e2
          have q2 : chq h g2 := q1.tr (by rw [e2]; exact chq.s4 _)
          have r2 := r.prg q2
          have b2 := r2.2.2.2.2.2.1.1
          have o2 : ∀ c, c ≠ 587 → mI g2 c = mI g1 c := fun c hc => by rw [e2, mI_o hc]
          have oR : mR g2 = mR g1 := by rw [e2, mR_uI]
          rw [b2, nI_eq (a := e) (b := (bF X).length) (by omega) (by omega), nI_add, nI_add]
          refine ⟨fun y => ?_, fun y => ?_⟩
          · have z2 := z.resolve_left y
            have helt := (List.getElem?_eq_some_iff.mp z2).1
            refine ih (i + 1) (e + 1) g2 K (by omega) (by omega) (by omega) q2 (by rw [e2, mI_uI, if_pos ⟨rfl, rfl⟩]) (fun g' a1 a2 => ?_)
            have := kk g' a1 (fun j hj => by
              obtain ⟨u1, u2⟩ := a2 j (by omega)
              rw [u1, u2, oR, o2 _ (by omega)]
              exact same j hj)
            rw [prs, hr] at this
            simp only at this
            rw [if_neg y, if_pos z2] at this
            cases hp : prs (bF X) f (e + 1) with
            | mk e3 o3 =>
              rw [hp] at this
              cases o3 with
              | none => exact this
              | some cs =>
                simp only at this ⊢
                intro v1 v2 v3
                refine this (by rw [v1, List.length_cons]; congr 1; omega) (by rw [List.length_cons]; omega) (fun c k2 n2 hc => ?_)
                cases c with
                | zero =>
                  rw [List.getElem?_cons_zero] at hc
                  cases hc
                  obtain ⟨u1, u2⟩ := a2 i (by omega)
                  rw [Nat.add_zero, u1, u2, oR, o2 _ (by omega)]
                  exact ⟨d1, c1, c2, fun q v hv => ⟨d2 q v hv, c3 v (List.mem_of_getElem? hv)⟩⟩
                | succ c =>
                  rw [List.getElem?_cons_succ] at hc
                  have := v3 c k2 n2 hc
                  rw [show i + 1 + c = i + (c + 1) by omega] at this
                  exact this
          · have := kk g2 q2 (fun j hj => by rw [oR, o2 _ (by omega)]; exact same j hj)
            rw [prs, hr] at this
            simp only at this
            rw [if_pos y] at this
            refine this (by rw [e2, mI_uI, if_pos ⟨rfl, rfl⟩]; rfl) (by rw [List.length_singleton]; omega) (fun c k2 n2 hc => ?_)
            cases c with
            | zero =>
              rw [List.getElem?_cons_zero] at hc
              cases hc
              rw [Nat.add_zero, oR, o2 _ (by omega)]
              exact ⟨d1, c1, c2, fun q v hv => ⟨d2 q v hv, c3 v (List.mem_of_getElem? hv)⟩⟩
            | succ c =>
              simp at hc
        · rw [if_neg z]
          have := kk g1 q1 same
          rw [prs, hr] at this
          simp only at this
          rw [if_neg (fun y => z (Or.inl y)), if_neg (fun y => z (Or.inr y))] at this
          rw [hr] at p3
          exact ⟨fun y => absurd rfl y, fun _ => this p3⟩
/-- the class's answer of what is read of the buffer -/
theorem c_parse (t : stF h) (r : RBp h p X) (k : ∀ g, chq h g → (match prs (bF X) 13 0 with
    | (e, none) => mI g 587 5 = nI e → K (nI 0) g
    | (_, some cs) => mI g 587 4 = nI cs.length → cs.length ≤ 12 → cmS g 0 cs → K (nI 1) g)) : wX5_parse 587 h K := by
  unfold wX5_parse
  refine ⟨r.1.po, fun g e => ⟨14, parse_l t r (N := True) 13 0 0 g K rfl (Nat.zero_le _) (Nat.zero_le _) (by rw [e]; exact chq.s4 _) (by rw [e, mI_uI, if_pos ⟨rfl, rfl⟩]) (fun g' a1 _ => ?_)⟩⟩
  have := k g' a1
  cases hp : prs (bF X) 13 0 with
  | mk e3 o3 =>
    rw [hp] at this
    cases o3 with
    | none => exact this
    | some cs =>
      simp only [Nat.zero_add] at this ⊢
      exact this
end CM_
