/-! THE MODEL COUNTS PATHS -/
section CN9
variable {h g : AH} {A : AG} {X : BG} {to : Nat} {K : Int32 → AH → Prop}
theorem sml_n : ∀ e, e < 31 → ((nI e &&& nI 31).toBitVec.smod 32).toNat = e := by decide +kernel
theorem shr_b {S e : Nat} (hS : S < 2 ^ 31) (he : e < 31) : ((nI S >>> (nI e &&& nI 31)) &&& nI 1) = nI (if S.testBit e = true then 1 else 0) := by
  have h2 : ∀ x : Nat, x &&& 1 = x % 2 := fun x => Nat.and_two_pow_sub_one_eq_mod x 1
  rw [pk_shrN hS _ e (sml_n e he), n_and, h2, Nat.testBit_eq_decide_div_mod_eq]
  by_cases z : S / 2 ^ e % 2 = 1
  · rw [z]; simp
  · have z0 : S / 2 ^ e % 2 = 0 := by omega
    rw [z0]; simp
theorem shr_w (e : Nat) (he : e < 12) (S : Nat) (hS : S < 4096) : (((nI S >>> (nI e &&& nI 31)) &&& nI 1) = nI 0 ↔ S.testBit e = false) := by
  rw [shr_b (by omega) (by omega)]
  cases S.testBit e
  · simp
  · simp only [if_true]
    exact ⟨fun z => absurd z (by decide), fun z => by cases z⟩
/-- what one exit adds -/
def cxE (G : LG) (to f b S k : Nat) : Nat := match xE G b k with
  | none => 0
  | some e => if S.testBit e = true then 0 else mcP G to f e (S ||| 2 ^ e)
theorem mc_two {G : LG} (i : IL G) {f b S : Nat} (hb : b < gn G) (hbt : b ≠ to) : mcP G to (f + 1) b S = cxE G to f b S 0 + cxE G to f b S 1 := by
  rw [mcP, if_neg hbt]
  have x0 : xE G b 0 = gf G b := if_pos rfl
  have x1 : xE G b 1 = if b ∈ gp G then gr G b else none := if_neg (by decide)
  unfold cxE
  rw [x0, x1]
  by_cases hp : b ∈ gp G
  · have hne := (i.2.2.2.2.2.1 b hp).2
    rw [if_neg hne, if_pos hp]
    rfl
  · have heq : gf G b = gr G b := by
      by_cases z : gf G b = gr G b
      · exact z
      · exact absurd (i.2.2.2.2.2.2.1 b hb z) hp
    rw [if_pos heq, if_neg hp]
    rfl
theorem m_cnt (s : sM h) (i : IL (aL A)) (r : rm (mI h 607) A) (ht : to < gn (aL A)) : ∀ (d b S : Nat) (K : Int32 → AH → Prop), b < gn (aL A) → S < 2 ^ 12 → 14 ≤ pc S + d → K (nI (mcP (aL A) to d b S)) h → wX10_count d 606 (nI b) (nI to) (nI S) h K := by
  have h12 := i.1
  intro d
  induction d with
  | zero =>
    intro b S K hb hS hp k
    have := pc_le S
    omega
  | succ d ih =>
    intro b S K hb hS hp k
    show wX10_count_b (wX10_count d) 606 (nI b) (nI to) (nI S) h K
    unfold wX10_count_b
    simp (disch := omega) only [nI_add, pk_mul, nI_clamp, nI_leI, nI_ltI, nI_eq, vp_in_nI]
    refine ⟨fun hbt => ⟨3, ?_⟩, fun hbt => ?_⟩
    · rw [mc_two i hb hbt] at k
      have step : ∀ (j n m : Nat), j < 2 → wX10_count_L13 (wX10_count d) K n 606 (nI b) (nI to) (nI S) (nI (m + cxE (aL A) to d b S j)) (nI (j + 1)) h → wX10_count_L13 (wX10_count d) K (n + 1) 606 (nI b) (nI to) (nI S) (nI m) (nI j) h := by
        intro j n m hj k
        rw [wX10_count_L13]; dsimp only
        simp (disch := omega) only [m_exit s i r hb hj, s.o, nI_add, pk_mul, nI_clamp, nI_leI, nI_ltI, nI_eq, vp_in_nI, true_and]
        refine ⟨fun z => absurd z (by omega), fun _ => ?_⟩
        unfold cxE at k
        cases ho : xE (aL A) b j with
        | none =>
          rw [ho] at k
          exact ⟨fun _ => k, fun z => absurd rfl z⟩
        | some e =>
          rw [ho] at k
          simp only at k
          have he := (ex_lt i hb (xE_ex ho)).1
          refine ⟨fun z => absurd z (by rw [oI_some, nI_nem (by omega)]; exact id), fun _ => ?_⟩
          rw [oI_some]
          have hw := shr_w e (by omega) S hS
          by_cases z : S.testBit e = true
          · rw [if_pos z] at k
            refine ⟨fun _ => k, fun z2 => ?_⟩
            rw [hw.mp z2] at z
            cases z
          · have z' : S.testBit e = false := by simpa using z
            rw [if_neg z] at k
            refine ⟨fun z2 => absurd (hw.mpr z') z2, fun _ => ?_⟩
            rw [n_shl e (by omega), n_or]
            refine ih e (S ||| 2 ^ e) _ he (or_lt hS (p2_lt (by omega))) (by rw [pc_set (by omega) z']; omega) ?_
            rw [nI_add]
            exact k
      refine step 0 2 0 (by decide) (step 1 1 _ (by decide) ?_)
      rw [wX10_count_L13]; dsimp only
      rw [Nat.zero_add]
      exact ⟨fun _ => k, fun z => absurd (by decide) z⟩
    · rw [hbt, mcP, if_pos rfl] at k
      exact k
theorem m9_paths (q : RMb h X) (k : GK (bA X)) {x y : Int32} (kk : mqK h X (qPaths (bA X) x y) K) : wX10_paths 606 x y h K := by
  have h12 := k.1.1
  unfold wX10_paths
  unfold qPaths at kk
  refine ⟨q.1.o, m_arePlaces q k (fun e g c e0 => ?_) (fun b t hb ht eb et e1 e2 g c e0 => ?_)⟩
  · refine ⟨fun _ => ?_, fun z => absurd rfl z⟩
    rcases e with e | e
    · rw [e] at kk
      exact kk.to q c e0
    · rw [e] at kk
      cases h1 : iv (gn (aL (bA X))) x with
      | none => rw [h1] at kk; exact kk.to q c e0
      | some b => rw [h1] at kk; exact kk.to q c e0
  rw [e1, e2] at kk
  simp only at kk
  subst eb et
  have s' := c.s q.1
  have r' := q.2.1.fr c (by decide)
  refine ⟨fun z => absurd z (by decide), fun _ => ⟨s'.o, ?_⟩⟩
  rw [n_shl b (by omega)]
  exact m_cnt s' k.1 r' ht 14 b (2 ^ b) _ hb (p2_lt (by omega)) (by omega) (kk.to q c e0)
end CN9
