/-! THE CLASS'S MINUTES: many -/
section PA
variable {h : AH} {S a : Nat} {A : AG} {G : LG}
theorem qGo_s : ∀ (Q : List Nat) (A : AG), aO (qGo A Q).1 = aO A ∧ aM (qGo A Q).1 = aM A ∧ aC (qGo A Q).1 = aC A := by
  intro Q
  induction Q with
  | nil => intro A; exact ⟨rfl, rfl, rfl⟩
  | cons q Q ih =>
    intro A
    unfold qGo
    cases hf : fnd A (nI q) with
    | none => exact ih A
    | some t =>
      simp only
      by_cases e : can A t = true
      · rw [if_pos e]; exact ih (setT A t)
      · rw [if_neg e]; exact ih _
theorem min1_o (A : AG) : aO A ≤ aO (min1 A) := by
  show aO A ≤ aO (qGo (mnt A) (aQ A)).1
  rw [(qGo_s _ _).1]
  exact Nat.le_add_right _ _
theorem mins_o : ∀ (k : Nat) (A : AG), aO A ≤ aO (mins k A) := by
  intro k
  induction k with
  | zero => intro A; exact Nat.le_refl _
  | succ k ih => intro A; exact Nat.le_trans (min1_o A) (ih (min1 A))
theorem nI_sub {a b : Nat} (hb : b ≤ a) : nI a - nI b = nI (a - b) := by
  have : nI (a - b) + nI b = nI a := by rw [nI_add]; congr 1; omega
  rw [← this, Int32.add_sub_cancel]
theorem pass_l {n o0 : Nat} (hn : n ≤ 240) {K : Int32 → AH → Prop} : ∀ (j x : Nat) (g : AH) (B : AG), x + j = n → rpS g S B → (∀ k, k ≤ j → IP (mins k B) ∧ BN (mins k B)) → o0 ≤ aO B → (∀ g', chg S (S + 43) g g' → rpS g' S (mins j B) → K (nI (aO (mins j B) - o0)) g') → wX7_letPass_L22 K (j + 1) S (nI n) (nI o0) (nI x) g := by
  intro j
  induction j with
  | zero =>
    intro x g B hx p i ho k
    have hx' : x = n := by omega
    subst hx'
    have e6 : mI g S 6 = nI (aO B) := p.2.2.2.2.2.1
    rw [wX7_letPass_L22]; dsimp only; rw [e6, nI_sub ho]
    exact ⟨fun _ => ⟨p.1.o, k g (chg.rf _ _ g) p⟩, fun z => absurd (nI_le (Nat.le_refl _) (by omega)) z⟩
  | succ j ih =>
    intro x g B hx p i ho k
    rw [wX7_letPass_L22]; dsimp only
    refine ⟨fun z => absurd z (nI_ge (by omega) (by omega)), fun _ => ⟨p.1.o, ?_⟩⟩
    obtain ⟨i0, b0⟩ := i 0 (by omega)
    refine c_passMinute p i0 b0 (fun g' c p' => ?_)
    rw [nI_add]
    exact ih (x + 1) g' (min1 B) (by omega) p' (fun k hk => i (k + 1) (by omega)) (Nat.le_trans ho (min1_o B)) (fun g2 c2 p2 => k g2 (c.tr c2) p2)
theorem c_letPass (p : rpS h S A) {x : Int32} (i : ∀ k, k ≤ 240 → IP (mins k A) ∧ BN (mins k A)) {K : Int32 → AH → Prop} (k : ∀ h', chg S (S + 43) h h' → rpS h' S (oPass A x).2.2 → K (cr [-2] (oPass A x)) h') : wX7_letPass S x h K := by
  unfold wX7_letPass
  unfold oPass at k
  by_cases e1 : x < nI 1
  · rw [if_pos (Or.inl e1)] at k
    simp only [e1, not_true_eq_false, false_implies, and_true, forall_const]
    exact k h (chg.rf _ _ h) p
  · obtain ⟨n, hn, hn1, rfl⟩ := nI_of1 e1
    simp only [e1, not_false_eq_true, false_implies, true_and, forall_const]
    by_cases e2 : n ≤ 240
    · have e3 : ¬ (nI n < nI 1 ∨ nI 240 < nI n) := by
        rw [nI_ltI (by omega) (by omega), nI_ltI (by omega) (by omega)]
        omega
      rw [if_neg e3, nI_clamp (by omega)] at k
      have e6 : mI h S 6 = nI (aO A) := p.2.2.2.2.2.1
      refine ⟨fun _ => ⟨p.1.o, n + 1, ?_⟩, fun z => absurd (nI_le e2 (by omega)) z⟩
      rw [e6]
      exact pass_l e2 n 0 h A (by omega) p (fun k hk => i k (by omega)) (Nat.le_refl _) (fun g' c p' => k g' c p')
    · have e3 : nI n < nI 1 ∨ nI 240 < nI n := by
        rw [nI_ltI (by omega) (by omega), nI_ltI (by omega) (by omega)]
        omega
      rw [if_pos e3] at k
      refine ⟨fun z => absurd z (nI_ge (by omega) (by omega)), fun _ => ?_⟩
      exact k h (chg.rf _ _ h) p
end PA
