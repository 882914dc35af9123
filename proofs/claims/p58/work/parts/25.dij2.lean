/-- whether a block's way gets better over the block that was settled now -/
def bt_ (c : Nat → Nat) (N : Nat → Option Nat) (th near b : Nat) : Prop := th < c b ∨ (th = c b ∧ ∃ f, N b = some f ∧ near < f)
def rlx (G : LG) (c : Nat → Nat) (N : Nat → Option Nat) (th near b : Nat) : Prop := bt_ c N th near b ∧ ex G b near
noncomputable def rc_ (G : LG) (c : Nat → Nat) (N : Nat → Option Nat) (th near b : Nat) : Nat := @ite _ (rlx G c N th near b) (Classical.propDecidable _) th (c b)
noncomputable def rN_ (G : LG) (c : Nat → Nat) (N : Nat → Option Nat) (th near b : Nat) : Option Nat := @ite _ (rlx G c N th near b) (Classical.propDecidable _) (some near) (N b)
theorem rc_y {G : LG} {c : Nat → Nat} {N : Nat → Option Nat} {th near b : Nat} (h : rlx G c N th near b) : rc_ G c N th near b = th ∧ rN_ G c N th near b = some near := by
  unfold rc_ rN_
  rw [if_pos h, if_pos h]
  exact ⟨rfl, rfl⟩
theorem rc_n {G : LG} {c : Nat → Nat} {N : Nat → Option Nat} {th near b : Nat} (h : ¬ rlx G c N th near b) : rc_ G c N th near b = c b ∧ rN_ G c N th near b = N b := by
  unfold rc_ rN_
  rw [if_neg h, if_neg h]
  exact ⟨rfl, rfl⟩
section DJ2
variable {a : Nat} {G : LG} {to : Nat}
theorem d_relax_l {c : Nat → Nat} {N : Nat → Option Nat} {th near : Nat} {F0 : Nat} {i4 i5 : Int32} {K : AH → Prop} {C : Nat → Nat → Nat → Int32 → Int32 → AH → Prop} {h0 : AH} (i : IL G) (ht : to < gn G) (hc : ∀ b, b < gn G → c b ≤ 1000000) (hN : ∀ b f, b < gn G → N b = some f → f < gn G) (hth : th < 1000000) (hnr : near < gn G)
    (kk : ∀ h', chp (TP a to) h0 h' → rpW h' a G → (∀ b, b < gn G → mI h' (a + 31) b = nI (rc_ G c N th near b)) → (∀ b, b < gn G → mI h' (a + 6 + to) b = oI (rN_ G c N th near b)) → (∀ b, b < gn G → mI h' (a + 19 + to) b = mI h0 (a + 19 + to) b) → C a (a + 6 + to) F0 i4 i5 h') :
    ∀ k x h, x + k = gn G → chp (TP a to) h0 h → rpW h a G → (∀ b, b < gn G → mI h (a + 31) b = nI (if b < x then rc_ G c N th near b else c b)) → (∀ b, b < gn G → mI h (a + 6 + to) b = oI (if b < x then rN_ G c N th near b else N b)) → (∀ b, b < gn G → mI h (a + 19 + to) b = mI h0 (a + 19 + to) b) → wX4_learnRoutesTo_L129 K C (k + 1) a (a + 6 + to) F0 i4 i5 (nI near) (nI th) (nI x) h := by
  have h12 := i.1
  intro k
  induction k with
  | zero =>
    intro x h hx ch w d1 d2 d3
    rw [wX4_learnRoutesTo_L129]; dsimp only; rw [w.2.1.1]
    have hx' : x = gn G := by omega
    subst hx'
    exact ⟨w.1.o, fun _ => kk h ch w (fun b hb => by rw [d1 b hb, if_pos hb]) (fun b hb => by rw [d2 b hb, if_pos hb]) d3, fun z => absurd (nI_le (Nat.le_refl _) (by omega)) z⟩
  | succ k ih =>
    intro x h hx ch w d1 d2 d3
    rw [wX4_learnRoutesTo_L129]; dsimp only; rw [w.2.1.1]
    have hxn : x < gn G := by omega
    have e1 : mI h (a + 31) x = nI (c x) := by rw [d1 x hxn, if_neg (by omega)]
    have e2 : mI h (a + 6 + to) x = oI (N x) := by rw [d2 x hxn, if_neg (by omega)]
    have hcx := hc x hxn
    have go : ∀ (h' : AH), chp (TP a to) h0 h' → rpW h' a G → mI h' (a + 31) x = nI (rc_ G c N th near x) → mI h' (a + 6 + to) x = oI (rN_ G c N th near x) → (∀ b, b ≠ x → mI h' (a + 31) b = mI h (a + 31) b ∧ mI h' (a + 6 + to) b = mI h (a + 6 + to) b) → (∀ b, b < gn G → mI h' (a + 19 + to) b = mI h0 (a + 19 + to) b) → wX4_learnRoutesTo_L129 K C (k + 1) a (a + 6 + to) F0 i4 i5 (nI near) (nI th) (nI x + nI 1) h' := by
      intro h' c9 w9 x1 x2 x3 x4
      rw [nI_add]
      refine ih (x + 1) h' (by omega) c9 w9 (fun b hb => ?_) (fun b hb => ?_) x4
      · by_cases e : b = x
        · subst e; rw [x1, if_pos (by omega)]
        · rw [(x3 b e).1, d1 b hb]
          by_cases hbx : b < x
          · rw [if_pos hbx, if_pos (by omega)]
          · rw [if_neg hbx, if_neg (by omega)]
      · by_cases e : b = x
        · subst e; rw [x2, if_pos (by omega)]
        · rw [(x3 b e).2, d2 b hb]
          by_cases hbx : b < x
          · rw [if_pos hbx, if_pos (by omega)]
          · rw [if_neg hbx, if_neg (by omega)]
    have no : ¬ rlx G c N th near x → wX4_learnRoutesTo_L129 K C (k + 1) a (a + 6 + to) F0 i4 i5 (nI near) (nI th) (nI x + nI 1) h := by
      intro hr
      obtain ⟨r1, r2⟩ := rc_n hr
      exact go h ch w (by rw [e1, r1]) (by rw [e2, r2]) (fun _ _ => ⟨rfl, rfl⟩) d3
    have yes : bt_ c N th near x → wX4_learnRoutesTo_J176 K (wX4_learnRoutesTo_L129 K C (k + 1)) a (a + 6 + to) F0 i4 i5 (nI near) (nI th) (nI x) (nI 1) h := by
      intro hbt
      unfold wX4_learnRoutesTo_J176
      simp (disch := omega) only [n1_ne, false_implies, not_false_eq_true, forall_const, true_and, c_leadsTo w hxn (show near < 2 ^ 31 by omega), w.1.o, n0_eq, not_true_eq_false, and_true]
      refine ⟨fun hex => ?_, fun hex => no (fun z => hex z.2)⟩
      have hr : rlx G c N th near x := ⟨hbt, hex⟩
      obtain ⟨r1, r2⟩ := rc_y hr
      simp (disch := omega) only [w.1.o, w.1.m5, w.1.m6, w.1.m7, w.1.m8, w.1.m9, w.1.m10, w.1.m11, w.1.a1, w.1.a2, w.1.a3, w.1.a4, w.1.a5, w.1.a18, w.1.a31, w.1.l1, w.1.l2, w.1.l3, w.1.l4, w.1.l5, w.1.l18, w.1.l31, w.1.z, w.1.r5, w.1.r18, w.1.a6, w.1.l6, w.1.a19, w.1.l19, isO_uI, isA_uI, ln_uI, mR_uI, isO_uR, isA_uR, ln_uR, mI_uR, isO_uL, isA_uL, ln_uL, mR_uL, mI_uL, mL_uI, mL_uR, isO_uA, isA_uA, ln_uA, mR_uA, mL_uA, mS_uI, mS_uR, mS_uL, mS_uA, nI_clamp, vp_in_nI, true_and, forall_eq]
      have ch1 : chi (a + 6) (a + 32) h (uI (uI h (a + 31) x (nI th)) (a + 6 + to) x (nI near)) := (chi.uI (by omega) (by omega)).tr (chi.uI (by omega) (by omega))
      have cp1 : chp (TP a to) h (uI (uI h (a + 31) x (nI th)) (a + 6 + to) x (nI near)) := (chp.uI (Or.inr (Or.inr rfl))).tr (chp.uI (Or.inl rfl))
      refine ⟨by have := w.1.1; show 64 ≤ a + 6 + to; omega, ?_⟩
      refine go _ (ch.tr cp1) ⟨w.1.ch ch1, w.2.1.ch ch1 (by omega), i⟩ ?_ ?_ (fun b hb => ⟨?_, ?_⟩) (fun b hb => ?_)
      · rw [mI_uI, if_neg (by omega), mI_uI, if_pos ⟨rfl, rfl⟩, r1]
      · rw [mI_uI, if_pos ⟨rfl, rfl⟩, r2]
        rfl
      · rw [mI_uI, if_neg (fun z => hb z.2), mI_uI, if_neg (fun z => hb z.2)]
      · rw [mI_uI, if_neg (fun z => hb z.2), mI_uI, if_neg (fun z => hb z.2)]
      · rw [mI_uI, if_neg (by omega), mI_uI, if_neg (by omega)]
        exact d3 b hb
    have nos : ¬ bt_ c N th near x → wX4_learnRoutesTo_J176 K (wX4_learnRoutesTo_L129 K C (k + 1)) a (a + 6 + to) F0 i4 i5 (nI near) (nI th) (nI x) (nI 0) h := by
      intro hbt
      unfold wX4_learnRoutesTo_J176
      simp only [n0_eq, true_implies, not_true_eq_false, false_implies, and_true]
      exact no (fun z => hbt z.1)
    simp (disch := omega) only [w.1.o, w.1.m5, w.1.m6, w.1.m7, w.1.m8, w.1.m9, w.1.m10, w.1.m11, w.1.a1, w.1.a2, w.1.a3, w.1.a4, w.1.a5, w.1.a18, w.1.a31, w.1.l1, w.1.l2, w.1.l3, w.1.l4, w.1.l5, w.1.l18, w.1.l31, w.1.z, w.1.r5, w.1.r18, w.1.a6, w.1.l6, w.1.a19, w.1.l19, nI_clamp, vp_in_nI, e1, e2, nI_leI, nI_ltI, nI_eq, true_and, show ¬ gn G ≤ x by omega, false_implies, not_false_eq_true, forall_const, wX4_learnRoutesTo_J171, wX4_learnRoutesTo_J175]
    refine ⟨fun h1 => yes (Or.inl h1), fun h1 => ⟨fun h2 => nos (fun z => z.elim h1 (fun z => h2 z.1)), fun h2 => ⟨fun h3 => nos (fun z => ?_), fun h3 => yes ?_⟩⟩⟩
    · rcases z with z | ⟨-, f, hf, hlt⟩
      · exact h1 z
      · rw [hf, oI_some, nI_leI (by have := hN x f hxn hf; omega) (by omega)] at h3
        omega
    · refine Or.inr ⟨h2, ?_⟩
      cases hf : N x with
      | none =>
        rw [hf, oI_none] at h3
        exact absurd (by rw [Int32.le_iff_toInt_le]; have := m_lt near (by omega); rw [Int32.lt_iff_toInt_lt] at this; omega) h3
      | some f =>
        rw [hf, oI_some, nI_leI (by have := hN x f hxn hf; omega) (by omega)] at h3
        exact ⟨f, rfl, by omega⟩
end DJ2
