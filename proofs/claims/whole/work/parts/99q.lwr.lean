/-! THE LAW: its wrappers round the class's calls (printed by gencase.py) -/
section LWR
variable {h g : AH} {X X' : BG} {w L : Nat} {S : Nat → Int32} {q : QA} {K : Int32 → AH → Prop}
/-- what a call of the class through the law's wrapper comes to -/
def CW (h : AH) (X' : BG) (q : QA) (K : Int32 → AH → Prop) : Prop := ∀ g, lcl h g → RBc g X' → (q.1 = 0 → mL g 619 0 = q.2.toInt64) → K (nI q.1) g
theorem RBc.o (r : RBc h X) : isO h 64 0 := by
  obtain ⟨p, r⟩ := r
  exact r.1.o
theorem CW.put (k : CW h X' q K) (c : lcl h g) (e : mS h 619 = (101, 1)) (r : RBc g X') {v : Int32} (hq : q.1 = 0) (hv : q.2 = v) : isA g 619 1 ∧ nZ ≤ 619 ∧ vp_in (nI 0) (ln g 619) ∧ ∀ h6, h6 = uL g 619 (nI 0).toNatClampNeg v.toInt64 → K (nI 0) h6 := by
  have e1 : mS g 619 = (101, 1) := c.2.1.trans e
  have ln1 : ln g 619 = 1 := congrArg Prod.snd e1
  have z0 : (nI 0).toNatClampNeg = 0 := nI_clamp (by decide)
  refine ⟨congrArg Prod.fst e1, by decide, by rw [ln1]; exact vp_in_nI (by decide) (by decide), fun h6 h => ?_⟩
  rw [z0] at h
  have := k h6 (c.tr (by rw [h]; exact lcl.ul (Or.inl rfl))) (by rw [h]; exact r.ul (Or.inl rfl)) (fun _ => by rw [h, mL_uL, if_pos ⟨rfl, rfl⟩, hv])
  rw [hq] at this
  exact this
theorem CW.bad (k : CW h X' q K) (c : lcl h g) (r : RBc g X') {j : Nat} (hq : q.1 = j + 1) : K (nI (j + 1)) g := by
  have := k g c r (fun z => by omega)
  rw [hq] at this
  exact this
theorem b_64 : (nI 0).toInt64 = (0 : Int64) ∧ (nI 1).toInt64 = (1 : Int64) := by decide
theorem CW.putB (k : CW h X' q K) (c : lcl h g) (e : mS h 619 = (101, 1)) (r : RBc g X') {v : Int32} (hq : q.1 = 0) (hv : q.2 = v) (hb : v = nI 0 ∨ v = nI 1) : (v = nI 0 → isA g 619 1 ∧ nZ ≤ 619 ∧ vp_in (nI 0) (ln g 619) ∧ ∀ h6, h6 = uL g 619 (nI 0).toNatClampNeg 0 → K (nI 0) h6) ∧ (¬ v = nI 0 → isA g 619 1 ∧ nZ ≤ 619 ∧ vp_in (nI 0) (ln g 619) ∧ ∀ h6, h6 = uL g 619 (nI 0).toNatClampNeg 1 → K (nI 0) h6) := by
  have := k.put c e r hq hv
  rcases hb with rfl | rfl
  · rw [b_64.1] at this
    exact ⟨fun _ => this, fun z => absurd rfl z⟩
  · rw [b_64.2] at this
    exact ⟨fun z => absurd z (by decide), fun _ => this⟩
theorem q_l_blockLength {x : Int32} : (qLen (bA X) x).1 ≤ 1 := by
  unfold qLen
  repeat' split
  all_goals first | exact Nat.le_refl _ | exact Nat.zero_le _ | exact (by decide : (1 : Nat) ≤ 2)
theorem q_l_blockState {x : Int32} : (qState (bA X) x).1 ≤ 1 := by
  unfold qState
  repeat' split
  all_goals first | exact Nat.le_refl _ | exact Nat.zero_le _ | exact (by decide : (1 : Nat) ≤ 2)
theorem q_l_trainAt {x : Int32} : (qAt (bA X) x).1 ≤ 2 := by
  unfold qAt
  repeat' split
  all_goals first | exact Nat.le_refl _ | exact Nat.zero_le _ | exact (by decide : (1 : Nat) ≤ 2)
theorem q_l_liesLeft {x : Int32} : (qLies (bA X) x).1 ≤ 1 := by
  unfold qLies
  repeat' split
  all_goals first | exact Nat.le_refl _ | exact Nat.zero_le _ | exact (by decide : (1 : Nat) ≤ 2)
theorem q_b_liesLeft {x : Int32} : (qLies (bA X) x).2 = nI 0 ∨ (qLies (bA X) x).2 = nI 1 := by
  unfold qLies
  repeat' split
  all_goals first | exact Or.inl rfl | exact Or.inr rfl | (dsimp only; split; exact Or.inl rfl; exact Or.inr rfl) | (dsimp only; split; exact Or.inr rfl; exact Or.inl rfl)
theorem q_l_lockedBy {x : Int32} : (qLock (bA X) x).1 ≤ 2 := by
  unfold qLock
  repeat' split
  all_goals first | exact Nat.le_refl _ | exact Nat.zero_le _ | exact (by decide : (1 : Nat) ≤ 2)
theorem q_l_routeLength {x y : Int32} : (qRL (bA X) x y).1 ≤ 2 := by
  unfold qRL
  repeat' split
  all_goals first | exact Nat.le_refl _ | exact Nat.zero_le _ | exact (by decide : (1 : Nat) ≤ 2)
theorem q_l_routeLengthByPaths {x y : Int32} : (qRL (bA X) x y).1 ≤ 2 := by
  unfold qRL
  repeat' split
  all_goals first | exact Nat.le_refl _ | exact Nat.zero_le _ | exact (by decide : (1 : Nat) ≤ 2)
theorem q_l_routeBlock {x y z : Int32} : (qRB (bA X) x y z).1 ≤ 2 := by
  unfold qRB
  repeat' split
  all_goals first | exact Nat.le_refl _ | exact Nat.zero_le _ | exact (by decide : (1 : Nat) ≤ 2)
theorem q_l_paths {x y : Int32} : (qPaths (bA X) x y).1 ≤ 1 := by
  unfold qPaths
  repeat' split
  all_goals first | exact Nat.le_refl _ | exact Nat.zero_le _ | exact (by decide : (1 : Nat) ≤ 2)
theorem q_l_blockOf {x : Int32} : (qT (fun t => nI (tb t)) (bA X) x).1 ≤ 1 := by
  unfold qT
  repeat' split
  all_goals first | exact Nat.le_refl _ | exact Nat.zero_le _ | exact (by decide : (1 : Nat) ≤ 2)
theorem q_l_destination {x : Int32} : (qT (fun t => nI (td t)) (bA X) x).1 ≤ 1 := by
  unfold qT
  repeat' split
  all_goals first | exact Nat.le_refl _ | exact Nat.zero_le _ | exact (by decide : (1 : Nat) ≤ 2)
theorem q_l_hasRoute {x : Int32} : (qT (fun t => if tr t = [] then nI 0 else nI 1) (bA X) x).1 ≤ 1 := by
  unfold qT
  repeat' split
  all_goals first | exact Nat.le_refl _ | exact Nat.zero_le _ | exact (by decide : (1 : Nat) ≤ 2)
theorem q_b_hasRoute {x : Int32} : (qT (fun t => if tr t = [] then nI 0 else nI 1) (bA X) x).2 = nI 0 ∨ (qT (fun t => if tr t = [] then nI 0 else nI 1) (bA X) x).2 = nI 1 := by
  unfold qT
  repeat' split
  all_goals first | exact Or.inl rfl | exact Or.inr rfl | (dsimp only; split; exact Or.inl rfl; exact Or.inr rfl) | (dsimp only; split; exact Or.inr rfl; exact Or.inl rfl)
theorem q_l_isClear {x : Int32} : (qT (fun t => if can (bA X) t = true then nI 1 else nI 0) (bA X) x).1 ≤ 1 := by
  unfold qT
  repeat' split
  all_goals first | exact Nat.le_refl _ | exact Nat.zero_le _ | exact (by decide : (1 : Nat) ≤ 2)
theorem q_b_isClear {x : Int32} : (qT (fun t => if can (bA X) t = true then nI 1 else nI 0) (bA X) x).2 = nI 0 ∨ (qT (fun t => if can (bA X) t = true then nI 1 else nI 0) (bA X) x).2 = nI 1 := by
  unfold qT
  repeat' split
  all_goals first | exact Or.inl rfl | exact Or.inr rfl | (dsimp only; split; exact Or.inl rfl; exact Or.inr rfl) | (dsimp only; split; exact Or.inr rfl; exact Or.inl rfl)
theorem q_l_minutesUntilNext {x : Int32} : (qR (fun t => nI (tu t - aM (bA X))) (bA X) x).1 ≤ 1 := by
  unfold qR
  repeat' split
  all_goals first | exact Nat.le_refl _ | exact Nat.zero_le _ | exact (by decide : (1 : Nat) ≤ 2)
theorem q_l_minutesUntilArrival {x : Int32} : (qR (fun t => nI (rem (bA X) t)) (bA X) x).1 ≤ 1 := by
  unfold qR
  repeat' split
  all_goals first | exact Nat.le_refl _ | exact Nat.zero_le _ | exact (by decide : (1 : Nat) ≤ 2)
theorem q_l_delay {x : Int32} : (qT (fun t => nI (tl t)) (bA X) x).1 ≤ 1 := by
  unfold qT
  repeat' split
  all_goals first | exact Nat.le_refl _ | exact Nat.zero_le _ | exact (by decide : (1 : Nat) ≤ 2)
theorem q_l_queued {x : Int32} : (qQ (bA X) x).1 ≤ 1 := by
  unfold qQ
  repeat' split
  all_goals first | exact Nat.le_refl _ | exact Nat.zero_le _ | exact (by decide : (1 : Nat) ≤ 2)
theorem q_l_waitsFor {x y : Int32} : (qW (bA X) x y).1 ≤ 1 := by
  unfold qW
  repeat' split
  all_goals first | exact Nat.le_refl _ | exact Nat.zero_le _ | exact (by decide : (1 : Nat) ≤ 2)
theorem q_b_waitsFor {x y : Int32} : (qW (bA X) x y).2 = nI 0 ∨ (qW (bA X) x y).2 = nI 1 := by
  unfold qW
  repeat' split
  all_goals first | exact Or.inl rfl | exact Or.inr rfl | (dsimp only; split; exact Or.inl rfl; exact Or.inr rfl) | (dsimp only; split; exact Or.inr rfl; exact Or.inl rfl)
theorem q_l_conflict {x y : Int32} : (qC (bA X) x y).1 ≤ 2 := by
  unfold qC
  repeat' split
  all_goals first | exact Nat.le_refl _ | exact Nat.zero_le _ | exact (by decide : (1 : Nat) ≤ 2)
theorem q_b_conflict {x y : Int32} : (qC (bA X) x y).2 = nI 0 ∨ (qC (bA X) x y).2 = nI 1 := by
  unfold qC
  repeat' split
  all_goals first | exact Or.inl rfl | exact Or.inr rfl | (dsimp only; split; exact Or.inl rfl; exact Or.inr rfl) | (dsimp only; split; exact Or.inr rfl; exact Or.inl rfl)
theorem q_l_refusalReason : ((if bY X = 0 then (1, nI 0) else (0, nI (bY X)) : QA)).1 ≤ 1 := by
  repeat' split
  all_goals first | exact Nat.le_refl _ | exact Nat.zero_le _ | exact (by decide : (1 : Nat) ≤ 2)
theorem q_l_refusalBlock : (qO (bB X)).1 ≤ 1 := by
  unfold qO
  repeat' split
  all_goals first | exact Nat.le_refl _ | exact Nat.zero_le _ | exact (by decide : (1 : Nat) ≤ 2)
theorem q_l_errorPosition : (qO (bE X)).1 ≤ 1 := by
  unfold qO
  repeat' split
  all_goals first | exact Nat.le_refl _ | exact Nat.zero_le _ | exact (by decide : (1 : Nat) ≤ 2)
theorem q_l_failedCommand : (qO (bX X)).1 ≤ 1 := by
  unfold qO
  repeat' split
  all_goals first | exact Nat.le_refl _ | exact Nat.zero_le _ | exact (by decide : (1 : Nat) ≤ 2)
theorem q_l_charAt {x : Int32} : (qCh X x).1 ≤ 1 := by
  unfold qCh
  repeat' split
  all_goals first | exact Nat.le_refl _ | exact Nat.zero_le _ | exact (by decide : (1 : Nat) ≤ 2)
theorem l_addBlock (I : LI w X S L h) (hw : w + 12 ≤ 6200) {x : Int32} (k : CW h (cgd (oBlock (bA X) x) X) ((oBlock (bA X) x).1, (oBlock (bA X) x).2.1) K) : wL_addBlock 64 x 619 h K := by
  have gk := I.1.gk I.2.2.1
  have ip := gk.2.2
  have bn : BN (bA X) := I.2.2.1.1.2.bn (by omega)
  have xb := I.2.2.2.1
  have hC : aC (bA X) ≤ 9000 := by have := bn.1; omega
  have im := gk.ims hC
  have hle : (oBlock (bA X) x).1 ≤ 2 := (rg_block _ gk.1).1
  refine ⟨I.1.o, c9_addBlock I.1 I.2.2.1 (by omega) (fun e g f r => k.put f.lcl I.2.2.2.2.2.1 r e rfl) (fun j e g f r => ?_)⟩
  have hj : j < 2 := by omega
  rcases (show j = 0 ∨ j = 1 by omega) with hj | hj
  · subst hj; exact Or.inl ⟨by first | rfl | decide, k.bad f.lcl r e⟩
  · subst hj; exact Or.inr ⟨by first | rfl | decide, k.bad f.lcl r e⟩
theorem l_addPoint (I : LI w X S L h) (hw : w + 12 ≤ 6200) {x y z : Int32} (k : CW h (cgd (oPoint (bA X) x y z) X) ((oPoint (bA X) x y z).1, (oPoint (bA X) x y z).2.1) K) : wL_addPoint 64 x y z 619 h K := by
  have gk := I.1.gk I.2.2.1
  have ip := gk.2.2
  have bn : BN (bA X) := I.2.2.1.1.2.bn (by omega)
  have xb := I.2.2.2.1
  have hC : aC (bA X) ≤ 9000 := by have := bn.1; omega
  have im := gk.ims hC
  have hle : (oPoint (bA X) x y z).1 ≤ 3 := (rg_point _ _ _ gk.1).1
  refine ⟨I.1.o, c9_addPoint I.1 I.2.2.1 (by omega) (fun e g f r => k.put f.lcl I.2.2.2.2.2.1 r e rfl) (fun j e g f r => ?_)⟩
  have hj : j < 3 := by omega
  rcases (show j = 0 ∨ j = 1 ∨ j = 2 by omega) with hj | hj | hj
  · subst hj; exact Or.inl ⟨by first | rfl | decide, k.bad f.lcl r e⟩
  · subst hj; exact Or.inr (Or.inl ⟨by first | rfl | decide, k.bad f.lcl r e⟩)
  · subst hj; exact Or.inr (Or.inr ⟨by first | rfl | decide, k.bad f.lcl r e⟩)
theorem l_addLink (I : LI w X S L h) (hw : w + 12 ≤ 6200) {x y : Int32} (k : CW h (cgd (oLink (bA X) x y) X) ((oLink (bA X) x y).1, (oLink (bA X) x y).2.1) K) : wL_addLink 64 x y 619 h K := by
  have gk := I.1.gk I.2.2.1
  have ip := gk.2.2
  have bn : BN (bA X) := I.2.2.1.1.2.bn (by omega)
  have xb := I.2.2.2.1
  have hC : aC (bA X) ≤ 9000 := by have := bn.1; omega
  have im := gk.ims hC
  have hle : (oLink (bA X) x y).1 ≤ 3 := (rg_link _ _ gk.1).1
  refine ⟨I.1.o, c9_addLink I.1 I.2.2.1 (by omega) (fun e g f r => k.put f.lcl I.2.2.2.2.2.1 r e rfl) (fun j e g f r => ?_)⟩
  have hj : j < 3 := by omega
  rcases (show j = 0 ∨ j = 1 ∨ j = 2 by omega) with hj | hj | hj
  · subst hj; exact Or.inl ⟨by first | rfl | decide, k.bad f.lcl r e⟩
  · subst hj; exact Or.inr (Or.inl ⟨by first | rfl | decide, k.bad f.lcl r e⟩)
  · subst hj; exact Or.inr (Or.inr ⟨by first | rfl | decide, k.bad f.lcl r e⟩)
theorem l_shut (I : LI w X S L h) (hw : w + 12 ≤ 6200) {x : Int32} (k : CW h (cgd (oShut (bA X) x) X) ((oShut (bA X) x).1, (oShut (bA X) x).2.1) K) : wL_shut 64 x 619 h K := by
  have gk := I.1.gk I.2.2.1
  have ip := gk.2.2
  have bn : BN (bA X) := I.2.2.1.1.2.bn (by omega)
  have xb := I.2.2.2.1
  have hC : aC (bA X) ≤ 9000 := by have := bn.1; omega
  have im := gk.ims hC
  have hle : (oShut (bA X) x).1 ≤ 2 := (rg_shut _).1
  refine ⟨I.1.o, c9_shut I.1 I.2.2.1 (by omega) (fun e g f r => k.put f.lcl I.2.2.2.2.2.1 r e rfl) (fun j e g f r => ?_)⟩
  have hj : j < 2 := by omega
  rcases (show j = 0 ∨ j = 1 by omega) with hj | hj
  · subst hj; exact Or.inl ⟨by first | rfl | decide, k.bad f.lcl r e⟩
  · subst hj; exact Or.inr ⟨by first | rfl | decide, k.bad f.lcl r e⟩
theorem l_open (I : LI w X S L h) (hw : w + 12 ≤ 6200) {x : Int32} (k : CW h (cgd (oOpen (bA X) x) X) ((oOpen (bA X) x).1, (oOpen (bA X) x).2.1) K) : wL_open 64 x 619 h K := by
  have gk := I.1.gk I.2.2.1
  have ip := gk.2.2
  have bn : BN (bA X) := I.2.2.1.1.2.bn (by omega)
  have xb := I.2.2.2.1
  have hC : aC (bA X) ≤ 9000 := by have := bn.1; omega
  have im := gk.ims hC
  have hle : (oOpen (bA X) x).1 ≤ 2 := (rg_open _).1
  refine ⟨I.1.o, c9_open I.1 I.2.2.1 (by omega) (fun e g f r => k.put f.lcl I.2.2.2.2.2.1 r e rfl) (fun j e g f r => ?_)⟩
  have hj : j < 2 := by omega
  rcases (show j = 0 ∨ j = 1 by omega) with hj | hj
  · subst hj; exact Or.inl ⟨by first | rfl | decide, k.bad f.lcl r e⟩
  · subst hj; exact Or.inr ⟨by first | rfl | decide, k.bad f.lcl r e⟩
theorem l_throwPoint (I : LI w X S L h) (hw : w + 12 ≤ 6200) {x : Int32} (k : CW h (cgd (oThrow (bA X) x) X) ((oThrow (bA X) x).1, (if (oThrow (bA X) x).2.1 = nI 1 then nI 1 else nI 0)) K) : wL_throwPoint 64 x 619 h K := by
  have gk := I.1.gk I.2.2.1
  have ip := gk.2.2
  have bn : BN (bA X) := I.2.2.1.1.2.bn (by omega)
  have xb := I.2.2.2.1
  have hC : aC (bA X) ≤ 9000 := by have := bn.1; omega
  have im := gk.ims hC
  have hle : (oThrow (bA X) x).1 ≤ 2 := (rg_throw _).1
  refine ⟨I.1.o, c9_throwPoint I.1 I.2.2.1 (by omega) (fun e g f r => k.putB f.lcl I.2.2.2.2.2.1 r e rfl (by split; exact Or.inr rfl; exact Or.inl rfl)) (fun j e g f r => ?_)⟩
  have hj : j < 2 := by omega
  rcases (show j = 0 ∨ j = 1 by omega) with hj | hj
  · subst hj; exact Or.inl ⟨by first | rfl | decide, k.bad f.lcl r e⟩
  · subst hj; exact Or.inr ⟨by first | rfl | decide, k.bad f.lcl r e⟩
theorem l_addTrain (I : LI w X S L h) (hw : w + 12 ≤ 6200) {x y : Int32} (k : CW h (cgd (oTrain (bA X) x y) X) ((oTrain (bA X) x y).1, (oTrain (bA X) x y).2.1) K) : wL_addTrain 64 x y 619 h K := by
  have gk := I.1.gk I.2.2.1
  have ip := gk.2.2
  have bn : BN (bA X) := I.2.2.1.1.2.bn (by omega)
  have xb := I.2.2.2.1
  have hC : aC (bA X) ≤ 9000 := by have := bn.1; omega
  have im := gk.ims hC
  have hle : (oTrain (bA X) x y).1 ≤ 3 := (rg_train _ _ bn).1
  refine ⟨I.1.o, c9_addTrain I.1 I.2.2.1 (by omega) (fun e g f r => k.put f.lcl I.2.2.2.2.2.1 r e rfl) (fun j e g f r => ?_)⟩
  have hj : j < 3 := by omega
  rcases (show j = 0 ∨ j = 1 ∨ j = 2 by omega) with hj | hj | hj
  · subst hj; exact Or.inl ⟨by first | rfl | decide, k.bad f.lcl r e⟩
  · subst hj; exact Or.inr (Or.inl ⟨by first | rfl | decide, k.bad f.lcl r e⟩)
  · subst hj; exact Or.inr (Or.inr ⟨by first | rfl | decide, k.bad f.lcl r e⟩)
theorem l_setRoute (I : LI w X S L h) (hw : w + 12 ≤ 6200) {x : Int32} (k : CW h (cgS (bA X) x X) ((oSet (bA X) x).1, (oSet (bA X) x).2.1) K) : wL_setRoute 64 x 619 h K := by
  have gk := I.1.gk I.2.2.1
  have ip := gk.2.2
  have bn : BN (bA X) := I.2.2.1.1.2.bn (by omega)
  have xb := I.2.2.2.1
  have hC : aC (bA X) ≤ 9000 := by have := bn.1; omega
  have im := gk.ims hC
  have hle : (oSet (bA X) x).1 ≤ 3 := (rg_set _ gk).1
  refine ⟨I.1.o, c9_setRoute I.1 I.2.2.1 (by omega) (fun e g f r => k.put f.lcl I.2.2.2.2.2.1 r e rfl) (fun j e g f r => ?_)⟩
  have hj : j < 3 := by omega
  rcases (show j = 0 ∨ j = 1 ∨ j = 2 by omega) with hj | hj | hj
  · subst hj; exact Or.inl ⟨by first | rfl | decide, k.bad f.lcl r e⟩
  · subst hj; exact Or.inr (Or.inl ⟨by first | rfl | decide, k.bad f.lcl r e⟩)
  · subst hj; exact Or.inr (Or.inr ⟨by first | rfl | decide, k.bad f.lcl r e⟩)
theorem l_releaseRoute (I : LI w X S L h) (hw : w + 12 ≤ 6200) {x : Int32} (k : CW h (cgd (oFree (bA X) x) X) ((oFree (bA X) x).1, (oFree (bA X) x).2.1) K) : wL_releaseRoute 64 x 619 h K := by
  have gk := I.1.gk I.2.2.1
  have ip := gk.2.2
  have bn : BN (bA X) := I.2.2.1.1.2.bn (by omega)
  have xb := I.2.2.2.1
  have hC : aC (bA X) ≤ 9000 := by have := bn.1; omega
  have im := gk.ims hC
  have hle : (oFree (bA X) x).1 ≤ 2 := (rg_free _ ip).1
  refine ⟨I.1.o, c9_releaseRoute I.1 I.2.2.1 (by omega) (fun e g f r => k.put f.lcl I.2.2.2.2.2.1 r e rfl) (fun j e g f r => ?_)⟩
  have hj : j < 2 := by omega
  rcases (show j = 0 ∨ j = 1 by omega) with hj | hj
  · subst hj; exact Or.inl ⟨by first | rfl | decide, k.bad f.lcl r e⟩
  · subst hj; exact Or.inr ⟨by first | rfl | decide, k.bad f.lcl r e⟩
theorem l_pass (I : LI w X S L h) (hw : w + 12 ≤ 6200) {x : Int32} (k : CW h (cgd (oPass (bA X) x) X) ((oPass (bA X) x).1, (oPass (bA X) x).2.1) K) : wL_pass 64 x 619 h K := by
  have gk := I.1.gk I.2.2.1
  have ip := gk.2.2
  have bn : BN (bA X) := I.2.2.1.1.2.bn (by omega)
  have xb := I.2.2.2.1
  have hC : aC (bA X) ≤ 9000 := by have := bn.1; omega
  have im := gk.ims hC
  have hle : (oPass (bA X) x).1 ≤ 1 := (rg_pass _ gk I.2.2.1.1.2 (by omega)).1
  refine ⟨I.1.o, c9_pass I.1 I.2.2.1 (by omega) (fun e g f r => k.put f.lcl I.2.2.2.2.2.1 r e rfl) (fun j e g f r => ?_)⟩
  have hj : j < 1 := by omega
  have hj : j = 0 := by omega
  subst hj
  exact ⟨by first | rfl | decide, k.bad f.lcl r e⟩
theorem l_blockLength (I : LI w X S L h) (hw : w + 12 ≤ 6200) {x : Int32} (k : CW h X (qLen (bA X) x) K) : wL_blockLength 64 x 619 h K := by
  have gk := I.1.gk I.2.2.1
  have ip := gk.2.2
  have bn : BN (bA X) := I.2.2.1.1.2.bn (by omega)
  have xb := I.2.2.2.1
  have hC : aC (bA X) ≤ 9000 := by have := bn.1; omega
  have im := gk.ims hC
  have hle : (qLen (bA X) x).1 ≤ 1 := q_l_blockLength
  refine ⟨I.1.o, c9_blockLength I.1  ⟨fun e => k.put (lcl.rf h) I.2.2.2.2.2.1 I.1 e rfl, fun j e => ?_⟩⟩
  have e : (qLen (bA X) x).1 = j + 1 := e
  have hj : j < 1 := by omega
  have hj : j = 0 := by omega
  subst hj
  exact ⟨rfl, k.bad (lcl.rf h) I.1 e⟩
theorem l_blockState (I : LI w X S L h) (hw : w + 12 ≤ 6200) {x : Int32} (k : CW h X (qState (bA X) x) K) : wL_blockState 64 x 619 h K := by
  have gk := I.1.gk I.2.2.1
  have ip := gk.2.2
  have bn : BN (bA X) := I.2.2.1.1.2.bn (by omega)
  have xb := I.2.2.2.1
  have hC : aC (bA X) ≤ 9000 := by have := bn.1; omega
  have im := gk.ims hC
  have hle : (qState (bA X) x).1 ≤ 1 := q_l_blockState
  refine ⟨I.1.o, c9_blockState I.1 ip ⟨fun e => k.put (lcl.rf h) I.2.2.2.2.2.1 I.1 e rfl, fun j e => ?_⟩⟩
  have e : (qState (bA X) x).1 = j + 1 := e
  have hj : j < 1 := by omega
  have hj : j = 0 := by omega
  subst hj
  exact ⟨rfl, k.bad (lcl.rf h) I.1 e⟩
theorem l_trainAt (I : LI w X S L h) (hw : w + 12 ≤ 6200) {x : Int32} (k : CW h X (qAt (bA X) x) K) : wL_trainAt 64 x 619 h K := by
  have gk := I.1.gk I.2.2.1
  have ip := gk.2.2
  have bn : BN (bA X) := I.2.2.1.1.2.bn (by omega)
  have xb := I.2.2.2.1
  have hC : aC (bA X) ≤ 9000 := by have := bn.1; omega
  have im := gk.ims hC
  have hle : (qAt (bA X) x).1 ≤ 2 := q_l_trainAt
  refine ⟨I.1.o, c9_trainAt I.1 ip bn ⟨fun e => k.put (lcl.rf h) I.2.2.2.2.2.1 I.1 e rfl, fun j e => ?_⟩⟩
  have e : (qAt (bA X) x).1 = j + 1 := e
  have hj : j < 2 := by omega
  rcases (show j = 0 ∨ j = 1 by omega) with hj | hj
  · subst hj; exact Or.inl ⟨rfl, k.bad (lcl.rf h) I.1 e⟩
  · subst hj; exact Or.inr ⟨rfl, k.bad (lcl.rf h) I.1 e⟩
theorem l_liesLeft (I : LI w X S L h) (hw : w + 12 ≤ 6200) {x : Int32} (k : CW h X (qLies (bA X) x) K) : wL_liesLeft 64 x 619 h K := by
  have gk := I.1.gk I.2.2.1
  have ip := gk.2.2
  have bn : BN (bA X) := I.2.2.1.1.2.bn (by omega)
  have xb := I.2.2.2.1
  have hC : aC (bA X) ≤ 9000 := by have := bn.1; omega
  have im := gk.ims hC
  have hle : (qLies (bA X) x).1 ≤ 1 := q_l_liesLeft
  refine ⟨I.1.o, c9_liesLeft I.1  ⟨fun e => k.putB (lcl.rf h) I.2.2.2.2.2.1 I.1 e rfl (q_b_liesLeft), fun j e => ?_⟩⟩
  have e : (qLies (bA X) x).1 = j + 1 := e
  have hj : j < 1 := by omega
  have hj : j = 0 := by omega
  subst hj
  exact ⟨rfl, k.bad (lcl.rf h) I.1 e⟩
theorem l_lockedBy (I : LI w X S L h) (hw : w + 12 ≤ 6200) {x : Int32} (k : CW h X (qLock (bA X) x) K) : wL_lockedBy 64 x 619 h K := by
  have gk := I.1.gk I.2.2.1
  have ip := gk.2.2
  have bn : BN (bA X) := I.2.2.1.1.2.bn (by omega)
  have xb := I.2.2.2.1
  have hC : aC (bA X) ≤ 9000 := by have := bn.1; omega
  have im := gk.ims hC
  have hle : (qLock (bA X) x).1 ≤ 2 := q_l_lockedBy
  refine ⟨I.1.o, c9_lockedBy I.1 ip bn ⟨fun e => k.put (lcl.rf h) I.2.2.2.2.2.1 I.1 e rfl, fun j e => ?_⟩⟩
  have e : (qLock (bA X) x).1 = j + 1 := e
  have hj : j < 2 := by omega
  rcases (show j = 0 ∨ j = 1 by omega) with hj | hj
  · subst hj; exact Or.inl ⟨rfl, k.bad (lcl.rf h) I.1 e⟩
  · subst hj; exact Or.inr ⟨rfl, k.bad (lcl.rf h) I.1 e⟩
theorem l_routeLength (I : LI w X S L h) (hw : w + 12 ≤ 6200) {x y : Int32} (k : CW h X (qRL (bA X) x y) K) : wL_routeLength 64 x y 619 h K := by
  have gk := I.1.gk I.2.2.1
  have ip := gk.2.2
  have bn : BN (bA X) := I.2.2.1.1.2.bn (by omega)
  have xb := I.2.2.2.1
  have hC : aC (bA X) ≤ 9000 := by have := bn.1; omega
  have im := gk.ims hC
  have hle : (qRL (bA X) x y).1 ≤ 2 := q_l_routeLength
  refine ⟨I.1.o, c9_routeLength I.1  ⟨fun e => k.put (lcl.rf h) I.2.2.2.2.2.1 I.1 e rfl, fun j e => ?_⟩⟩
  have e : (qRL (bA X) x y).1 = j + 1 := e
  have hj : j < 2 := by omega
  rcases (show j = 0 ∨ j = 1 by omega) with hj | hj
  · subst hj; exact Or.inl ⟨rfl, k.bad (lcl.rf h) I.1 e⟩
  · subst hj; exact Or.inr ⟨rfl, k.bad (lcl.rf h) I.1 e⟩
theorem l_routeLengthByPaths (I : LI w X S L h) (hw : w + 12 ≤ 6200) {x y : Int32} (k : CW h X (qRL (bA X) x y) K) : wL_routeLengthByPaths 64 x y 619 h K := by
  have gk := I.1.gk I.2.2.1
  have ip := gk.2.2
  have bn : BN (bA X) := I.2.2.1.1.2.bn (by omega)
  have xb := I.2.2.2.1
  have hC : aC (bA X) ≤ 9000 := by have := bn.1; omega
  have im := gk.ims hC
  have hle : (qRL (bA X) x y).1 ≤ 2 := q_l_routeLengthByPaths
  refine ⟨I.1.o, c9_routeLengthByPaths I.1  ⟨fun e => k.put (lcl.rf h) I.2.2.2.2.2.1 I.1 e rfl, fun j e => ?_⟩⟩
  have e : (qRL (bA X) x y).1 = j + 1 := e
  have hj : j < 2 := by omega
  rcases (show j = 0 ∨ j = 1 by omega) with hj | hj
  · subst hj; exact Or.inl ⟨rfl, k.bad (lcl.rf h) I.1 e⟩
  · subst hj; exact Or.inr ⟨rfl, k.bad (lcl.rf h) I.1 e⟩
theorem l_routeBlock (I : LI w X S L h) (hw : w + 12 ≤ 6200) {x y z : Int32} (k : CW h X (qRB (bA X) x y z) K) : wL_routeBlock 64 x y z 619 h K := by
  have gk := I.1.gk I.2.2.1
  have ip := gk.2.2
  have bn : BN (bA X) := I.2.2.1.1.2.bn (by omega)
  have xb := I.2.2.2.1
  have hC : aC (bA X) ≤ 9000 := by have := bn.1; omega
  have im := gk.ims hC
  have hle : (qRB (bA X) x y z).1 ≤ 2 := q_l_routeBlock
  refine ⟨I.1.o, c9_routeBlock I.1  ⟨fun e => k.put (lcl.rf h) I.2.2.2.2.2.1 I.1 e rfl, fun j e => ?_⟩⟩
  have e : (qRB (bA X) x y z).1 = j + 1 := e
  have hj : j < 2 := by omega
  rcases (show j = 0 ∨ j = 1 by omega) with hj | hj
  · subst hj; exact Or.inl ⟨rfl, k.bad (lcl.rf h) I.1 e⟩
  · subst hj; exact Or.inr ⟨rfl, k.bad (lcl.rf h) I.1 e⟩
theorem l_paths (I : LI w X S L h) (hw : w + 12 ≤ 6200) {x y : Int32} (k : CW h X (qPaths (bA X) x y) K) : wL_paths 64 x y 619 h K := by
  have gk := I.1.gk I.2.2.1
  have ip := gk.2.2
  have bn : BN (bA X) := I.2.2.1.1.2.bn (by omega)
  have xb := I.2.2.2.1
  have hC : aC (bA X) ≤ 9000 := by have := bn.1; omega
  have im := gk.ims hC
  have hle : (qPaths (bA X) x y).1 ≤ 1 := q_l_paths
  refine ⟨I.1.o, c9_paths I.1  ⟨fun e => k.put (lcl.rf h) I.2.2.2.2.2.1 I.1 e rfl, fun j e => ?_⟩⟩
  have e : (qPaths (bA X) x y).1 = j + 1 := e
  have hj : j < 1 := by omega
  have hj : j = 0 := by omega
  subst hj
  exact ⟨rfl, k.bad (lcl.rf h) I.1 e⟩
theorem l_blockOf (I : LI w X S L h) (hw : w + 12 ≤ 6200) {x : Int32} (k : CW h X (qT (fun t => nI (tb t)) (bA X) x) K) : wL_blockOf 64 x 619 h K := by
  have gk := I.1.gk I.2.2.1
  have ip := gk.2.2
  have bn : BN (bA X) := I.2.2.1.1.2.bn (by omega)
  have xb := I.2.2.2.1
  have hC : aC (bA X) ≤ 9000 := by have := bn.1; omega
  have im := gk.ims hC
  have hle : (qT (fun t => nI (tb t)) (bA X) x).1 ≤ 1 := q_l_blockOf
  refine ⟨I.1.o, c9_blockOf I.1 ip ⟨fun e => k.put (lcl.rf h) I.2.2.2.2.2.1 I.1 e rfl, fun j e => ?_⟩⟩
  have e : (qT (fun t => nI (tb t)) (bA X) x).1 = j + 1 := e
  have hj : j < 1 := by omega
  have hj : j = 0 := by omega
  subst hj
  exact ⟨rfl, k.bad (lcl.rf h) I.1 e⟩
theorem l_destination (I : LI w X S L h) (hw : w + 12 ≤ 6200) {x : Int32} (k : CW h X (qT (fun t => nI (td t)) (bA X) x) K) : wL_destination 64 x 619 h K := by
  have gk := I.1.gk I.2.2.1
  have ip := gk.2.2
  have bn : BN (bA X) := I.2.2.1.1.2.bn (by omega)
  have xb := I.2.2.2.1
  have hC : aC (bA X) ≤ 9000 := by have := bn.1; omega
  have im := gk.ims hC
  have hle : (qT (fun t => nI (td t)) (bA X) x).1 ≤ 1 := q_l_destination
  refine ⟨I.1.o, c9_destination I.1 ip ⟨fun e => k.put (lcl.rf h) I.2.2.2.2.2.1 I.1 e rfl, fun j e => ?_⟩⟩
  have e : (qT (fun t => nI (td t)) (bA X) x).1 = j + 1 := e
  have hj : j < 1 := by omega
  have hj : j = 0 := by omega
  subst hj
  exact ⟨rfl, k.bad (lcl.rf h) I.1 e⟩
theorem l_hasRoute (I : LI w X S L h) (hw : w + 12 ≤ 6200) {x : Int32} (k : CW h X (qT (fun t => if tr t = [] then nI 0 else nI 1) (bA X) x) K) : wL_hasRoute 64 x 619 h K := by
  have gk := I.1.gk I.2.2.1
  have ip := gk.2.2
  have bn : BN (bA X) := I.2.2.1.1.2.bn (by omega)
  have xb := I.2.2.2.1
  have hC : aC (bA X) ≤ 9000 := by have := bn.1; omega
  have im := gk.ims hC
  have hle : (qT (fun t => if tr t = [] then nI 0 else nI 1) (bA X) x).1 ≤ 1 := q_l_hasRoute
  refine ⟨I.1.o, c9_hasRoute I.1 ip ⟨fun e => k.putB (lcl.rf h) I.2.2.2.2.2.1 I.1 e rfl (q_b_hasRoute), fun j e => ?_⟩⟩
  have e : (qT (fun t => if tr t = [] then nI 0 else nI 1) (bA X) x).1 = j + 1 := e
  have hj : j < 1 := by omega
  have hj : j = 0 := by omega
  subst hj
  exact ⟨rfl, k.bad (lcl.rf h) I.1 e⟩
theorem l_isClear (I : LI w X S L h) (hw : w + 12 ≤ 6200) {x : Int32} (k : CW h X (qT (fun t => if can (bA X) t = true then nI 1 else nI 0) (bA X) x) K) : wL_isClear 64 x 619 h K := by
  have gk := I.1.gk I.2.2.1
  have ip := gk.2.2
  have bn : BN (bA X) := I.2.2.1.1.2.bn (by omega)
  have xb := I.2.2.2.1
  have hC : aC (bA X) ≤ 9000 := by have := bn.1; omega
  have im := gk.ims hC
  have hle : (qT (fun t => if can (bA X) t = true then nI 1 else nI 0) (bA X) x).1 ≤ 1 := q_l_isClear
  refine ⟨I.1.o, c9_isClear I.1 ip ⟨fun e => k.putB (lcl.rf h) I.2.2.2.2.2.1 I.1 e rfl (q_b_isClear), fun j e => ?_⟩⟩
  have e : (qT (fun t => if can (bA X) t = true then nI 1 else nI 0) (bA X) x).1 = j + 1 := e
  have hj : j < 1 := by omega
  have hj : j = 0 := by omega
  subst hj
  exact ⟨rfl, k.bad (lcl.rf h) I.1 e⟩
theorem l_minutesUntilNext (I : LI w X S L h) (hw : w + 12 ≤ 6200) {x : Int32} (k : CW h X (qR (fun t => nI (tu t - aM (bA X))) (bA X) x) K) : wL_minutesUntilNext 64 x 619 h K := by
  have gk := I.1.gk I.2.2.1
  have ip := gk.2.2
  have bn : BN (bA X) := I.2.2.1.1.2.bn (by omega)
  have xb := I.2.2.2.1
  have hC : aC (bA X) ≤ 9000 := by have := bn.1; omega
  have im := gk.ims hC
  have hle : (qR (fun t => nI (tu t - aM (bA X))) (bA X) x).1 ≤ 1 := q_l_minutesUntilNext
  refine ⟨I.1.o, c9_minutesUntilNext I.1 ip ⟨fun e => k.put (lcl.rf h) I.2.2.2.2.2.1 I.1 e rfl, fun j e => ?_⟩⟩
  have e : (qR (fun t => nI (tu t - aM (bA X))) (bA X) x).1 = j + 1 := e
  have hj : j < 1 := by omega
  have hj : j = 0 := by omega
  subst hj
  exact ⟨rfl, k.bad (lcl.rf h) I.1 e⟩
theorem l_minutesUntilArrival (I : LI w X S L h) (hw : w + 12 ≤ 6200) {x : Int32} (k : CW h X (qR (fun t => nI (rem (bA X) t)) (bA X) x) K) : wL_minutesUntilArrival 64 x 619 h K := by
  have gk := I.1.gk I.2.2.1
  have ip := gk.2.2
  have bn : BN (bA X) := I.2.2.1.1.2.bn (by omega)
  have xb := I.2.2.2.1
  have hC : aC (bA X) ≤ 9000 := by have := bn.1; omega
  have im := gk.ims hC
  have hle : (qR (fun t => nI (rem (bA X) t)) (bA X) x).1 ≤ 1 := q_l_minutesUntilArrival
  refine ⟨I.1.o, c9_minutesUntilArrival I.1 ip ⟨fun e => k.put (lcl.rf h) I.2.2.2.2.2.1 I.1 e rfl, fun j e => ?_⟩⟩
  have e : (qR (fun t => nI (rem (bA X) t)) (bA X) x).1 = j + 1 := e
  have hj : j < 1 := by omega
  have hj : j = 0 := by omega
  subst hj
  exact ⟨rfl, k.bad (lcl.rf h) I.1 e⟩
theorem l_delay (I : LI w X S L h) (hw : w + 12 ≤ 6200) {x : Int32} (k : CW h X (qT (fun t => nI (tl t)) (bA X) x) K) : wL_delay 64 x 619 h K := by
  have gk := I.1.gk I.2.2.1
  have ip := gk.2.2
  have bn : BN (bA X) := I.2.2.1.1.2.bn (by omega)
  have xb := I.2.2.2.1
  have hC : aC (bA X) ≤ 9000 := by have := bn.1; omega
  have im := gk.ims hC
  have hle : (qT (fun t => nI (tl t)) (bA X) x).1 ≤ 1 := q_l_delay
  refine ⟨I.1.o, c9_delay I.1 ip ⟨fun e => k.put (lcl.rf h) I.2.2.2.2.2.1 I.1 e rfl, fun j e => ?_⟩⟩
  have e : (qT (fun t => nI (tl t)) (bA X) x).1 = j + 1 := e
  have hj : j < 1 := by omega
  have hj : j = 0 := by omega
  subst hj
  exact ⟨rfl, k.bad (lcl.rf h) I.1 e⟩
theorem l_queued (I : LI w X S L h) (hw : w + 12 ≤ 6200) {x : Int32} (k : CW h X (qQ (bA X) x) K) : wL_queued 64 x 619 h K := by
  have gk := I.1.gk I.2.2.1
  have ip := gk.2.2
  have bn : BN (bA X) := I.2.2.1.1.2.bn (by omega)
  have xb := I.2.2.2.1
  have hC : aC (bA X) ≤ 9000 := by have := bn.1; omega
  have im := gk.ims hC
  have hle : (qQ (bA X) x).1 ≤ 1 := q_l_queued
  refine ⟨I.1.o, c9_queued I.1 ip bn ⟨fun e => k.put (lcl.rf h) I.2.2.2.2.2.1 I.1 e rfl, fun j e => ?_⟩⟩
  have e : (qQ (bA X) x).1 = j + 1 := e
  have hj : j < 1 := by omega
  have hj : j = 0 := by omega
  subst hj
  exact ⟨rfl, k.bad (lcl.rf h) I.1 e⟩
theorem l_waitsFor (I : LI w X S L h) (hw : w + 12 ≤ 6200) {x y : Int32} (k : CW h X (qW (bA X) x y) K) : wL_waitsFor 64 x y 619 h K := by
  have gk := I.1.gk I.2.2.1
  have ip := gk.2.2
  have bn : BN (bA X) := I.2.2.1.1.2.bn (by omega)
  have xb := I.2.2.2.1
  have hC : aC (bA X) ≤ 9000 := by have := bn.1; omega
  have im := gk.ims hC
  have hle : (qW (bA X) x y).1 ≤ 1 := q_l_waitsFor
  refine ⟨I.1.o, c9_waitsFor I.1 ip ⟨fun e => k.putB (lcl.rf h) I.2.2.2.2.2.1 I.1 e rfl (q_b_waitsFor), fun j e => ?_⟩⟩
  have e : (qW (bA X) x y).1 = j + 1 := e
  have hj : j < 1 := by omega
  have hj : j = 0 := by omega
  subst hj
  exact ⟨rfl, k.bad (lcl.rf h) I.1 e⟩
theorem l_conflict (I : LI w X S L h) (hw : w + 12 ≤ 6200) {x y : Int32} (k : CW h X (qC (bA X) x y) K) : wL_conflict 64 x y 619 h K := by
  have gk := I.1.gk I.2.2.1
  have ip := gk.2.2
  have bn : BN (bA X) := I.2.2.1.1.2.bn (by omega)
  have xb := I.2.2.2.1
  have hC : aC (bA X) ≤ 9000 := by have := bn.1; omega
  have im := gk.ims hC
  have hle : (qC (bA X) x y).1 ≤ 2 := q_l_conflict
  refine ⟨I.1.o, c9_conflict I.1 ip ⟨fun e => k.putB (lcl.rf h) I.2.2.2.2.2.1 I.1 e rfl (q_b_conflict), fun j e => ?_⟩⟩
  have e : (qC (bA X) x y).1 = j + 1 := e
  have hj : j < 2 := by omega
  rcases (show j = 0 ∨ j = 1 by omega) with hj | hj
  · subst hj; exact Or.inl ⟨rfl, k.bad (lcl.rf h) I.1 e⟩
  · subst hj; exact Or.inr ⟨rfl, k.bad (lcl.rf h) I.1 e⟩
theorem l_refusalReason (I : LI w X S L h) (hw : w + 12 ≤ 6200) (k : CW h X ((if bY X = 0 then (1, nI 0) else (0, nI (bY X)) : QA)) K) : wL_refusalReason 64 619 h K := by
  have gk := I.1.gk I.2.2.1
  have ip := gk.2.2
  have bn : BN (bA X) := I.2.2.1.1.2.bn (by omega)
  have xb := I.2.2.2.1
  have hC : aC (bA X) ≤ 9000 := by have := bn.1; omega
  have im := gk.ims hC
  have hle : ((if bY X = 0 then (1, nI 0) else (0, nI (bY X)) : QA)).1 ≤ 1 := q_l_refusalReason
  refine ⟨I.1.o, c9_refusalReason I.1 xb.1 ⟨fun e => k.put (lcl.rf h) I.2.2.2.2.2.1 I.1 e rfl, fun j e => ?_⟩⟩
  have e : ((if bY X = 0 then (1, nI 0) else (0, nI (bY X)) : QA)).1 = j + 1 := e
  have hj : j < 1 := by omega
  have hj : j = 0 := by omega
  subst hj
  exact ⟨rfl, k.bad (lcl.rf h) I.1 e⟩
theorem l_refusalBlock (I : LI w X S L h) (hw : w + 12 ≤ 6200) (k : CW h X (qO (bB X)) K) : wL_refusalBlock 64 619 h K := by
  have gk := I.1.gk I.2.2.1
  have ip := gk.2.2
  have bn : BN (bA X) := I.2.2.1.1.2.bn (by omega)
  have xb := I.2.2.2.1
  have hC : aC (bA X) ≤ 9000 := by have := bn.1; omega
  have im := gk.ims hC
  have hle : (qO (bB X)).1 ≤ 1 := q_l_refusalBlock
  refine ⟨I.1.o, c9_refusalBlock I.1 xb.2.1 ⟨fun e => k.put (lcl.rf h) I.2.2.2.2.2.1 I.1 e rfl, fun j e => ?_⟩⟩
  have e : (qO (bB X)).1 = j + 1 := e
  have hj : j < 1 := by omega
  have hj : j = 0 := by omega
  subst hj
  exact ⟨rfl, k.bad (lcl.rf h) I.1 e⟩
theorem l_errorPosition (I : LI w X S L h) (hw : w + 12 ≤ 6200) (k : CW h X (qO (bE X)) K) : wL_errorPosition 64 619 h K := by
  have gk := I.1.gk I.2.2.1
  have ip := gk.2.2
  have bn : BN (bA X) := I.2.2.1.1.2.bn (by omega)
  have xb := I.2.2.2.1
  have hC : aC (bA X) ≤ 9000 := by have := bn.1; omega
  have im := gk.ims hC
  have hle : (qO (bE X)).1 ≤ 1 := q_l_errorPosition
  refine ⟨I.1.o, c9_errorPosition I.1 xb.2.2.1 ⟨fun e => k.put (lcl.rf h) I.2.2.2.2.2.1 I.1 e rfl, fun j e => ?_⟩⟩
  have e : (qO (bE X)).1 = j + 1 := e
  have hj : j < 1 := by omega
  have hj : j = 0 := by omega
  subst hj
  exact ⟨rfl, k.bad (lcl.rf h) I.1 e⟩
theorem l_failedCommand (I : LI w X S L h) (hw : w + 12 ≤ 6200) (k : CW h X (qO (bX X)) K) : wL_failedCommand 64 619 h K := by
  have gk := I.1.gk I.2.2.1
  have ip := gk.2.2
  have bn : BN (bA X) := I.2.2.1.1.2.bn (by omega)
  have xb := I.2.2.2.1
  have hC : aC (bA X) ≤ 9000 := by have := bn.1; omega
  have im := gk.ims hC
  have hle : (qO (bX X)).1 ≤ 1 := q_l_failedCommand
  refine ⟨I.1.o, c9_failedCommand I.1 xb.2.2.2.1 ⟨fun e => k.put (lcl.rf h) I.2.2.2.2.2.1 I.1 e rfl, fun j e => ?_⟩⟩
  have e : (qO (bX X)).1 = j + 1 := e
  have hj : j < 1 := by omega
  have hj : j = 0 := by omega
  subst hj
  exact ⟨rfl, k.bad (lcl.rf h) I.1 e⟩
theorem l_charAt (I : LI w X S L h) (hw : w + 12 ≤ 6200) {x : Int32} (k : CW h X (qCh X x) K) : wL_charAt 64 x 619 h K := by
  have gk := I.1.gk I.2.2.1
  have ip := gk.2.2
  have bn : BN (bA X) := I.2.2.1.1.2.bn (by omega)
  have xb := I.2.2.2.1
  have hC : aC (bA X) ≤ 9000 := by have := bn.1; omega
  have im := gk.ims hC
  have hle : (qCh X x).1 ≤ 1 := q_l_charAt
  refine ⟨I.1.o, c9_charAt I.1  ⟨fun e => k.put (lcl.rf h) I.2.2.2.2.2.1 I.1 e rfl, fun j e => ?_⟩⟩
  have e : (qCh X x).1 = j + 1 := e
  have hj : j < 1 := by omega
  have hj : j = 0 := by omega
  subst hj
  exact ⟨rfl, k.bad (lcl.rf h) I.1 e⟩
end LWR
