/-! THE LAW: its cases (printed by gencase.py) -/
section LAC
variable {h g : AH} {X X' : BG} {w L : Nat} {S : Nat → Int32} {K : Int32 → AH → Prop}
theorem LA_isPresent (I : LI w X S L h) (hw : w + 12 ≤ 6200) {i : Nat} (hi : i + 3 < L) (hL : L ≤ 2048) {C : Nat → Nat → Nat → Nat → Nat → Int32 → AH → Prop} (ih : ∀ X' g, LI (w + 12) X' S L g → C 63 64 606 619 620 (nI (i + 4)) g) : wL_law_J1492 K C 63 64 606 619 620 (nI i) h := by
  have gk := I.1.gk I.2.2.1
  have ip := gk.2.2
  have bn : BN (bA X) := I.2.2.1.1.2.bn (by omega)
  have xb := I.2.2.2.1
  have hC : aC (bA X) ≤ 9000 := by have := bn.1; omega
  have im := gk.ims hC
  have up := I.2.2.1.up (show w ≤ w + 12 by omega)
  have va := I.va hi hL
  unfold wL_law_J1492
  simp only [nI_add, I.cl i (by omega)]
  have c := lcl.rf h
  obtain ⟨a63, v63, e63, o6, q, s19, s20⟩ := I.go c hi hL
  refine ⟨I.sA, va.1 1 (by decide), I.1.o, c9_isPresent I.1 ip ⟨a63, v63 1 (by decide), o6, m9_isPresent q im (fun g2 c2 q2 e2 => ⟨fun _ => ih _ g2 (I.next c I.1 c2 q2 up xb), fun z => absurd rfl z⟩)⟩⟩
theorem LA_isConsistent (I : LI w X S L h) (hw : w + 12 ≤ 6200) {i : Nat} (hi : i + 3 < L) (hL : L ≤ 2048) {C : Nat → Nat → Nat → Nat → Nat → Int32 → AH → Prop} (ih : ∀ X' g, LI (w + 12) X' S L g → C 63 64 606 619 620 (nI (i + 4)) g) : wL_law_J2496 K C 63 64 606 619 620 (nI i) h := by
  have gk := I.1.gk I.2.2.1
  have ip := gk.2.2
  have bn : BN (bA X) := I.2.2.1.1.2.bn (by omega)
  have xb := I.2.2.2.1
  have hC : aC (bA X) ≤ 9000 := by have := bn.1; omega
  have im := gk.ims hC
  have up := I.2.2.1.up (show w ≤ w + 12 by omega)
  have va := I.va hi hL
  unfold wL_law_J2496
  simp only [nI_add, I.cl i (by omega)]
  have c := lcl.rf h
  obtain ⟨a63, v63, e63, o6, q, s19, s20⟩ := I.go c hi hL
  refine ⟨I.1.o, c9_isConsistent I.1 ip bn ⟨o6, m9_isConsistent q (fun g2 c2 q2 e2 => ⟨fun _ => ih _ g2 (I.next c I.1 c2 q2 up xb), fun z => absurd rfl z⟩)⟩⟩
theorem LA_totalDelay (I : LI w X S L h) (hw : w + 12 ≤ 6200) {i : Nat} (hi : i + 3 < L) (hL : L ≤ 2048) {C : Nat → Nat → Nat → Nat → Nat → Int32 → AH → Prop} (ih : ∀ X' g, LI (w + 12) X' S L g → C 63 64 606 619 620 (nI (i + 4)) g) : wL_law_J2351 K C 63 64 606 619 620 (nI i) h := by
  have gk := I.1.gk I.2.2.1
  have ip := gk.2.2
  have bn : BN (bA X) := I.2.2.1.1.2.bn (by omega)
  have xb := I.2.2.2.1
  have hC : aC (bA X) ≤ 9000 := by have := bn.1; omega
  have im := gk.ims hC
  have up := I.2.2.1.up (show w ≤ w + 12 by omega)
  have va := I.va hi hL
  unfold wL_law_J2351
  simp only [nI_add]
  have c := lcl.rf h
  obtain ⟨a63, v63, e63, o6, q, s19, s20⟩ := I.go c hi hL
  refine ⟨I.1.o, c9_totalDelay I.1 ⟨o6, m9_totalDelay q (by have := bn.2.2; omega) (fun g2 c2 q2 => ⟨fun _ => ih _ g2 (I.next c I.1 c2 q2 up xb), fun z => absurd (lg_eq _) z⟩)⟩⟩
theorem LA_deadlocked (I : LI w X S L h) (hw : w + 12 ≤ 6200) {i : Nat} (hi : i + 3 < L) (hL : L ≤ 2048) {C : Nat → Nat → Nat → Nat → Nat → Int32 → AH → Prop} (ih : ∀ X' g, LI (w + 12) X' S L g → C 63 64 606 619 620 (nI (i + 4)) g) : wL_law_J2110 K C 63 64 606 619 620 (nI i) h := by
  have gk := I.1.gk I.2.2.1
  have ip := gk.2.2
  have bn : BN (bA X) := I.2.2.1.1.2.bn (by omega)
  have xb := I.2.2.2.1
  have hC : aC (bA X) ≤ 9000 := by have := bn.1; omega
  have im := gk.ims hC
  have up := I.2.2.1.up (show w ≤ w + 12 by omega)
  have va := I.va hi hL
  unfold wL_law_J2110
  simp only [nI_add]
  refine ⟨I.1.o, c9_deadlocked I.1 ip (fun g f r => ?_)⟩
  have c := f.lcl
  obtain ⟨a63, v63, e63, o6, q, s19, s20⟩ := I.go c hi hL
  exact ⟨o6, m9_deadlocked q gk hC (fun g2 c2 q2 e2 => ⟨fun _ => ih _ g2 (I.next c r c2 q2 up xb), fun z => absurd rfl z⟩)⟩
theorem LA_deadlockedByPairs (I : LI w X S L h) (hw : w + 12 ≤ 6200) {i : Nat} (hi : i + 3 < L) (hL : L ≤ 2048) {C : Nat → Nat → Nat → Nat → Nat → Int32 → AH → Prop} (ih : ∀ X' g, LI (w + 12) X' S L g → C 63 64 606 619 620 (nI (i + 4)) g) : wL_law_J2123 K C 63 64 606 619 620 (nI i) h := by
  have gk := I.1.gk I.2.2.1
  have ip := gk.2.2
  have bn : BN (bA X) := I.2.2.1.1.2.bn (by omega)
  have xb := I.2.2.2.1
  have hC : aC (bA X) ≤ 9000 := by have := bn.1; omega
  have im := gk.ims hC
  have up := I.2.2.1.up (show w ≤ w + 12 by omega)
  have va := I.va hi hL
  unfold wL_law_J2123
  simp only [nI_add]
  refine ⟨I.1.o, c9_deadlockedByPairs I.1 ip (fun g f r => ?_)⟩
  have c := f.lcl
  obtain ⟨a63, v63, e63, o6, q, s19, s20⟩ := I.go c hi hL
  exact ⟨o6, m9_deadlockedByPairs q gk hC (fun g2 c2 q2 e2 => ⟨fun _ => ih _ g2 (I.next c r c2 q2 up xb), fun z => absurd rfl z⟩)⟩
theorem LA_mostWithoutConflict (I : LI w X S L h) (hw : w + 12 ≤ 6200) {i : Nat} (hi : i + 3 < L) (hL : L ≤ 2048) {C : Nat → Nat → Nat → Nat → Nat → Int32 → AH → Prop} (ih : ∀ X' g, LI (w + 12) X' S L g → C 63 64 606 619 620 (nI (i + 4)) g) : wL_law_J2211 K C 63 64 606 619 620 (nI i) h := by
  have gk := I.1.gk I.2.2.1
  have ip := gk.2.2
  have bn : BN (bA X) := I.2.2.1.1.2.bn (by omega)
  have xb := I.2.2.2.1
  have hC : aC (bA X) ≤ 9000 := by have := bn.1; omega
  have im := gk.ims hC
  have up := I.2.2.1.up (show w ≤ w + 12 by omega)
  have va := I.va hi hL
  unfold wL_law_J2211
  simp only [nI_add]
  refine ⟨I.1.o, c9_mostWithoutConflict I.1 ip (fun g f r => ?_)⟩
  have c := f.lcl
  obtain ⟨a63, v63, e63, o6, q, s19, s20⟩ := I.go c hi hL
  exact ⟨o6, m9_mostWithoutConflict q gk hC (fun g2 c2 q2 e2 => ⟨fun _ => ih _ g2 (I.next c r c2 q2 up xb), fun z => absurd rfl z⟩)⟩
theorem LA_mostWithoutConflictBySets (I : LI w X S L h) (hw : w + 12 ≤ 6200) {i : Nat} (hi : i + 3 < L) (hL : L ≤ 2048) {C : Nat → Nat → Nat → Nat → Nat → Int32 → AH → Prop} (ih : ∀ X' g, LI (w + 12) X' S L g → C 63 64 606 619 620 (nI (i + 4)) g) : wL_law_J2224 K C 63 64 606 619 620 (nI i) h := by
  have gk := I.1.gk I.2.2.1
  have ip := gk.2.2
  have bn : BN (bA X) := I.2.2.1.1.2.bn (by omega)
  have xb := I.2.2.2.1
  have hC : aC (bA X) ≤ 9000 := by have := bn.1; omega
  have im := gk.ims hC
  have up := I.2.2.1.up (show w ≤ w + 12 by omega)
  have va := I.va hi hL
  unfold wL_law_J2224
  simp only [nI_add]
  refine ⟨I.1.o, c9_mostWithoutConflictBySets I.1 ip (fun g f r => ?_)⟩
  have c := f.lcl
  obtain ⟨a63, v63, e63, o6, q, s19, s20⟩ := I.go c hi hL
  exact ⟨o6, m9_mostWithoutConflictBySets q gk hC (fun g2 c2 q2 e2 => ⟨fun _ => ih _ g2 (I.next c r c2 q2 up xb), fun z => absurd rfl z⟩)⟩
theorem LA_writeBlocks (I : LI w X S L h) (hw : w + 12 ≤ 6200) {i : Nat} (hi : i + 3 < L) (hL : L ≤ 2048) {C : Nat → Nat → Nat → Nat → Nat → Int32 → AH → Prop} (ih : ∀ X' g, LI (w + 12) X' S L g → C 63 64 606 619 620 (nI (i + 4)) g) : wL_law_J2509 K C 63 64 606 619 620 (nI i) h := by
  have gk := I.1.gk I.2.2.1
  have ip := gk.2.2
  have bn : BN (bA X) := I.2.2.1.1.2.bn (by omega)
  have xb := I.2.2.2.1
  have hC : aC (bA X) ≤ 9000 := by have := bn.1; omega
  have im := gk.ims hC
  have up := I.2.2.1.up (show w ≤ w + 12 by omega)
  have va := I.va hi hL
  unfold wL_law_J2509
  simp only [nI_add]
  refine ⟨I.1.o, c9_writeBlocks I.1 I.2.2.2.2.1.2.1 ip bn (by have := xb.2.2.2.2; omega) (fun g f r => ?_)⟩
  have c := f.lcl
  obtain ⟨a63, v63, e63, o6, q, s19, s20⟩ := I.go c hi hL
  exact ⟨o6, m9_writeBlocks q im (fun g2 c2 q2 => ⟨fun _ => ih _ g2 (I.next c r c2 q2 up ⟨xb.1, xb.2.1, xb.2.2.1, xb.2.2.2.1, owB_l gk⟩), fun z => absurd rfl z⟩)⟩
theorem LA_save (I : LI w X S L h) (hw : w + 12 ≤ 6200) {i : Nat} (hi : i + 3 < L) (hL : L ≤ 2048) {C : Nat → Nat → Nat → Nat → Nat → Int32 → AH → Prop} (ih : ∀ X' g, LI (w + 12) X' S L g → C 63 64 606 619 620 (nI (i + 4)) g) : wL_law_J2868 K C 63 64 606 619 620 (nI i) h := by
  have gk := I.1.gk I.2.2.1
  have ip := gk.2.2
  have bn : BN (bA X) := I.2.2.1.1.2.bn (by omega)
  have xb := I.2.2.2.1
  have hC : aC (bA X) ≤ 9000 := by have := bn.1; omega
  have im := gk.ims hC
  have up := I.2.2.1.up (show w ≤ w + 12 by omega)
  have va := I.va hi hL
  unfold wL_law_J2868
  simp only [nI_add]
  refine ⟨I.1.o, c9_save I.1 (fun g f r => ?_)⟩
  have c := f.lcl
  obtain ⟨a63, v63, e63, o6, q, s19, s20⟩ := I.go c hi hL
  exact ⟨o6, m9_save q (fun g2 c2 q2 e2 => ⟨fun _ => ih _ g2 (I.next c r c2 q2 (px_save I.2.2.1) xb), fun z => absurd rfl z⟩)⟩
theorem l_minutesUntilArrivalByPassing (I : LI w X S L h) (hw : w + 12 ≤ 6200) {x : Int32} (k : CW h X (qR (fun t => nI (rem (bA X) t)) (bA X) x) K) : wL_minutesUntilArrivalByPassing 64 x 619 h K := by
  refine ⟨I.1.o, c9_minutesUntilArrivalByPassing I.1 I.2.2.1 (by omega) (fun t hf hr g f r => ?_) (fun hn => ?_)⟩
  · have hq : qR (fun t => nI (rem (bA X) t)) (bA X) x = (0, nI (rem (bA X) t)) := by unfold qR; rw [hf]; simp only; rw [if_neg hr]
    exact k.put f.lcl I.2.2.2.2.2.1 r (by rw [hq]) (by rw [hq])
  · have hq : qR (fun t => nI (rem (bA X) t)) (bA X) x = (1, nI 0) := by
      unfold qR
      cases hf : fnd (bA X) x with
      | none => rfl
      | some t => simp only; rw [if_pos (hn t hf)]
    exact ⟨rfl, k.bad (lcl.rf h) I.1 (j := 0) (by rw [hq])⟩
theorem LA_minutesUntilArrivalByPassing (I : LI w X S L h) (hw : w + 12 ≤ 6200) {i : Nat} (hi : i + 3 < L) (hL : L ≤ 2048) {C : Nat → Nat → Nat → Nat → Nat → Int32 → AH → Prop} (ih : ∀ X' g, LI (w + 12) X' S L g → C 63 64 606 619 620 (nI (i + 4)) g) : wL_law_J1867 K C 63 64 606 619 620 (nI i) h := by
  have gk := I.1.gk I.2.2.1
  have ip := gk.2.2
  have bn : BN (bA X) := I.2.2.1.1.2.bn (by omega)
  have xb := I.2.2.2.1
  have hC : aC (bA X) ≤ 9000 := by have := bn.1; omega
  have im := gk.ims hC
  have up := I.2.2.1.up (show w ≤ w + 12 by omega)
  have va := I.va hi hL
  unfold wL_law_J1867
  simp only [nI_add, I.cl i (by omega)]
  have hle : (qR (fun t => nI (rem (bA X) t)) (bA X) (mI h 63 (i + 1))).1 ≤ 1 := q_l_minutesUntilArrival
  refine ⟨I.sA, va.1 1 (by decide), l_minutesUntilArrivalByPassing I hw (fun g c r e => ?_)⟩
  obtain ⟨a63, v63, e63, o6, q, s19, s20⟩ := I.go c hi hL
  simp only [e63]
  refine ⟨a63, v63 1 (by decide), o6, m9_minutesUntilArrivalByPassing q gk hC (fun g2 c2 q2 e2 => tlI q2.1 e2 (by rw [c2.2.1]; exact s19) (by omega) (fun z => ?_) (ih _ g2 (I.next c r c2 q2 up xb)))⟩
  rw [c2.2.2.2.1]
  exact e z
/-- the box and the answer behind writeTrain -/
def wtX (X : BG) (x : Int32) : BG := match fnd (bA X) x with
  | none => X
  | some t => wO_ X (owT t)
def wtQ (X : BG) (x : Int32) : QA := match fnd (bA X) x with
  | none => (1, nI 0)
  | some t => (0, nI (owT t).length)
theorem l_writeTrain (I : LI w X S L h) (hw : w + 12 ≤ 6200) {x : Int32} (k : CW h (wtX X x) (wtQ X x) K) : wL_writeTrain 64 x 619 h K := by
  have gk := I.1.gk I.2.2.1
  have ip := gk.2.2
  have bn : BN (bA X) := I.2.2.1.1.2.bn (by omega)
  have xb := I.2.2.2.1
  have hC : aC (bA X) ≤ 9000 := by have := bn.1; omega
  have im := gk.ims hC
  refine ⟨I.1.o, c9_writeTrain I.1 I.2.2.2.2.1.2.1 ip bn (by have := xb.2.2.2.2; omega) (fun t hf g f r => ?_) (fun hn => ?_)⟩
  · have hq : wtQ X x = (0, nI (owT t).length) := by unfold wtQ; rw [hf]
    have hX : wtX X x = wO_ X (owT t) := by unfold wtX; rw [hf]
    exact k.put f.lcl I.2.2.2.2.2.1 (by rw [hX]; exact r) (by rw [hq]) (by rw [hq])
  · have hq : wtQ X x = (1, nI 0) := by unfold wtQ; rw [hn]
    have hX : wtX X x = X := by unfold wtX; rw [hn]
    exact ⟨rfl, k.bad (lcl.rf h) (by rw [hX]; exact I.1) (j := 0) (by rw [hq])⟩
theorem LA_writeTrain (I : LI w X S L h) (hw : w + 12 ≤ 6200) {i : Nat} (hi : i + 3 < L) (hL : L ≤ 2048) {C : Nat → Nat → Nat → Nat → Nat → Int32 → AH → Prop} (ih : ∀ X' g, LI (w + 12) X' S L g → C 63 64 606 619 620 (nI (i + 4)) g) : wL_law_J2522 K C 63 64 606 619 620 (nI i) h := by
  have gk := I.1.gk I.2.2.1
  have ip := gk.2.2
  have bn : BN (bA X) := I.2.2.1.1.2.bn (by omega)
  have xb := I.2.2.2.1
  have hC : aC (bA X) ≤ 9000 := by have := bn.1; omega
  have im := gk.ims hC
  have up := I.2.2.1.up (show w ≤ w + 12 by omega)
  have va := I.va hi hL
  unfold wL_law_J2522
  simp only [nI_add, I.cl i (by omega)]
  refine ⟨I.sA, va.1 1 (by decide), l_writeTrain I hw (fun g c r e => ?_)⟩
  obtain ⟨a63, v63, e63, o6, q, s19, s20⟩ := I.go c hi hL
  simp only [e63]
  refine ⟨a63, v63 1 (by decide), o6, m9_writeTrain q gk hC (fun t hf g2 c2 q2 e2 => ?_) (fun hf g2 c2 q2 e2 => ?_)⟩
  · have hq : wtQ X (mI h 63 (i + 1)) = (0, nI (owT t).length) := by unfold wtQ; rw [hf]
    have hX : wtX X (mI h 63 (i + 1)) = wO_ X (owT t) := by unfold wtX; rw [hf]
    rw [hq] at e ⊢
    rw [hX] at r
    exact tlI q2.1 e2 (by rw [c2.2.1]; exact s19) (show (0 : Nat) < 2 ^ 31 by decide) (fun z => by rw [c2.2.2.2.1]; exact e z) (ih _ g2 (I.next c r c2 q2 up ⟨xb.1, xb.2.1, xb.2.2.1, xb.2.2.2.1, owT_l gk (fnd_mem hf).1⟩))
  · have hq : wtQ X (mI h 63 (i + 1)) = (1, nI 0) := by unfold wtQ; rw [hf]
    have hX : wtX X (mI h 63 (i + 1)) = X := by unfold wtX; rw [hf]
    rw [hq] at e ⊢
    rw [hX] at r
    exact tlI q2.1 e2 (by rw [c2.2.1]; exact s19) (by decide) (fun z => (by cases z)) (ih _ g2 (I.next c r c2 q2 up xb))
theorem chr_n (x : Int32) : ∃ c, c < 65536 ∧ (x.toUInt32 % 65536).toInt32 = nI c := by
  refine ⟨x.toUInt32.toNat % 65536, Nat.mod_lt _ (by decide), ?_⟩
  apply Int32.toBitVec_inj.mp
  apply BitVec.eq_of_toNat_eq
  show (x.toUInt32 % 65536).toNat = (BitVec.ofNat 32 (x.toUInt32.toNat % 65536)).toNat
  rw [UInt32.toNat_mod, BitVec.toNat_ofNat, Nat.mod_eq_of_lt (a := x.toUInt32.toNat % 65536) (Nat.lt_of_lt_of_le (Nat.mod_lt _ (by decide)) (by decide))]
  rfl
def tyX (X : BG) (c : Nat) : BG := if (bF X).length < 60 then (bA X, bH X, bS X, bO X, bF X ++ [c], X.2.2.2.2.2) else X
def tyQ (X : BG) : QA := if (bF X).length < 60 then (0, nI ((bF X).length + 1)) else (1, nI 0)
theorem l_type (I : LI w X S L h) (hw : w + 12 ≤ 6200) {c : Nat} (hc : c < 65536) (k : CW h (tyX X c) (tyQ X) K) : wL_type 64 (nI c) 619 h K := by
  refine ⟨I.1.o, c9_type I.1 hc (fun hl g f r => ?_) (fun hl => ?_)⟩
  · have hq : tyQ X = (0, nI ((bF X).length + 1)) := by unfold tyQ; rw [if_pos hl]
    have hX : tyX X c = (bA X, bH X, bS X, bO X, bF X ++ [c], X.2.2.2.2.2) := by unfold tyX; rw [if_pos hl]
    exact k.put f.lcl I.2.2.2.2.2.1 (by rw [hX]; exact r) (by rw [hq]) (by rw [hq])
  · have hq : tyQ X = (1, nI 0) := by unfold tyQ; rw [if_neg (by omega)]
    have hX : tyX X c = X := by unfold tyX; rw [if_neg (by omega)]
    exact ⟨rfl, k.bad (lcl.rf h) (by rw [hX]; exact I.1) (j := 0) (by rw [hq])⟩
theorem LA_type (I : LI w X S L h) (hw : w + 12 ≤ 6200) {i : Nat} (hi : i + 3 < L) (hL : L ≤ 2048) {C : Nat → Nat → Nat → Nat → Nat → Int32 → AH → Prop} (ih : ∀ X' g, LI (w + 12) X' S L g → C 63 64 606 619 620 (nI (i + 4)) g) : wL_law_J2634 K C 63 64 606 619 620 (nI i) h := by
  have gk := I.1.gk I.2.2.1
  have ip := gk.2.2
  have bn : BN (bA X) := I.2.2.1.1.2.bn (by omega)
  have xb := I.2.2.2.1
  have hC : aC (bA X) ≤ 9000 := by have := bn.1; omega
  have im := gk.ims hC
  have up := I.2.2.1.up (show w ≤ w + 12 by omega)
  have va := I.va hi hL
  unfold wL_law_J2634
  simp only [nI_add, I.cl i (by omega)]
  obtain ⟨cc, hcc, ecc⟩ := chr_n (mI h 63 (i + 1))
  rw [ecc]
  refine ⟨I.sA, va.1 1 (by decide), l_type I hw hcc (fun g c r e => ?_)⟩
  obtain ⟨a63, v63, e63, o6, q, s19, s20⟩ := I.go c hi hL
  simp only [e63, ecc]
  refine ⟨a63, v63 1 (by decide), o6, m9_type q (fun hl g2 c2 q2 e2 => ?_) I.1.bf.1 (fun hl g2 c2 q2 e2 => ?_)⟩
  · have hq : tyQ X = (0, nI ((bF X).length + 1)) := by unfold tyQ; rw [if_pos hl]
    have hX : tyX X cc = (bA X, bH X, bS X, bO X, bF X ++ [cc], X.2.2.2.2.2) := by unfold tyX; rw [if_pos hl]
    rw [hq] at e ⊢
    rw [hX] at r
    exact tlI q2.1 e2 (by rw [c2.2.1]; exact s19) (show (0 : Nat) < 2 ^ 31 by decide) (fun z => by rw [c2.2.2.2.1]; exact e z) (ih _ g2 (I.next c r c2 q2 up xb))
  · have hq : tyQ X = (1, nI 0) := by unfold tyQ; rw [if_neg (by omega)]
    have hX : tyX X cc = X := by unfold tyX; rw [if_neg (by omega)]
    rw [hq] at e ⊢
    rw [hX] at r
    exact tlI q2.1 e2 (by rw [c2.2.1]; exact s19) (by decide) (fun z => (by cases z)) (ih _ g2 (I.next c r c2 q2 up xb))
theorem runQ_l (X : BG) : (runQ X).1 ≤ 2 := by
  unfold runQ
  repeat' split
  all_goals first | exact Nat.le_refl _ | exact Nat.zero_le _ | exact (by decide : (1 : Nat) ≤ 2)
theorem l_run (I : LI w X S L h) (hw : w + 12 ≤ 6200) (k : CW h (runX X) (runQ X) K) : wL_run 64 619 h K := by
  have hle := runQ_l X
  refine ⟨I.1.o, c9_run I.1 I.2.2.2.2.1.1 I.2.2.1 hw (fun e g f r => k.put f.lcl I.2.2.2.2.2.1 r e rfl) (fun j e g f r => ?_)⟩
  have hj : j < 2 := by omega
  rcases (show j = 0 ∨ j = 1 by omega) with hj | hj
  · subst hj; exact Or.inl ⟨rfl, k.bad f.lcl r e⟩
  · subst hj; exact Or.inr ⟨rfl, k.bad f.lcl r e⟩
theorem LA_run (I : LI w X S L h) (hw : w + 12 ≤ 6200) {i : Nat} (hi : i + 3 < L) (hL : L ≤ 2048) {C : Nat → Nat → Nat → Nat → Nat → Int32 → AH → Prop} (ih : ∀ X' g, LI (w + 12) X' S L g → C 63 64 606 619 620 (nI (i + 4)) g) : wL_law_J2692 K C 63 64 606 619 620 (nI i) h := by
  have gk := I.1.gk I.2.2.1
  have ip := gk.2.2
  have bn : BN (bA X) := I.2.2.1.1.2.bn (by omega)
  have xb := I.2.2.2.1
  have hC : aC (bA X) ≤ 9000 := by have := bn.1; omega
  have im := gk.ims hC
  have up := I.2.2.1.up (show w ≤ w + 12 by omega)
  have va := I.va hi hL
  unfold wL_law_J2692
  simp only [nI_add]
  have hle := runQ_l X
  refine l_run I hw (fun g c r e => ?_)
  obtain ⟨a63, v63, e63, o6, q, s19, s20⟩ := I.go c hi hL
  obtain ⟨p1, p2⟩ := run_px I.2.2.1 gk xb hw I.1.bf.1
  refine ⟨o6, m9_run q (I.2.2.2.2.1.2.2.1.sm (fun b hb => c.1 b (Or.inl hb))) gk I.2.2.1 hw I.1.bf (fun g2 c2 q2 e2 => tlI q2.1 e2 (by rw [c2.2.1]; exact s19) (by omega) (fun z => ?_) (ih _ g2 (I.next c r c2 q2 p1 p2)))⟩
  rw [c2.2.2.2.1]
  exact e z
def unX (X : BG) : BG := match bH X with
  | [] => X
  | B :: H => (B, H, X.2.2)
def unQ (X : BG) : QA := match bH X with
  | [] => (1, nI 0)
  | _ :: H => (0, nI H.length)
theorem l_undo (I : LI w X S L h) (hw : w + 12 ≤ 6200) (k : CW h (unX X) (unQ X) K) : wL_undo 64 619 h K := by
  refine ⟨I.1.o, c9_undo I.1 (fun B H e g f r => ?_) (fun hn => ?_)⟩
  · have hq : unQ X = (0, nI H.length) := by unfold unQ; rw [e]
    have hX : unX X = (B, H, X.2.2) := by unfold unX; rw [e]
    exact k.put f.lcl I.2.2.2.2.2.1 (by rw [hX]; exact r) (by rw [hq]) (by rw [hq])
  · have hq : unQ X = (1, nI 0) := by unfold unQ; rw [hn]
    have hX : unX X = X := by unfold unX; rw [hn]
    exact ⟨rfl, k.bad (lcl.rf h) (by rw [hX]; exact I.1) (j := 0) (by rw [hq])⟩
theorem LA_undo (I : LI w X S L h) (hw : w + 12 ≤ 6200) {i : Nat} (hi : i + 3 < L) (hL : L ≤ 2048) {C : Nat → Nat → Nat → Nat → Nat → Int32 → AH → Prop} (ih : ∀ X' g, LI (w + 12) X' S L g → C 63 64 606 619 620 (nI (i + 4)) g) : wL_law_J2824 K C 63 64 606 619 620 (nI i) h := by
  have gk := I.1.gk I.2.2.1
  have ip := gk.2.2
  have bn : BN (bA X) := I.2.2.1.1.2.bn (by omega)
  have xb := I.2.2.2.1
  have hC : aC (bA X) ≤ 9000 := by have := bn.1; omega
  have im := gk.ims hC
  have up := I.2.2.1.up (show w ≤ w + 12 by omega)
  have va := I.va hi hL
  unfold wL_law_J2824
  simp only [nI_add]
  refine l_undo I hw (fun g c r e => ?_)
  obtain ⟨a63, v63, e63, o6, q, s19, s20⟩ := I.go c hi hL
  have ih2 : ∀ B H, bH X = B :: H → IMs B := fun B H hB => by
    have hm : B ∈ bH X := by rw [hB]; exact List.mem_cons_self
    have b9 := (I.2.2.1.2.1 B hm).2.1
    exact (I.1.gkH I.2.2.1 B hm).ims (by omega)
  refine ⟨o6, m9_undo q ih2 (fun B H hB g2 c2 q2 e2 => ?_) (fun hn g2 c2 q2 e2 => ?_)⟩
  · have hq : unQ X = (0, nI H.length) := by unfold unQ; rw [hB]
    have hX : unX X = (B, H, X.2.2) := by unfold unX; rw [hB]
    rw [hq] at e ⊢
    rw [hX] at r
    exact tlI q2.1 e2 (by rw [c2.2.1]; exact s19) (show (0 : Nat) < 2 ^ 31 by decide) (fun z => by rw [c2.2.2.2.1]; exact e z) (ih _ g2 (I.next c r c2 q2 (px_undo I.2.2.1 hB) xb))
  · have hq : unQ X = (1, nI 0) := by unfold unQ; rw [hn]
    have hX : unX X = X := by unfold unX; rw [hn]
    rw [hq] at e ⊢
    rw [hX] at r
    exact tlI q2.1 e2 (by rw [c2.2.1]; exact s19) (by decide) (fun z => (by cases z)) (ih _ g2 (I.next c r c2 q2 up xb))
def reX (X : BG) : BG := match bS X with
  | none => X
  | some B => (B, [], X.2.2)
def reQ (X : BG) : QA := match bS X with
  | none => (1, nI 0)
  | some B => (0, nI (aT B).length)
theorem l_restore (I : LI w X S L h) (hw : w + 12 ≤ 6200) (k : CW h (reX X) (reQ X) K) : wL_restore 64 619 h K := by
  refine ⟨I.1.o, c9_restore I.1 (fun B e g f r => ?_) (fun hn => ?_)⟩
  · have hq : reQ X = (0, nI (aT B).length) := by unfold reQ; rw [e]
    have hX : reX X = (B, [], X.2.2) := by unfold reX; rw [e]
    exact k.put f.lcl I.2.2.2.2.2.1 (by rw [hX]; exact r) (by rw [hq]) (by rw [hq])
  · have hq : reQ X = (1, nI 0) := by unfold reQ; rw [hn]
    have hX : reX X = X := by unfold reX; rw [hn]
    exact ⟨rfl, k.bad (lcl.rf h) (by rw [hX]; exact I.1) (j := 0) (by rw [hq])⟩
theorem LA_restore (I : LI w X S L h) (hw : w + 12 ≤ 6200) {i : Nat} (hi : i + 3 < L) (hL : L ≤ 2048) {C : Nat → Nat → Nat → Nat → Nat → Int32 → AH → Prop} (ih : ∀ X' g, LI (w + 12) X' S L g → C 63 64 606 619 620 (nI (i + 4)) g) : wL_law_J2881 K C 63 64 606 619 620 (nI i) h := by
  have gk := I.1.gk I.2.2.1
  have ip := gk.2.2
  have bn : BN (bA X) := I.2.2.1.1.2.bn (by omega)
  have xb := I.2.2.2.1
  have hC : aC (bA X) ≤ 9000 := by have := bn.1; omega
  have im := gk.ims hC
  have up := I.2.2.1.up (show w ≤ w + 12 by omega)
  have va := I.va hi hL
  unfold wL_law_J2881
  simp only [nI_add]
  refine l_restore I hw (fun g c r e => ?_)
  obtain ⟨a63, v63, e63, o6, q, s19, s20⟩ := I.go c hi hL
  have ih2 : ∀ B, bS X = some B → IMs B := fun B hB => by
    have b9 := (I.2.2.1.2.2 B hB).2.1
    exact (I.1.gkS I.2.2.1 B hB).ims (by omega)
  refine ⟨o6, m9_restore q ih2 (fun B hB g2 c2 q2 e2 => ?_) (fun hn g2 c2 q2 e2 => ?_)⟩
  · have hq : reQ X = (0, nI (aT B).length) := by unfold reQ; rw [hB]
    have hX : reX X = (B, [], X.2.2) := by unfold reX; rw [hB]
    rw [hq] at e ⊢
    rw [hX] at r
    exact tlI q2.1 e2 (by rw [c2.2.1]; exact s19) (show (0 : Nat) < 2 ^ 31 by decide) (fun z => by rw [c2.2.2.2.1]; exact e z) (ih _ g2 (I.next c r c2 q2 (px_restore I.2.2.1 hB) xb))
  · have hq : reQ X = (1, nI 0) := by unfold reQ; rw [hn]
    have hX : reX X = X := by unfold reX; rw [hn]
    rw [hq] at e ⊢
    rw [hX] at r
    exact tlI q2.1 e2 (by rw [c2.2.1]; exact s19) (by decide) (fun z => (by cases z)) (ih _ g2 (I.next c r c2 q2 up xb))
theorem u64_i (r : UInt64) : r.toInt64.toUInt64 = r := rfl
theorem l_meanDelay (I : LI w X S L h) (hw : w + 12 ≤ 6200) (k : ∀ g, lcl h g → RBc g X → (aC (bA X) ≠ 0 → mL g 620 0 = (FP.ddiv (FP.i2d (nI (aD (bA X)))) (FP.i2d (nI (aC (bA X))))).toInt64) → K (if aC (bA X) = 0 then nI 1 else nI 0) g) : wL_meanDelay 64 620 h K := by
  have gk := I.1.gk I.2.2.1
  have ip := gk.2.2
  have bn : BN (bA X) := I.2.2.1.1.2.bn (by omega)
  have xb := I.2.2.2.1
  have hC : aC (bA X) ≤ 9000 := by have := bn.1; omega
  have im := gk.ims hC
  have e1 := I.2.2.2.2.2.2
  have ln1 : ln h 620 = 1 := congrArg Prod.snd e1
  have z0 : (nI 0).toNatClampNeg = 0 := nI_clamp (by decide)
  refine ⟨I.1.o, c9_meanDelay I.1 bn (fun hn => ⟨congrArg Prod.fst e1, by decide, by rw [ln1]; exact vp_in_nI (by decide) (by decide), fun h6 e6 => ?_⟩) (fun hn => ⟨rfl, ?_⟩)⟩
  · rw [z0] at e6
    have := k h6 (by rw [e6]; exact lcl.ul (Or.inr rfl)) (by rw [e6]; exact I.1.ul (Or.inr rfl)) (fun _ => by rw [e6, mL_uL, if_pos ⟨rfl, rfl⟩])
    rw [if_neg hn] at this
    exact this
  · have := k h (lcl.rf h) I.1 (fun z => absurd hn z)
    rw [if_pos hn] at this
    exact this
theorem LA_meanDelay (I : LI w X S L h) (hw : w + 12 ≤ 6200) {i : Nat} (hi : i + 3 < L) (hL : L ≤ 2048) {C : Nat → Nat → Nat → Nat → Nat → Int32 → AH → Prop} (ih : ∀ X' g, LI (w + 12) X' S L g → C 63 64 606 619 620 (nI (i + 4)) g) : wL_law_J2365 K C 63 64 606 619 620 (nI i) h := by
  have gk := I.1.gk I.2.2.1
  have ip := gk.2.2
  have bn : BN (bA X) := I.2.2.1.1.2.bn (by omega)
  have xb := I.2.2.2.1
  have hC : aC (bA X) ≤ 9000 := by have := bn.1; omega
  have im := gk.ims hC
  have up := I.2.2.1.up (show w ≤ w + 12 by omega)
  have va := I.va hi hL
  unfold wL_law_J2365
  simp only [nI_add]
  refine l_meanDelay I hw (fun g c r e => ?_)
  obtain ⟨a63, v63, e63, o6, q, s19, s20⟩ := I.go c hi hL
  have z0 : (nI 0).toNatClampNeg = 0 := nI_clamp (by decide)
  refine ⟨o6, m9_meanDelay q bn (fun hn g2 c2 q2 e2 => ?_) (fun hn g2 c2 q2 e2 => ?_)⟩
  · have s29 : mS g2 620 = (102, 1) := by rw [c2.2.1]; exact s20
    have ln2 : ln g2 620 = 1 := congrArg Prod.snd s29
    have em : mL g2 620 0 = (FP.ddiv (FP.i2d (nI (aD (bA X)))) (FP.i2d (nI (aC (bA X))))).toInt64 := by rw [c2.2.2.2.1]; exact e hn
    have hcm := cmp_self (dd_nn (a := aD (bA X)) (b := aC (bA X)) (by have := bn.1; omega) (by omega))
    have nx_ := ih _ g2 (I.next c r c2 q2 up xb)
    unfold wX10_thrown
    rw [if_neg hn, e2, z0]
    dsimp only
    rw [em, u64_i]
    exact ⟨q2.1.o, q2.1.o, fun _ => ⟨fun z => absurd rfl z, fun _ => ⟨congrArg Prod.fst s29, by decide, by rw [ln2]; exact vp_in_nI (by decide) (by decide), fun _ => nx_, fun z => absurd hcm z⟩⟩, fun z => absurd rfl z⟩
  · have nx_ := ih _ g2 (I.next c r c2 q2 up xb)
    unfold wX10_thrown
    rw [if_pos hn, e2]
    exact ⟨q2.1.o, q2.1.o, fun _ => ⟨fun _ => nx_, fun z => absurd z (by decide)⟩, fun z => absurd rfl z⟩
theorem l_usedShare (I : LI w X S L h) (hw : w + 12 ≤ 6200) (k : ∀ g, lcl h g → RBc g X → (gn (aL (bA X)) ≠ 0 → mL g 620 0 = (FP.f2d (FP.fdiv (FP.i2f (nI (pc (hbt (aT (bA X)))))) (FP.i2f (nI (gn (aL (bA X))))))).toInt64) → K (if gn (aL (bA X)) = 0 then nI 1 else nI 0) g) : wL_usedShare 64 620 h K := by
  have gk := I.1.gk I.2.2.1
  have ip := gk.2.2
  have bn : BN (bA X) := I.2.2.1.1.2.bn (by omega)
  have xb := I.2.2.2.1
  have hC : aC (bA X) ≤ 9000 := by have := bn.1; omega
  have im := gk.ims hC
  have e1 := I.2.2.2.2.2.2
  have ln1 : ln h 620 = 1 := congrArg Prod.snd e1
  have z0 : (nI 0).toNatClampNeg = 0 := nI_clamp (by decide)
  have h12 := gk.1.1
  refine ⟨I.1.o, c9_usedShare I.1 ip (fun hn => ⟨?_, congrArg Prod.fst e1, by decide, by rw [ln1]; exact vp_in_nI (by decide) (by decide), fun h6 e6 => ?_⟩) (fun hn => ⟨rfl, ?_⟩)⟩
  · obtain ⟨m, hm⟩ : ∃ m, gn (aL (bA X)) = m + 1 := ⟨gn (aL (bA X)) - 1, by omega⟩
    have := ff_ok (pc (hbt (aT (bA X)))) (by have := pc_le (hbt (aT (bA X))); omega) m (by omega)
    rw [← hm] at this
    exact this.2.1
  · rw [z0] at e6
    have := k h6 (by rw [e6]; exact lcl.ul (Or.inr rfl)) (by rw [e6]; exact I.1.ul (Or.inr rfl)) (fun _ => by rw [e6, mL_uL, if_pos ⟨rfl, rfl⟩])
    rw [if_neg hn] at this
    exact this
  · have := k h (lcl.rf h) I.1 (fun z => absurd hn z)
    rw [if_pos hn] at this
    exact this
theorem LA_usedShare (I : LI w X S L h) (hw : w + 12 ≤ 6200) {i : Nat} (hi : i + 3 < L) (hL : L ≤ 2048) {C : Nat → Nat → Nat → Nat → Nat → Int32 → AH → Prop} (ih : ∀ X' g, LI (w + 12) X' S L g → C 63 64 606 619 620 (nI (i + 4)) g) : wL_law_J2430 K C 63 64 606 619 620 (nI i) h := by
  have gk := I.1.gk I.2.2.1
  have ip := gk.2.2
  have bn : BN (bA X) := I.2.2.1.1.2.bn (by omega)
  have xb := I.2.2.2.1
  have hC : aC (bA X) ≤ 9000 := by have := bn.1; omega
  have im := gk.ims hC
  have up := I.2.2.1.up (show w ≤ w + 12 by omega)
  have va := I.va hi hL
  unfold wL_law_J2430
  simp only [nI_add]
  refine l_usedShare I hw (fun g c r e => ?_)
  obtain ⟨a63, v63, e63, o6, q, s19, s20⟩ := I.go c hi hL
  have z0 : (nI 0).toNatClampNeg = 0 := nI_clamp (by decide)
  have h12 := gk.1.1
  refine ⟨o6, m9_usedShare q im (fun hn g2 c2 q2 e2 => ?_) (fun hn g2 c2 q2 e2 => ?_)⟩
  · have s29 : mS g2 620 = (102, 1) := by rw [c2.2.1]; exact s20
    have ln2 : ln g2 620 = 1 := congrArg Prod.snd s29
    have em : mL g2 620 0 = (FP.f2d (FP.fdiv (FP.i2f (nI (pc (hbt (aT (bA X)))))) (FP.i2f (nI (gn (aL (bA X))))))).toInt64 := by rw [c2.2.2.2.1]; exact e hn
    obtain ⟨m, hm⟩ : ∃ m, gn (aL (bA X)) = m + 1 := ⟨gn (aL (bA X)) - 1, by omega⟩
    have hff := ff_ok (pc (hbt (aT (bA X)))) (by have := pc_le (hbt (aT (bA X))); omega) m (by omega)
    rw [← hm] at hff
    have nx_ := ih _ g2 (I.next c r c2 q2 up xb)
    unfold wX10_thrown
    rw [if_neg hn, e2, z0]
    dsimp only
    rw [em, u64_i]
    exact ⟨q2.1.o, q2.1.o, fun _ => ⟨fun z => absurd rfl z, fun _ => ⟨congrArg Prod.fst s29, by decide, by rw [ln2]; exact vp_in_nI (by decide) (by decide), hff.2.1, fun _ => nx_, fun z => absurd hff.2.2 z⟩⟩, fun z => absurd rfl z⟩
  · have nx_ := ih _ g2 (I.next c r c2 q2 up xb)
    unfold wX10_thrown
    rw [if_pos hn, e2]
    exact ⟨q2.1.o, q2.1.o, fun _ => ⟨fun _ => nx_, fun z => absurd z (by decide)⟩, fun z => absurd rfl z⟩
end LAC
