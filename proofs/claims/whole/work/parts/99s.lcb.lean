/-! THE LAW: its cases (printed by gencase.py) -/
section LAC
variable {h g : AH} {X X' : BG} {w L : Nat} {S : Nat → Int32} {K : Int32 → AH → Prop}
theorem LA_blockOf (I : LI w X S L h) (hw : w + 12 ≤ 6200) {i : Nat} (hi : i + 3 < L) (hL : L ≤ 2048) {C : Nat → Nat → Nat → Nat → Nat → Int32 → AH → Prop} (ih : ∀ X' g, LI (w + 12) X' S L g → C 63 64 606 619 620 (nI (i + 4)) g) : wL_law_J1517 K C 63 64 606 619 620 (nI i) h := by
  have gk := I.1.gk I.2.2.1
  have ip := gk.2.2
  have bn : BN (bA X) := I.2.2.1.1.2.bn (by omega)
  have xb := I.2.2.2.1
  have hC : aC (bA X) ≤ 9000 := by have := bn.1; omega
  have im := gk.ims hC
  have up := I.2.2.1.up (show w ≤ w + 12 by omega)
  have va := I.va hi hL
  unfold wL_law_J1517
  simp only [nI_add, I.cl i (by omega)]
  have hle : (qT (fun t => nI (tb t)) (bA X) (mI h 63 (i + 1))).1 ≤ 1 := q_l_blockOf
  refine ⟨I.sA, va.1 1 (by decide), l_blockOf I hw (fun g c r e => ?_)⟩
  obtain ⟨a63, v63, e63, o6, q, s19, s20⟩ := I.go c hi hL
  simp only [e63]
  refine ⟨a63, v63 1 (by decide), o6, m9_blockOf q im (fun g2 c2 q2 e2 => tlI q2.1 e2 (by rw [c2.2.1]; exact s19) (by omega) (fun z => ?_) (ih _ g2 (I.next c r c2 q2 up xb)))⟩
  rw [c2.2.2.2.1]
  exact e z
theorem LA_destination (I : LI w X S L h) (hw : w + 12 ≤ 6200) {i : Nat} (hi : i + 3 < L) (hL : L ≤ 2048) {C : Nat → Nat → Nat → Nat → Nat → Int32 → AH → Prop} (ih : ∀ X' g, LI (w + 12) X' S L g → C 63 64 606 619 620 (nI (i + 4)) g) : wL_law_J1573 K C 63 64 606 619 620 (nI i) h := by
  have gk := I.1.gk I.2.2.1
  have ip := gk.2.2
  have bn : BN (bA X) := I.2.2.1.1.2.bn (by omega)
  have xb := I.2.2.2.1
  have hC : aC (bA X) ≤ 9000 := by have := bn.1; omega
  have im := gk.ims hC
  have up := I.2.2.1.up (show w ≤ w + 12 by omega)
  have va := I.va hi hL
  unfold wL_law_J1573
  simp only [nI_add, I.cl i (by omega)]
  have hle : (qT (fun t => nI (td t)) (bA X) (mI h 63 (i + 1))).1 ≤ 1 := q_l_destination
  refine ⟨I.sA, va.1 1 (by decide), l_destination I hw (fun g c r e => ?_)⟩
  obtain ⟨a63, v63, e63, o6, q, s19, s20⟩ := I.go c hi hL
  simp only [e63]
  refine ⟨a63, v63 1 (by decide), o6, m9_destination q im (fun g2 c2 q2 e2 => tlI q2.1 e2 (by rw [c2.2.1]; exact s19) (by omega) (fun z => ?_) (ih _ g2 (I.next c r c2 q2 up xb)))⟩
  rw [c2.2.2.2.1]
  exact e z
theorem LA_hasRoute (I : LI w X S L h) (hw : w + 12 ≤ 6200) {i : Nat} (hi : i + 3 < L) (hL : L ≤ 2048) {C : Nat → Nat → Nat → Nat → Nat → Int32 → AH → Prop} (ih : ∀ X' g, LI (w + 12) X' S L g → C 63 64 606 619 620 (nI (i + 4)) g) : wL_law_J1629 K C 63 64 606 619 620 (nI i) h := by
  have gk := I.1.gk I.2.2.1
  have ip := gk.2.2
  have bn : BN (bA X) := I.2.2.1.1.2.bn (by omega)
  have xb := I.2.2.2.1
  have hC : aC (bA X) ≤ 9000 := by have := bn.1; omega
  have im := gk.ims hC
  have up := I.2.2.1.up (show w ≤ w + 12 by omega)
  have va := I.va hi hL
  unfold wL_law_J1629 wL_law_J1683
  simp only [nI_add, I.cl i (by omega)]
  have hle : (qT (fun t => if tr t = [] then nI 0 else nI 1) (bA X) (mI h 63 (i + 1))).1 ≤ 1 := q_l_hasRoute
  refine ⟨I.sA, va.1 1 (by decide), l_hasRoute I hw (fun g c r e => ?_)⟩
  obtain ⟨a63, v63, e63, o6, q, s19, s20⟩ := I.go c hi hL
  simp only [e63]
  refine ⟨a63, v63 1 (by decide), o6, m9_hasRoute q im (fun g2 c2 q2 e2 => tlB q2.1 e2 (by rw [c2.2.1]; exact s19) (by omega) (fun z => ?_) q_b_hasRoute (ih _ g2 (I.next c r c2 q2 up xb)))⟩
  rw [c2.2.2.2.1]
  exact e z
theorem LA_isClear (I : LI w X S L h) (hw : w + 12 ≤ 6200) {i : Nat} (hi : i + 3 < L) (hL : L ≤ 2048) {C : Nat → Nat → Nat → Nat → Nat → Int32 → AH → Prop} (ih : ∀ X' g, LI (w + 12) X' S L g → C 63 64 606 619 620 (nI (i + 4)) g) : wL_law_J1692 K C 63 64 606 619 620 (nI i) h := by
  have gk := I.1.gk I.2.2.1
  have ip := gk.2.2
  have bn : BN (bA X) := I.2.2.1.1.2.bn (by omega)
  have xb := I.2.2.2.1
  have hC : aC (bA X) ≤ 9000 := by have := bn.1; omega
  have im := gk.ims hC
  have up := I.2.2.1.up (show w ≤ w + 12 by omega)
  have va := I.va hi hL
  unfold wL_law_J1692 wL_law_J1746
  simp only [nI_add, I.cl i (by omega)]
  have hle : (qT (fun t => if can (bA X) t = true then nI 1 else nI 0) (bA X) (mI h 63 (i + 1))).1 ≤ 1 := q_l_isClear
  refine ⟨I.sA, va.1 1 (by decide), l_isClear I hw (fun g c r e => ?_)⟩
  obtain ⟨a63, v63, e63, o6, q, s19, s20⟩ := I.go c hi hL
  simp only [e63]
  refine ⟨a63, v63 1 (by decide), o6, m9_isClear q gk hC (fun g2 c2 q2 e2 => tlB q2.1 e2 (by rw [c2.2.1]; exact s19) (by omega) (fun z => ?_) q_b_isClear (ih _ g2 (I.next c r c2 q2 up xb)))⟩
  rw [c2.2.2.2.1]
  exact e z
theorem LA_minutesUntilNext (I : LI w X S L h) (hw : w + 12 ≤ 6200) {i : Nat} (hi : i + 3 < L) (hL : L ≤ 2048) {C : Nat → Nat → Nat → Nat → Nat → Int32 → AH → Prop} (ih : ∀ X' g, LI (w + 12) X' S L g → C 63 64 606 619 620 (nI (i + 4)) g) : wL_law_J1755 K C 63 64 606 619 620 (nI i) h := by
  have gk := I.1.gk I.2.2.1
  have ip := gk.2.2
  have bn : BN (bA X) := I.2.2.1.1.2.bn (by omega)
  have xb := I.2.2.2.1
  have hC : aC (bA X) ≤ 9000 := by have := bn.1; omega
  have im := gk.ims hC
  have up := I.2.2.1.up (show w ≤ w + 12 by omega)
  have va := I.va hi hL
  unfold wL_law_J1755
  simp only [nI_add, I.cl i (by omega)]
  have hle : (qR (fun t => nI (tu t - aM (bA X))) (bA X) (mI h 63 (i + 1))).1 ≤ 1 := q_l_minutesUntilNext
  refine ⟨I.sA, va.1 1 (by decide), l_minutesUntilNext I hw (fun g c r e => ?_)⟩
  obtain ⟨a63, v63, e63, o6, q, s19, s20⟩ := I.go c hi hL
  simp only [e63]
  refine ⟨a63, v63 1 (by decide), o6, m9_minutesUntilNext q gk hC (fun g2 c2 q2 e2 => tlI q2.1 e2 (by rw [c2.2.1]; exact s19) (by omega) (fun z => ?_) (ih _ g2 (I.next c r c2 q2 up xb)))⟩
  rw [c2.2.2.2.1]
  exact e z
theorem LA_minutesUntilArrival (I : LI w X S L h) (hw : w + 12 ≤ 6200) {i : Nat} (hi : i + 3 < L) (hL : L ≤ 2048) {C : Nat → Nat → Nat → Nat → Nat → Int32 → AH → Prop} (ih : ∀ X' g, LI (w + 12) X' S L g → C 63 64 606 619 620 (nI (i + 4)) g) : wL_law_J1811 K C 63 64 606 619 620 (nI i) h := by
  have gk := I.1.gk I.2.2.1
  have ip := gk.2.2
  have bn : BN (bA X) := I.2.2.1.1.2.bn (by omega)
  have xb := I.2.2.2.1
  have hC : aC (bA X) ≤ 9000 := by have := bn.1; omega
  have im := gk.ims hC
  have up := I.2.2.1.up (show w ≤ w + 12 by omega)
  have va := I.va hi hL
  unfold wL_law_J1811
  simp only [nI_add, I.cl i (by omega)]
  have hle : (qR (fun t => nI (rem (bA X) t)) (bA X) (mI h 63 (i + 1))).1 ≤ 1 := q_l_minutesUntilArrival
  refine ⟨I.sA, va.1 1 (by decide), l_minutesUntilArrival I hw (fun g c r e => ?_)⟩
  obtain ⟨a63, v63, e63, o6, q, s19, s20⟩ := I.go c hi hL
  simp only [e63]
  refine ⟨a63, v63 1 (by decide), o6, m9_minutesUntilArrival q gk hC (fun g2 c2 q2 e2 => tlI q2.1 e2 (by rw [c2.2.1]; exact s19) (by omega) (fun z => ?_) (ih _ g2 (I.next c r c2 q2 up xb)))⟩
  rw [c2.2.2.2.1]
  exact e z
theorem LA_delay (I : LI w X S L h) (hw : w + 12 ≤ 6200) {i : Nat} (hi : i + 3 < L) (hL : L ≤ 2048) {C : Nat → Nat → Nat → Nat → Nat → Int32 → AH → Prop} (ih : ∀ X' g, LI (w + 12) X' S L g → C 63 64 606 619 620 (nI (i + 4)) g) : wL_law_J1923 K C 63 64 606 619 620 (nI i) h := by
  have gk := I.1.gk I.2.2.1
  have ip := gk.2.2
  have bn : BN (bA X) := I.2.2.1.1.2.bn (by omega)
  have xb := I.2.2.2.1
  have hC : aC (bA X) ≤ 9000 := by have := bn.1; omega
  have im := gk.ims hC
  have up := I.2.2.1.up (show w ≤ w + 12 by omega)
  have va := I.va hi hL
  unfold wL_law_J1923
  simp only [nI_add, I.cl i (by omega)]
  have hle : (qT (fun t => nI (tl t)) (bA X) (mI h 63 (i + 1))).1 ≤ 1 := q_l_delay
  refine ⟨I.sA, va.1 1 (by decide), l_delay I hw (fun g c r e => ?_)⟩
  obtain ⟨a63, v63, e63, o6, q, s19, s20⟩ := I.go c hi hL
  simp only [e63]
  refine ⟨a63, v63 1 (by decide), o6, m9_delay q im (fun g2 c2 q2 e2 => tlI q2.1 e2 (by rw [c2.2.1]; exact s19) (by omega) (fun z => ?_) (ih _ g2 (I.next c r c2 q2 up xb)))⟩
  rw [c2.2.2.2.1]
  exact e z
theorem LA_queued (I : LI w X S L h) (hw : w + 12 ≤ 6200) {i : Nat} (hi : i + 3 < L) (hL : L ≤ 2048) {C : Nat → Nat → Nat → Nat → Nat → Int32 → AH → Prop} (ih : ∀ X' g, LI (w + 12) X' S L g → C 63 64 606 619 620 (nI (i + 4)) g) : wL_law_J1979 K C 63 64 606 619 620 (nI i) h := by
  have gk := I.1.gk I.2.2.1
  have ip := gk.2.2
  have bn : BN (bA X) := I.2.2.1.1.2.bn (by omega)
  have xb := I.2.2.2.1
  have hC : aC (bA X) ≤ 9000 := by have := bn.1; omega
  have im := gk.ims hC
  have up := I.2.2.1.up (show w ≤ w + 12 by omega)
  have va := I.va hi hL
  unfold wL_law_J1979
  simp only [nI_add, I.cl i (by omega)]
  have hle : (qQ (bA X) (mI h 63 (i + 1))).1 ≤ 1 := q_l_queued
  refine ⟨I.sA, va.1 1 (by decide), l_queued I hw (fun g c r e => ?_)⟩
  obtain ⟨a63, v63, e63, o6, q, s19, s20⟩ := I.go c hi hL
  simp only [e63]
  refine ⟨a63, v63 1 (by decide), o6, m9_queued q im (fun g2 c2 q2 e2 => tlI q2.1 e2 (by rw [c2.2.1]; exact s19) (by omega) (fun z => ?_) (ih _ g2 (I.next c r c2 q2 up xb)))⟩
  rw [c2.2.2.2.1]
  exact e z
theorem LA_waitsFor (I : LI w X S L h) (hw : w + 12 ≤ 6200) {i : Nat} (hi : i + 3 < L) (hL : L ≤ 2048) {C : Nat → Nat → Nat → Nat → Nat → Int32 → AH → Prop} (ih : ∀ X' g, LI (w + 12) X' S L g → C 63 64 606 619 620 (nI (i + 4)) g) : wL_law_J2035 K C 63 64 606 619 620 (nI i) h := by
  have gk := I.1.gk I.2.2.1
  have ip := gk.2.2
  have bn : BN (bA X) := I.2.2.1.1.2.bn (by omega)
  have xb := I.2.2.2.1
  have hC : aC (bA X) ≤ 9000 := by have := bn.1; omega
  have im := gk.ims hC
  have up := I.2.2.1.up (show w ≤ w + 12 by omega)
  have va := I.va hi hL
  unfold wL_law_J2035 wL_law_J2101
  simp only [nI_add, I.cl i (by omega)]
  have hle : (qW (bA X) (mI h 63 (i + 1)) (mI h 63 (i + 2))).1 ≤ 1 := q_l_waitsFor
  refine ⟨I.sA, va.1 1 (by decide), va.1 2 (by decide), l_waitsFor I hw (fun g c r e => ?_)⟩
  obtain ⟨a63, v63, e63, o6, q, s19, s20⟩ := I.go c hi hL
  simp only [e63]
  refine ⟨a63, v63 1 (by decide), v63 2 (by decide), o6, m9_waitsFor q gk hC (fun g2 c2 q2 e2 => tlB q2.1 e2 (by rw [c2.2.1]; exact s19) (by omega) (fun z => ?_) q_b_waitsFor (ih _ g2 (I.next c r c2 q2 up xb)))⟩
  rw [c2.2.2.2.1]
  exact e z
theorem LA_conflict (I : LI w X S L h) (hw : w + 12 ≤ 6200) {i : Nat} (hi : i + 3 < L) (hL : L ≤ 2048) {C : Nat → Nat → Nat → Nat → Nat → Int32 → AH → Prop} (ih : ∀ X' g, LI (w + 12) X' S L g → C 63 64 606 619 620 (nI (i + 4)) g) : wL_law_J2136 K C 63 64 606 619 620 (nI i) h := by
  have gk := I.1.gk I.2.2.1
  have ip := gk.2.2
  have bn : BN (bA X) := I.2.2.1.1.2.bn (by omega)
  have xb := I.2.2.2.1
  have hC : aC (bA X) ≤ 9000 := by have := bn.1; omega
  have im := gk.ims hC
  have up := I.2.2.1.up (show w ≤ w + 12 by omega)
  have va := I.va hi hL
  unfold wL_law_J2136 wL_law_J2202
  simp only [nI_add, I.cl i (by omega)]
  have hle : (qC (bA X) (mI h 63 (i + 1)) (mI h 63 (i + 2))).1 ≤ 2 := q_l_conflict
  refine ⟨I.sA, va.1 1 (by decide), va.1 2 (by decide), l_conflict I hw (fun g c r e => ?_)⟩
  obtain ⟨a63, v63, e63, o6, q, s19, s20⟩ := I.go c hi hL
  simp only [e63]
  refine ⟨a63, v63 1 (by decide), v63 2 (by decide), o6, m9_conflict q gk hC (fun g2 c2 q2 e2 => tlB q2.1 e2 (by rw [c2.2.1]; exact s19) (by omega) (fun z => ?_) q_b_conflict (ih _ g2 (I.next c r c2 q2 up xb)))⟩
  rw [c2.2.2.2.1]
  exact e z
theorem LA_refusalReason (I : LI w X S L h) (hw : w + 12 ≤ 6200) {i : Nat} (hi : i + 3 < L) (hL : L ≤ 2048) {C : Nat → Nat → Nat → Nat → Nat → Int32 → AH → Prop} (ih : ∀ X' g, LI (w + 12) X' S L g → C 63 64 606 619 620 (nI (i + 4)) g) : wL_law_J2237 K C 63 64 606 619 620 (nI i) h := by
  have gk := I.1.gk I.2.2.1
  have ip := gk.2.2
  have bn : BN (bA X) := I.2.2.1.1.2.bn (by omega)
  have xb := I.2.2.2.1
  have hC : aC (bA X) ≤ 9000 := by have := bn.1; omega
  have im := gk.ims hC
  have up := I.2.2.1.up (show w ≤ w + 12 by omega)
  have va := I.va hi hL
  unfold wL_law_J2237
  simp only [nI_add, I.cl i (by omega)]
  have hle : ((if bY X = 0 then (1, nI 0) else (0, nI (bY X)) : QA)).1 ≤ 1 := q_l_refusalReason
  refine l_refusalReason I hw (fun g c r e => ?_)
  obtain ⟨a63, v63, e63, o6, q, s19, s20⟩ := I.go c hi hL
  have := e63
  refine ⟨o6, m9_refusalReason q xb.1 (fun g2 c2 q2 e2 => tlI q2.1 e2 (by rw [c2.2.1]; exact s19) (by omega) (fun z => ?_) (ih _ g2 (I.next c r c2 q2 up xb)))⟩
  rw [c2.2.2.2.1]
  exact e z
theorem LA_refusalBlock (I : LI w X S L h) (hw : w + 12 ≤ 6200) {i : Nat} (hi : i + 3 < L) (hL : L ≤ 2048) {C : Nat → Nat → Nat → Nat → Nat → Int32 → AH → Prop} (ih : ∀ X' g, LI (w + 12) X' S L g → C 63 64 606 619 620 (nI (i + 4)) g) : wL_law_J2281 K C 63 64 606 619 620 (nI i) h := by
  have gk := I.1.gk I.2.2.1
  have ip := gk.2.2
  have bn : BN (bA X) := I.2.2.1.1.2.bn (by omega)
  have xb := I.2.2.2.1
  have hC : aC (bA X) ≤ 9000 := by have := bn.1; omega
  have im := gk.ims hC
  have up := I.2.2.1.up (show w ≤ w + 12 by omega)
  have va := I.va hi hL
  unfold wL_law_J2281
  simp only [nI_add, I.cl i (by omega)]
  have hle : (qO (bB X)).1 ≤ 1 := q_l_refusalBlock
  refine l_refusalBlock I hw (fun g c r e => ?_)
  obtain ⟨a63, v63, e63, o6, q, s19, s20⟩ := I.go c hi hL
  have := e63
  refine ⟨o6, m9_refusalBlock q xb.2.1 (fun g2 c2 q2 e2 => tlI q2.1 e2 (by rw [c2.2.1]; exact s19) (by omega) (fun z => ?_) (ih _ g2 (I.next c r c2 q2 up xb)))⟩
  rw [c2.2.2.2.1]
  exact e z
theorem LA_errorPosition (I : LI w X S L h) (hw : w + 12 ≤ 6200) {i : Nat} (hi : i + 3 < L) (hL : L ≤ 2048) {C : Nat → Nat → Nat → Nat → Nat → Int32 → AH → Prop} (ih : ∀ X' g, LI (w + 12) X' S L g → C 63 64 606 619 620 (nI (i + 4)) g) : wL_law_J2736 K C 63 64 606 619 620 (nI i) h := by
  have gk := I.1.gk I.2.2.1
  have ip := gk.2.2
  have bn : BN (bA X) := I.2.2.1.1.2.bn (by omega)
  have xb := I.2.2.2.1
  have hC : aC (bA X) ≤ 9000 := by have := bn.1; omega
  have im := gk.ims hC
  have up := I.2.2.1.up (show w ≤ w + 12 by omega)
  have va := I.va hi hL
  unfold wL_law_J2736
  simp only [nI_add, I.cl i (by omega)]
  have hle : (qO (bE X)).1 ≤ 1 := q_l_errorPosition
  refine l_errorPosition I hw (fun g c r e => ?_)
  obtain ⟨a63, v63, e63, o6, q, s19, s20⟩ := I.go c hi hL
  have := e63
  refine ⟨o6, m9_errorPosition q xb.2.2.1 (fun g2 c2 q2 e2 => tlI q2.1 e2 (by rw [c2.2.1]; exact s19) (by omega) (fun z => ?_) (ih _ g2 (I.next c r c2 q2 up xb)))⟩
  rw [c2.2.2.2.1]
  exact e z
theorem LA_failedCommand (I : LI w X S L h) (hw : w + 12 ≤ 6200) {i : Nat} (hi : i + 3 < L) (hL : L ≤ 2048) {C : Nat → Nat → Nat → Nat → Nat → Int32 → AH → Prop} (ih : ∀ X' g, LI (w + 12) X' S L g → C 63 64 606 619 620 (nI (i + 4)) g) : wL_law_J2780 K C 63 64 606 619 620 (nI i) h := by
  have gk := I.1.gk I.2.2.1
  have ip := gk.2.2
  have bn : BN (bA X) := I.2.2.1.1.2.bn (by omega)
  have xb := I.2.2.2.1
  have hC : aC (bA X) ≤ 9000 := by have := bn.1; omega
  have im := gk.ims hC
  have up := I.2.2.1.up (show w ≤ w + 12 by omega)
  have va := I.va hi hL
  unfold wL_law_J2780
  simp only [nI_add, I.cl i (by omega)]
  have hle : (qO (bX X)).1 ≤ 1 := q_l_failedCommand
  refine l_failedCommand I hw (fun g c r e => ?_)
  obtain ⟨a63, v63, e63, o6, q, s19, s20⟩ := I.go c hi hL
  have := e63
  refine ⟨o6, m9_failedCommand q xb.2.2.2.1 (fun g2 c2 q2 e2 => tlI q2.1 e2 (by rw [c2.2.1]; exact s19) (by omega) (fun z => ?_) (ih _ g2 (I.next c r c2 q2 up xb)))⟩
  rw [c2.2.2.2.1]
  exact e z
theorem LA_charAt (I : LI w X S L h) (hw : w + 12 ≤ 6200) {i : Nat} (hi : i + 3 < L) (hL : L ≤ 2048) {C : Nat → Nat → Nat → Nat → Nat → Int32 → AH → Prop} (ih : ∀ X' g, LI (w + 12) X' S L g → C 63 64 606 619 620 (nI (i + 4)) g) : wL_law_J2578 K C 63 64 606 619 620 (nI i) h := by
  have gk := I.1.gk I.2.2.1
  have ip := gk.2.2
  have bn : BN (bA X) := I.2.2.1.1.2.bn (by omega)
  have xb := I.2.2.2.1
  have hC : aC (bA X) ≤ 9000 := by have := bn.1; omega
  have im := gk.ims hC
  have up := I.2.2.1.up (show w ≤ w + 12 by omega)
  have va := I.va hi hL
  unfold wL_law_J2578
  simp only [nI_add, I.cl i (by omega)]
  have hle : (qCh X (mI h 63 (i + 1))).1 ≤ 1 := q_l_charAt
  refine ⟨I.sA, va.1 1 (by decide), l_charAt I hw (fun g c r e => ?_)⟩
  obtain ⟨a63, v63, e63, o6, q, s19, s20⟩ := I.go c hi hL
  simp only [e63]
  refine ⟨a63, v63 1 (by decide), o6, m9_charAt q (by have := xb.2.2.2.2; omega) xb.2.2.2.2 I.1.bo (fun g2 c2 q2 e2 => tlI q2.1 e2 (by rw [c2.2.1]; exact s19) (by omega) (fun z => ?_) (ih _ g2 (I.next c r c2 q2 up xb)))⟩
  rw [c2.2.2.2.1]
  exact e z
theorem LA_blocks (I : LI w X S L h) (hw : w + 12 ≤ 6200) {i : Nat} (hi : i + 3 < L) (hL : L ≤ 2048) {C : Nat → Nat → Nat → Nat → Nat → Int32 → AH → Prop} (ih : ∀ X' g, LI (w + 12) X' S L g → C 63 64 606 619 620 (nI (i + 4)) g) : wL_law_J895 K C 63 64 606 619 620 (nI i) h := by
  have gk := I.1.gk I.2.2.1
  have ip := gk.2.2
  have bn : BN (bA X) := I.2.2.1.1.2.bn (by omega)
  have xb := I.2.2.2.1
  have hC : aC (bA X) ≤ 9000 := by have := bn.1; omega
  have im := gk.ims hC
  have up := I.2.2.1.up (show w ≤ w + 12 by omega)
  have va := I.va hi hL
  unfold wL_law_J895
  simp only [nI_add, I.cl i (by omega)]
  have c := lcl.rf h
  obtain ⟨a63, v63, e63, o6, q, s19, s20⟩ := I.go c hi hL
  refine ⟨I.1.o, c9_blocks (T := True) I.1  ⟨o6, m9_blocks q (fun g2 c2 q2 e2 => ⟨fun _ => ih _ g2 (I.next c I.1 c2 q2 up xb), fun z => absurd rfl z⟩)⟩⟩
theorem LA_trains (I : LI w X S L h) (hw : w + 12 ≤ 6200) {i : Nat} (hi : i + 3 < L) (hL : L ≤ 2048) {C : Nat → Nat → Nat → Nat → Nat → Int32 → AH → Prop} (ih : ∀ X' g, LI (w + 12) X' S L g → C 63 64 606 619 620 (nI (i + 4)) g) : wL_law_J1479 K C 63 64 606 619 620 (nI i) h := by
  have gk := I.1.gk I.2.2.1
  have ip := gk.2.2
  have bn : BN (bA X) := I.2.2.1.1.2.bn (by omega)
  have xb := I.2.2.2.1
  have hC : aC (bA X) ≤ 9000 := by have := bn.1; omega
  have im := gk.ims hC
  have up := I.2.2.1.up (show w ≤ w + 12 by omega)
  have va := I.va hi hL
  unfold wL_law_J1479
  simp only [nI_add, I.cl i (by omega)]
  have c := lcl.rf h
  obtain ⟨a63, v63, e63, o6, q, s19, s20⟩ := I.go c hi hL
  refine ⟨I.1.o, c9_trains I.1  ⟨o6, m9_trains q (fun g2 c2 q2 e2 => ⟨fun _ => ih _ g2 (I.next c I.1 c2 q2 up xb), fun z => absurd rfl z⟩)⟩⟩
theorem LA_time (I : LI w X S L h) (hw : w + 12 ≤ 6200) {i : Nat} (hi : i + 3 < L) (hL : L ≤ 2048) {C : Nat → Nat → Nat → Nat → Nat → Int32 → AH → Prop} (ih : ∀ X' g, LI (w + 12) X' S L g → C 63 64 606 619 620 (nI (i + 4)) g) : wL_law_J2325 K C 63 64 606 619 620 (nI i) h := by
  have gk := I.1.gk I.2.2.1
  have ip := gk.2.2
  have bn : BN (bA X) := I.2.2.1.1.2.bn (by omega)
  have xb := I.2.2.2.1
  have hC : aC (bA X) ≤ 9000 := by have := bn.1; omega
  have im := gk.ims hC
  have up := I.2.2.1.up (show w ≤ w + 12 by omega)
  have va := I.va hi hL
  unfold wL_law_J2325
  simp only [nI_add, I.cl i (by omega)]
  have c := lcl.rf h
  obtain ⟨a63, v63, e63, o6, q, s19, s20⟩ := I.go c hi hL
  refine ⟨I.1.o, c9_time I.1  ⟨o6, m9_time q (fun g2 c2 q2 e2 => ⟨fun _ => ih _ g2 (I.next c I.1 c2 q2 up xb), fun z => absurd rfl z⟩)⟩⟩
theorem LA_arrived (I : LI w X S L h) (hw : w + 12 ≤ 6200) {i : Nat} (hi : i + 3 < L) (hL : L ≤ 2048) {C : Nat → Nat → Nat → Nat → Nat → Int32 → AH → Prop} (ih : ∀ X' g, LI (w + 12) X' S L g → C 63 64 606 619 620 (nI (i + 4)) g) : wL_law_J2338 K C 63 64 606 619 620 (nI i) h := by
  have gk := I.1.gk I.2.2.1
  have ip := gk.2.2
  have bn : BN (bA X) := I.2.2.1.1.2.bn (by omega)
  have xb := I.2.2.2.1
  have hC : aC (bA X) ≤ 9000 := by have := bn.1; omega
  have im := gk.ims hC
  have up := I.2.2.1.up (show w ≤ w + 12 by omega)
  have va := I.va hi hL
  unfold wL_law_J2338
  simp only [nI_add, I.cl i (by omega)]
  have c := lcl.rf h
  obtain ⟨a63, v63, e63, o6, q, s19, s20⟩ := I.go c hi hL
  refine ⟨I.1.o, c9_arrived I.1  ⟨o6, m9_arrived q (fun g2 c2 q2 e2 => ⟨fun _ => ih _ g2 (I.next c I.1 c2 q2 up xb), fun z => absurd rfl z⟩)⟩⟩
end LAC
