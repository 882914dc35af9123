/-! THE LAW: its cases (printed by gencase.py) -/
section LAC
variable {h g : AH} {X X' : BG} {w L : Nat} {S : Nat → Int32} {K : Int32 → AH → Prop}
theorem lg_eq (x : Int64) : lg_cmp x x = nI 0 := by
  unfold lg_cmp
  rw [if_neg (fun z => by rw [gt_iff_lt, Int64.lt_iff_toInt_lt] at z; omega), if_pos rfl]
  rfl
theorem tlI {C B : AH → Prop} {m : Nat} {v : Int32} (s : sM g) (e0 : mI g 606 0 = nI m) (e1 : mS g 619 = (101, 1)) (hm : m < 2 ^ 31) (hv : m = 0 → mL g 619 0 = v.toInt64) (k : C g) : isO g 606 7 ∧ wX10_thrown 606 g (fun r21 h20 => ((r21 = nI m → ((¬ nI m = nI 0 → C h20) ∧ (nI m = nI 0 → (isA h20 619 1) ∧ (vp_in (nI 0) (ln h20 619)) ∧ (((lg_cmp (mL h20 619 (nI 0).toNatClampNeg) v.toInt64) = nI 0 → C h20) ∧ (¬ (lg_cmp (mL h20 619 (nI 0).toNatClampNeg) v.toInt64) = nI 0 → B h20))))) ∧ (¬ r21 = nI m → B h20))) := by
  have ln1 : ln g 619 = 1 := congrArg Prod.snd e1
  have z0 : (nI 0).toNatClampNeg = 0 := nI_clamp (by decide)
  unfold wX10_thrown
  rw [e0]
  refine ⟨s.o, s.o, fun _ => ⟨fun _ => k, fun z => ⟨congrArg Prod.fst e1, by rw [ln1]; exact vp_in_nI (by decide) (by decide), fun _ => k, fun y => absurd ?_ y⟩⟩, fun z => absurd rfl z⟩
  rw [nI_z hm] at z
  rw [z0, hv z, lg_eq]
theorem tlB {C B : AH → Prop} {m : Nat} {v : Int32} (s : sM g) (e0 : mI g 606 0 = nI m) (e1 : mS g 619 = (101, 1)) (hm : m < 2 ^ 31) (hv : m = 0 → mL g 619 0 = v.toInt64) (hb : v = nI 0 ∨ v = nI 1) (k : C g) : isO g 606 7 ∧ wX10_thrown 606 g (fun r21 h20 => ((r21 = nI m → ((¬ nI m = nI 0 → C h20) ∧ (nI m = nI 0 → (isA h20 619 1) ∧ (vp_in (nI 0) (ln h20 619)) ∧ ((v = nI 0 → (((lg_cmp (mL h20 619 (nI 0).toNatClampNeg) 0) = nI 0 → C h20) ∧ (¬ (lg_cmp (mL h20 619 (nI 0).toNatClampNeg) 0) = nI 0 → B h20))) ∧ (¬ v = nI 0 → (((lg_cmp (mL h20 619 (nI 0).toNatClampNeg) 1) = nI 0 → C h20) ∧ (¬ (lg_cmp (mL h20 619 (nI 0).toNatClampNeg) 1) = nI 0 → B h20))))))) ∧ (¬ r21 = nI m → B h20))) := by
  have ln1 : ln g 619 = 1 := congrArg Prod.snd e1
  have z0 : (nI 0).toNatClampNeg = 0 := nI_clamp (by decide)
  unfold wX10_thrown
  rw [e0]
  refine ⟨s.o, s.o, fun _ => ⟨fun _ => k, fun z => ⟨congrArg Prod.fst e1, by rw [ln1]; exact vp_in_nI (by decide) (by decide), fun y => ⟨fun _ => k, fun u => absurd ?_ u⟩, fun y => ⟨fun _ => k, fun u => absurd ?_ u⟩⟩⟩, fun z => absurd rfl z⟩
  · rw [nI_z hm] at z
    rw [z0, hv z, y, b_64.1, lg_eq]
  · rw [nI_z hm] at z
    rw [z0, hv z, hb.resolve_left y, b_64.2, lg_eq]
theorem th_b {A : AG} (x : Int32) : (if (oThrow A x).1 = 0 then (oThrow A x).2.1 else nI 0) = nI 0 ∨ (if (oThrow A x).1 = 0 then (oThrow A x).2.1 else nI 0) = nI 1 := by
  unfold oThrow
  repeat' split
  all_goals first | exact Or.inl rfl | exact Or.inr rfl
theorem th_i {A : AG} (x : Int32) : (if (oThrow A x).2.1 = nI 1 then nI 1 else nI 0) = (oThrow A x).2.1 := by
  unfold oThrow
  repeat' split
  all_goals first | rfl | decide | simp_all
theorem LI.va (I : LI w X S L h) {i : Nat} (hi : i + 3 < L) (hL : L ≤ 2048) : (∀ k, k < 4 → vp_in (nI (i + k)) (ln h 63)) ∧ True := by
  have e : ln h 63 = L := congrArg Prod.snd I.2.2.2.2.1.2.2.2.1
  refine ⟨fun k hk => ?_, trivial⟩
  rw [e]
  exact vp_in_nI (by omega) (by omega)
theorem LI.sA (I : LI w X S L h) : isA h 63 0 := congrArg Prod.fst I.2.2.2.2.1.2.2.2.1
theorem LI.cl (I : LI w X S L h) (i : Nat) (hi : i < 4096) : ((nI (i + 1)).toNatClampNeg = i + 1 ∧ (nI (i + 2)).toNatClampNeg = i + 2) ∧ (nI (i + 3)).toNatClampNeg = i + 3 := ⟨⟨nI_clamp (by omega), nI_clamp (by omega)⟩, nI_clamp (by omega)⟩
theorem LI.go (I : LI w X S L h) (c : lcl h g) {i : Nat} (hi : i + 3 < L) (hL : L ≤ 2048) : isA g 63 0 ∧ (∀ k, k < 4 → vp_in (nI (i + k)) (ln g 63)) ∧ mI g 63 = mI h 63 ∧ isO g 606 7 ∧ RMb g X ∧ mS g 619 = (101, 1) ∧ mS g 620 = (102, 1) := by
  have t := c.1 63 (Or.inl (by decide))
  have e1 : mS g 63 = (100, L) := t.1.trans I.2.2.2.2.1.2.2.2.1
  have e : ln g 63 = L := congrArg Prod.snd e1
  have q := I.2.1.lc c
  refine ⟨congrArg Prod.fst e1, fun k hk => ?_, t.2.1, q.1.o, q, c.2.1.trans I.2.2.2.2.2.1, c.2.2.trans I.2.2.2.2.2.2⟩
  rw [e]
  exact vp_in_nI (by omega) (by omega)
theorem LA_addBlock (I : LI w X S L h) (hw : w + 12 ≤ 6200) {i : Nat} (hi : i + 3 < L) (hL : L ≤ 2048) {C : Nat → Nat → Nat → Nat → Nat → Int32 → AH → Prop} (ih : ∀ X' g, LI (w + 12) X' S L g → C 63 64 606 619 620 (nI (i + 4)) g) : wL_law_J280 K C 63 64 606 619 620 (nI i) h := by
  have gk := I.1.gk I.2.2.1
  have ip := gk.2.2
  have bn : BN (bA X) := I.2.2.1.1.2.bn (by omega)
  have xb := I.2.2.2.1
  have hC : aC (bA X) ≤ 9000 := by have := bn.1; omega
  have im := gk.ims hC
  have up := I.2.2.1.up (show w ≤ w + 12 by omega)
  have va := I.va hi hL
  unfold wL_law_J280
  simp only [nI_add, I.cl i (by omega)]
  refine ⟨I.sA, va.1 1 (by decide), l_addBlock I hw (fun g c r e => ?_)⟩
  obtain ⟨a63, v63, e63, o6, q, s19, s20⟩ := I.go c hi hL
  have hle : (oBlock (bA X) (mI h 63 (i + 1))).1 ≤ 2 := (rg_block (mI h 63 (i + 1)) gk.1).1
  simp only [e63]
  refine ⟨a63, v63 1 (by decide), o6, m9_addBlock q gk hC (fun g2 c2 q2 e2 => tlI q2.1 e2 (by rw [c2.2.1]; exact s19) (by omega) (fun z => ?_) (ih _ g2 (I.next c r c2 q2 (I.2.2.1.cg1 (ip_block ip _) (bw_block I.2.2.1.1.2 _)) (xb))))⟩
  rw [if_pos z, c2.2.2.2.1]
  exact e z
theorem LA_addPoint (I : LI w X S L h) (hw : w + 12 ≤ 6200) {i : Nat} (hi : i + 3 < L) (hL : L ≤ 2048) {C : Nat → Nat → Nat → Nat → Nat → Int32 → AH → Prop} (ih : ∀ X' g, LI (w + 12) X' S L g → C 63 64 606 619 620 (nI (i + 4)) g) : wL_law_J336 K C 63 64 606 619 620 (nI i) h := by
  have gk := I.1.gk I.2.2.1
  have ip := gk.2.2
  have bn : BN (bA X) := I.2.2.1.1.2.bn (by omega)
  have xb := I.2.2.2.1
  have hC : aC (bA X) ≤ 9000 := by have := bn.1; omega
  have im := gk.ims hC
  have up := I.2.2.1.up (show w ≤ w + 12 by omega)
  have va := I.va hi hL
  unfold wL_law_J336
  simp only [nI_add, I.cl i (by omega)]
  refine ⟨I.sA, va.1 1 (by decide), va.1 2 (by decide), va.1 3 (by decide), l_addPoint I hw (fun g c r e => ?_)⟩
  obtain ⟨a63, v63, e63, o6, q, s19, s20⟩ := I.go c hi hL
  have hle : (oPoint (bA X) (mI h 63 (i + 1)) (mI h 63 (i + 2)) (mI h 63 (i + 3))).1 ≤ 3 := (rg_point (mI h 63 (i + 1)) (mI h 63 (i + 2)) (mI h 63 (i + 3)) gk.1).1
  simp only [e63]
  refine ⟨a63, v63 1 (by decide), v63 2 (by decide), v63 3 (by decide), o6, m9_addPoint q gk hC (fun g2 c2 q2 e2 => tlI q2.1 e2 (by rw [c2.2.1]; exact s19) (by omega) (fun z => ?_) (ih _ g2 (I.next c r c2 q2 (I.2.2.1.cg1 (ip_point ip gk.1 _ _ _) (bw_point I.2.2.1.1.2 _ _ _)) (xb))))⟩
  rw [if_pos z, c2.2.2.2.1]
  exact e z
theorem LA_addLink (I : LI w X S L h) (hw : w + 12 ≤ 6200) {i : Nat} (hi : i + 3 < L) (hL : L ≤ 2048) {C : Nat → Nat → Nat → Nat → Nat → Int32 → AH → Prop} (ih : ∀ X' g, LI (w + 12) X' S L g → C 63 64 606 619 620 (nI (i + 4)) g) : wL_law_J416 K C 63 64 606 619 620 (nI i) h := by
  have gk := I.1.gk I.2.2.1
  have ip := gk.2.2
  have bn : BN (bA X) := I.2.2.1.1.2.bn (by omega)
  have xb := I.2.2.2.1
  have hC : aC (bA X) ≤ 9000 := by have := bn.1; omega
  have im := gk.ims hC
  have up := I.2.2.1.up (show w ≤ w + 12 by omega)
  have va := I.va hi hL
  unfold wL_law_J416
  simp only [nI_add, I.cl i (by omega)]
  refine ⟨I.sA, va.1 1 (by decide), va.1 2 (by decide), l_addLink I hw (fun g c r e => ?_)⟩
  obtain ⟨a63, v63, e63, o6, q, s19, s20⟩ := I.go c hi hL
  have hle : (oLink (bA X) (mI h 63 (i + 1)) (mI h 63 (i + 2))).1 ≤ 3 := (rg_link (mI h 63 (i + 1)) (mI h 63 (i + 2)) gk.1).1
  simp only [e63]
  refine ⟨a63, v63 1 (by decide), v63 2 (by decide), o6, m9_addLink q gk hC (fun g2 c2 q2 e2 => tlI q2.1 e2 (by rw [c2.2.1]; exact s19) (by omega) (fun z => ?_) (ih _ g2 (I.next c r c2 q2 (I.2.2.1.cg1 (ip_link ip gk.1 _ _) (bw_link I.2.2.1.1.2 _ _)) (xb))))⟩
  rw [if_pos z, c2.2.2.2.1]
  exact e z
theorem LA_shut (I : LI w X S L h) (hw : w + 12 ≤ 6200) {i : Nat} (hi : i + 3 < L) (hL : L ≤ 2048) {C : Nat → Nat → Nat → Nat → Nat → Int32 → AH → Prop} (ih : ∀ X' g, LI (w + 12) X' S L g → C 63 64 606 619 620 (nI (i + 4)) g) : wL_law_J484 K C 63 64 606 619 620 (nI i) h := by
  have gk := I.1.gk I.2.2.1
  have ip := gk.2.2
  have bn : BN (bA X) := I.2.2.1.1.2.bn (by omega)
  have xb := I.2.2.2.1
  have hC : aC (bA X) ≤ 9000 := by have := bn.1; omega
  have im := gk.ims hC
  have up := I.2.2.1.up (show w ≤ w + 12 by omega)
  have va := I.va hi hL
  unfold wL_law_J484
  simp only [nI_add, I.cl i (by omega)]
  refine ⟨I.sA, va.1 1 (by decide), l_shut I hw (fun g c r e => ?_)⟩
  obtain ⟨a63, v63, e63, o6, q, s19, s20⟩ := I.go c hi hL
  have hle : (oShut (bA X) (mI h 63 (i + 1))).1 ≤ 2 := (rg_shut (mI h 63 (i + 1))).1
  simp only [e63]
  refine ⟨a63, v63 1 (by decide), o6, m9_shut q gk hC (fun g2 c2 q2 e2 => tlI q2.1 e2 (by rw [c2.2.1]; exact s19) (by omega) (fun z => ?_) (ih _ g2 (I.next c r c2 q2 (I.2.2.1.cg1 (ip_shut ip _) (bw_shut I.2.2.1.1.2 _)) (xb))))⟩
  rw [if_pos z, c2.2.2.2.1]
  exact e z
theorem LA_open (I : LI w X S L h) (hw : w + 12 ≤ 6200) {i : Nat} (hi : i + 3 < L) (hL : L ≤ 2048) {C : Nat → Nat → Nat → Nat → Nat → Int32 → AH → Prop} (ih : ∀ X' g, LI (w + 12) X' S L g → C 63 64 606 619 620 (nI (i + 4)) g) : wL_law_J540 K C 63 64 606 619 620 (nI i) h := by
  have gk := I.1.gk I.2.2.1
  have ip := gk.2.2
  have bn : BN (bA X) := I.2.2.1.1.2.bn (by omega)
  have xb := I.2.2.2.1
  have hC : aC (bA X) ≤ 9000 := by have := bn.1; omega
  have im := gk.ims hC
  have up := I.2.2.1.up (show w ≤ w + 12 by omega)
  have va := I.va hi hL
  unfold wL_law_J540
  simp only [nI_add, I.cl i (by omega)]
  refine ⟨I.sA, va.1 1 (by decide), l_open I hw (fun g c r e => ?_)⟩
  obtain ⟨a63, v63, e63, o6, q, s19, s20⟩ := I.go c hi hL
  have hle : (oOpen (bA X) (mI h 63 (i + 1))).1 ≤ 2 := (rg_open (mI h 63 (i + 1))).1
  simp only [e63]
  refine ⟨a63, v63 1 (by decide), o6, m9_open q gk hC (fun g2 c2 q2 e2 => tlI q2.1 e2 (by rw [c2.2.1]; exact s19) (by omega) (fun z => ?_) (ih _ g2 (I.next c r c2 q2 (I.2.2.1.cg1 (ip_open ip (by have := gk.1.h12; omega) _) (bw_open I.2.2.1.1.2 _)) (xb))))⟩
  rw [if_pos z, c2.2.2.2.1]
  exact e z
theorem LA_throwPoint (I : LI w X S L h) (hw : w + 12 ≤ 6200) {i : Nat} (hi : i + 3 < L) (hL : L ≤ 2048) {C : Nat → Nat → Nat → Nat → Nat → Int32 → AH → Prop} (ih : ∀ X' g, LI (w + 12) X' S L g → C 63 64 606 619 620 (nI (i + 4)) g) : wL_law_J596 K C 63 64 606 619 620 (nI i) h := by
  have gk := I.1.gk I.2.2.1
  have ip := gk.2.2
  have bn : BN (bA X) := I.2.2.1.1.2.bn (by omega)
  have xb := I.2.2.2.1
  have hC : aC (bA X) ≤ 9000 := by have := bn.1; omega
  have im := gk.ims hC
  have up := I.2.2.1.up (show w ≤ w + 12 by omega)
  have va := I.va hi hL
  unfold wL_law_J596 wL_law_J650
  simp only [nI_add, I.cl i (by omega)]
  refine ⟨I.sA, va.1 1 (by decide), l_throwPoint I hw (fun g c r e => ?_)⟩
  obtain ⟨a63, v63, e63, o6, q, s19, s20⟩ := I.go c hi hL
  have hle : (oThrow (bA X) (mI h 63 (i + 1))).1 ≤ 2 := (rg_throw (mI h 63 (i + 1))).1
  simp only [e63]
  refine ⟨a63, v63 1 (by decide), o6, m9_throwPoint q gk hC (fun g2 c2 q2 e2 => tlB q2.1 e2 (by rw [c2.2.1]; exact s19) (by omega) (fun z => ?_) (th_b _) (ih _ g2 (I.next c r c2 q2 (I.2.2.1.cg1 (ip_throw ip _) (bw_throw I.2.2.1.1.2 _)) (xb))))⟩
  rw [if_pos z, c2.2.2.2.1]
  rw [e z, th_i _]
theorem LA_addTrain (I : LI w X S L h) (hw : w + 12 ≤ 6200) {i : Nat} (hi : i + 3 < L) (hL : L ≤ 2048) {C : Nat → Nat → Nat → Nat → Nat → Int32 → AH → Prop} (ih : ∀ X' g, LI (w + 12) X' S L g → C 63 64 606 619 620 (nI (i + 4)) g) : wL_law_J659 K C 63 64 606 619 620 (nI i) h := by
  have gk := I.1.gk I.2.2.1
  have ip := gk.2.2
  have bn : BN (bA X) := I.2.2.1.1.2.bn (by omega)
  have xb := I.2.2.2.1
  have hC : aC (bA X) ≤ 9000 := by have := bn.1; omega
  have im := gk.ims hC
  have up := I.2.2.1.up (show w ≤ w + 12 by omega)
  have va := I.va hi hL
  unfold wL_law_J659
  simp only [nI_add, I.cl i (by omega)]
  refine ⟨I.sA, va.1 1 (by decide), va.1 2 (by decide), l_addTrain I hw (fun g c r e => ?_)⟩
  obtain ⟨a63, v63, e63, o6, q, s19, s20⟩ := I.go c hi hL
  have hle : (oTrain (bA X) (mI h 63 (i + 1)) (mI h 63 (i + 2))).1 ≤ 3 := (rg_train (mI h 63 (i + 1)) (mI h 63 (i + 2)) bn).1
  simp only [e63]
  refine ⟨a63, v63 1 (by decide), v63 2 (by decide), o6, m9_addTrain q gk (by have := bn.1; omega) bn (fun g2 c2 q2 e2 => tlI q2.1 e2 (by rw [c2.2.1]; exact s19) (by omega) (fun z => ?_) (ih _ g2 (I.next c r c2 q2 (I.2.2.1.cg1 (ip_train ip gk.1 _ _) (bw_train I.2.2.1.1.2 _ _)) (xb))))⟩
  rw [if_pos z, c2.2.2.2.1]
  exact e z
theorem LA_setRoute (I : LI w X S L h) (hw : w + 12 ≤ 6200) {i : Nat} (hi : i + 3 < L) (hL : L ≤ 2048) {C : Nat → Nat → Nat → Nat → Nat → Int32 → AH → Prop} (ih : ∀ X' g, LI (w + 12) X' S L g → C 63 64 606 619 620 (nI (i + 4)) g) : wL_law_J727 K C 63 64 606 619 620 (nI i) h := by
  have gk := I.1.gk I.2.2.1
  have ip := gk.2.2
  have bn : BN (bA X) := I.2.2.1.1.2.bn (by omega)
  have xb := I.2.2.2.1
  have hC : aC (bA X) ≤ 9000 := by have := bn.1; omega
  have im := gk.ims hC
  have up := I.2.2.1.up (show w ≤ w + 12 by omega)
  have va := I.va hi hL
  unfold wL_law_J727
  simp only [nI_add, I.cl i (by omega)]
  refine ⟨I.sA, va.1 1 (by decide), l_setRoute I hw (fun g c r e => ?_)⟩
  obtain ⟨a63, v63, e63, o6, q, s19, s20⟩ := I.go c hi hL
  have hle : (oSet (bA X) (mI h 63 (i + 1))).1 ≤ 3 := (rg_set (mI h 63 (i + 1)) gk).1
  simp only [e63]
  refine ⟨a63, v63 1 (by decide), o6, m9_setRoute q gk hC (by have := bn.2.1; omega) (fun g2 c2 q2 e2 => tlI q2.1 e2 (by rw [c2.2.1]; exact s19) (by omega) (fun z => ?_) (ih _ g2 (I.next c r c2 q2 (I.2.2.1.cg2 gk) (xb.cg2 gk _))))⟩
  rw [if_pos z, c2.2.2.2.1]
  exact e z
theorem LA_releaseRoute (I : LI w X S L h) (hw : w + 12 ≤ 6200) {i : Nat} (hi : i + 3 < L) (hL : L ≤ 2048) {C : Nat → Nat → Nat → Nat → Nat → Int32 → AH → Prop} (ih : ∀ X' g, LI (w + 12) X' S L g → C 63 64 606 619 620 (nI (i + 4)) g) : wL_law_J783 K C 63 64 606 619 620 (nI i) h := by
  have gk := I.1.gk I.2.2.1
  have ip := gk.2.2
  have bn : BN (bA X) := I.2.2.1.1.2.bn (by omega)
  have xb := I.2.2.2.1
  have hC : aC (bA X) ≤ 9000 := by have := bn.1; omega
  have im := gk.ims hC
  have up := I.2.2.1.up (show w ≤ w + 12 by omega)
  have va := I.va hi hL
  unfold wL_law_J783
  simp only [nI_add, I.cl i (by omega)]
  refine ⟨I.sA, va.1 1 (by decide), l_releaseRoute I hw (fun g c r e => ?_)⟩
  obtain ⟨a63, v63, e63, o6, q, s19, s20⟩ := I.go c hi hL
  have hle : (oFree (bA X) (mI h 63 (i + 1))).1 ≤ 2 := (rg_free (mI h 63 (i + 1)) ip).1
  simp only [e63]
  refine ⟨a63, v63 1 (by decide), o6, m9_releaseRoute q gk hC (fun g2 c2 q2 e2 => tlI q2.1 e2 (by rw [c2.2.1]; exact s19) (by omega) (fun z => ?_) (ih _ g2 (I.next c r c2 q2 (I.2.2.1.cg1 (ip_free ip _) (bw_free I.2.2.1.1.2 _)) (xb))))⟩
  rw [if_pos z, c2.2.2.2.1]
  exact e z
theorem LA_pass (I : LI w X S L h) (hw : w + 12 ≤ 6200) {i : Nat} (hi : i + 3 < L) (hL : L ≤ 2048) {C : Nat → Nat → Nat → Nat → Nat → Int32 → AH → Prop} (ih : ∀ X' g, LI (w + 12) X' S L g → C 63 64 606 619 620 (nI (i + 4)) g) : wL_law_J839 K C 63 64 606 619 620 (nI i) h := by
  have gk := I.1.gk I.2.2.1
  have ip := gk.2.2
  have bn : BN (bA X) := I.2.2.1.1.2.bn (by omega)
  have xb := I.2.2.2.1
  have hC : aC (bA X) ≤ 9000 := by have := bn.1; omega
  have im := gk.ims hC
  have up := I.2.2.1.up (show w ≤ w + 12 by omega)
  have va := I.va hi hL
  unfold wL_law_J839
  simp only [nI_add, I.cl i (by omega)]
  refine ⟨I.sA, va.1 1 (by decide), l_pass I hw (fun g c r e => ?_)⟩
  obtain ⟨a63, v63, e63, o6, q, s19, s20⟩ := I.go c hi hL
  have hle : (oPass (bA X) (mI h 63 (i + 1))).1 ≤ 1 := (rg_pass (mI h 63 (i + 1)) gk I.2.2.1.1.2 (by omega)).1
  simp only [e63]
  refine ⟨a63, v63 1 (by decide), o6, m9_pass q gk I.2.2.1.1.2 (by omega) (fun g2 c2 q2 e2 => tlI q2.1 e2 (by rw [c2.2.1]; exact s19) (by omega) (fun z => ?_) (ih _ g2 (I.next c r c2 q2 (I.2.2.1.cg1 (bw_pass I.2.2.1.1.2 gk (by omega) _).2.2.2 (bw_pass I.2.2.1.1.2 gk (by omega) _).1) (xb))))⟩
  rw [if_pos z, c2.2.2.2.1]
  exact e z
theorem LA_blockLength (I : LI w X S L h) (hw : w + 12 ≤ 6200) {i : Nat} (hi : i + 3 < L) (hL : L ≤ 2048) {C : Nat → Nat → Nat → Nat → Nat → Int32 → AH → Prop} (ih : ∀ X' g, LI (w + 12) X' S L g → C 63 64 606 619 620 (nI (i + 4)) g) : wL_law_J908 K C 63 64 606 619 620 (nI i) h := by
  have gk := I.1.gk I.2.2.1
  have ip := gk.2.2
  have bn : BN (bA X) := I.2.2.1.1.2.bn (by omega)
  have xb := I.2.2.2.1
  have hC : aC (bA X) ≤ 9000 := by have := bn.1; omega
  have im := gk.ims hC
  have up := I.2.2.1.up (show w ≤ w + 12 by omega)
  have va := I.va hi hL
  unfold wL_law_J908
  simp only [nI_add, I.cl i (by omega)]
  have hle : (qLen (bA X) (mI h 63 (i + 1))).1 ≤ 1 := q_l_blockLength
  refine ⟨I.sA, va.1 1 (by decide), l_blockLength I hw (fun g c r e => ?_)⟩
  obtain ⟨a63, v63, e63, o6, q, s19, s20⟩ := I.go c hi hL
  simp only [e63]
  refine ⟨a63, v63 1 (by decide), o6, m9_blockLength q gk (fun g2 c2 q2 e2 => tlI q2.1 e2 (by rw [c2.2.1]; exact s19) (by omega) (fun z => ?_) (ih _ g2 (I.next c r c2 q2 up xb)))⟩
  rw [c2.2.2.2.1]
  exact e z
theorem LA_blockState (I : LI w X S L h) (hw : w + 12 ≤ 6200) {i : Nat} (hi : i + 3 < L) (hL : L ≤ 2048) {C : Nat → Nat → Nat → Nat → Nat → Int32 → AH → Prop} (ih : ∀ X' g, LI (w + 12) X' S L g → C 63 64 606 619 620 (nI (i + 4)) g) : wL_law_J964 K C 63 64 606 619 620 (nI i) h := by
  have gk := I.1.gk I.2.2.1
  have ip := gk.2.2
  have bn : BN (bA X) := I.2.2.1.1.2.bn (by omega)
  have xb := I.2.2.2.1
  have hC : aC (bA X) ≤ 9000 := by have := bn.1; omega
  have im := gk.ims hC
  have up := I.2.2.1.up (show w ≤ w + 12 by omega)
  have va := I.va hi hL
  unfold wL_law_J964
  simp only [nI_add, I.cl i (by omega)]
  have hle : (qState (bA X) (mI h 63 (i + 1))).1 ≤ 1 := q_l_blockState
  refine ⟨I.sA, va.1 1 (by decide), l_blockState I hw (fun g c r e => ?_)⟩
  obtain ⟨a63, v63, e63, o6, q, s19, s20⟩ := I.go c hi hL
  simp only [e63]
  refine ⟨a63, v63 1 (by decide), o6, m9_blockState q gk hC (fun g2 c2 q2 e2 => tlI q2.1 e2 (by rw [c2.2.1]; exact s19) (by omega) (fun z => ?_) (ih _ g2 (I.next c r c2 q2 up xb)))⟩
  rw [c2.2.2.2.1]
  exact e z
theorem LA_trainAt (I : LI w X S L h) (hw : w + 12 ≤ 6200) {i : Nat} (hi : i + 3 < L) (hL : L ≤ 2048) {C : Nat → Nat → Nat → Nat → Nat → Int32 → AH → Prop} (ih : ∀ X' g, LI (w + 12) X' S L g → C 63 64 606 619 620 (nI (i + 4)) g) : wL_law_J1020 K C 63 64 606 619 620 (nI i) h := by
  have gk := I.1.gk I.2.2.1
  have ip := gk.2.2
  have bn : BN (bA X) := I.2.2.1.1.2.bn (by omega)
  have xb := I.2.2.2.1
  have hC : aC (bA X) ≤ 9000 := by have := bn.1; omega
  have im := gk.ims hC
  have up := I.2.2.1.up (show w ≤ w + 12 by omega)
  have va := I.va hi hL
  unfold wL_law_J1020
  simp only [nI_add, I.cl i (by omega)]
  have hle : (qAt (bA X) (mI h 63 (i + 1))).1 ≤ 2 := q_l_trainAt
  refine ⟨I.sA, va.1 1 (by decide), l_trainAt I hw (fun g c r e => ?_)⟩
  obtain ⟨a63, v63, e63, o6, q, s19, s20⟩ := I.go c hi hL
  simp only [e63]
  refine ⟨a63, v63 1 (by decide), o6, m9_trainAt q gk hC (fun g2 c2 q2 e2 => tlI q2.1 e2 (by rw [c2.2.1]; exact s19) (by omega) (fun z => ?_) (ih _ g2 (I.next c r c2 q2 up xb)))⟩
  rw [c2.2.2.2.1]
  exact e z
theorem LA_liesLeft (I : LI w X S L h) (hw : w + 12 ≤ 6200) {i : Nat} (hi : i + 3 < L) (hL : L ≤ 2048) {C : Nat → Nat → Nat → Nat → Nat → Int32 → AH → Prop} (ih : ∀ X' g, LI (w + 12) X' S L g → C 63 64 606 619 620 (nI (i + 4)) g) : wL_law_J1076 K C 63 64 606 619 620 (nI i) h := by
  have gk := I.1.gk I.2.2.1
  have ip := gk.2.2
  have bn : BN (bA X) := I.2.2.1.1.2.bn (by omega)
  have xb := I.2.2.2.1
  have hC : aC (bA X) ≤ 9000 := by have := bn.1; omega
  have im := gk.ims hC
  have up := I.2.2.1.up (show w ≤ w + 12 by omega)
  have va := I.va hi hL
  unfold wL_law_J1076 wL_law_J1130
  simp only [nI_add, I.cl i (by omega)]
  have hle : (qLies (bA X) (mI h 63 (i + 1))).1 ≤ 1 := q_l_liesLeft
  refine ⟨I.sA, va.1 1 (by decide), l_liesLeft I hw (fun g c r e => ?_)⟩
  obtain ⟨a63, v63, e63, o6, q, s19, s20⟩ := I.go c hi hL
  simp only [e63]
  refine ⟨a63, v63 1 (by decide), o6, m9_liesLeft q gk (fun g2 c2 q2 e2 => tlB q2.1 e2 (by rw [c2.2.1]; exact s19) (by omega) (fun z => ?_) q_b_liesLeft (ih _ g2 (I.next c r c2 q2 up xb)))⟩
  rw [c2.2.2.2.1]
  exact e z
theorem LA_lockedBy (I : LI w X S L h) (hw : w + 12 ≤ 6200) {i : Nat} (hi : i + 3 < L) (hL : L ≤ 2048) {C : Nat → Nat → Nat → Nat → Nat → Int32 → AH → Prop} (ih : ∀ X' g, LI (w + 12) X' S L g → C 63 64 606 619 620 (nI (i + 4)) g) : wL_law_J1139 K C 63 64 606 619 620 (nI i) h := by
  have gk := I.1.gk I.2.2.1
  have ip := gk.2.2
  have bn : BN (bA X) := I.2.2.1.1.2.bn (by omega)
  have xb := I.2.2.2.1
  have hC : aC (bA X) ≤ 9000 := by have := bn.1; omega
  have im := gk.ims hC
  have up := I.2.2.1.up (show w ≤ w + 12 by omega)
  have va := I.va hi hL
  unfold wL_law_J1139
  simp only [nI_add, I.cl i (by omega)]
  have hle : (qLock (bA X) (mI h 63 (i + 1))).1 ≤ 2 := q_l_lockedBy
  refine ⟨I.sA, va.1 1 (by decide), l_lockedBy I hw (fun g c r e => ?_)⟩
  obtain ⟨a63, v63, e63, o6, q, s19, s20⟩ := I.go c hi hL
  simp only [e63]
  refine ⟨a63, v63 1 (by decide), o6, m9_lockedBy q gk hC (fun g2 c2 q2 e2 => tlI q2.1 e2 (by rw [c2.2.1]; exact s19) (by omega) (fun z => ?_) (ih _ g2 (I.next c r c2 q2 up xb)))⟩
  rw [c2.2.2.2.1]
  exact e z
theorem LA_routeLength (I : LI w X S L h) (hw : w + 12 ≤ 6200) {i : Nat} (hi : i + 3 < L) (hL : L ≤ 2048) {C : Nat → Nat → Nat → Nat → Nat → Int32 → AH → Prop} (ih : ∀ X' g, LI (w + 12) X' S L g → C 63 64 606 619 620 (nI (i + 4)) g) : wL_law_J1195 K C 63 64 606 619 620 (nI i) h := by
  have gk := I.1.gk I.2.2.1
  have ip := gk.2.2
  have bn : BN (bA X) := I.2.2.1.1.2.bn (by omega)
  have xb := I.2.2.2.1
  have hC : aC (bA X) ≤ 9000 := by have := bn.1; omega
  have im := gk.ims hC
  have up := I.2.2.1.up (show w ≤ w + 12 by omega)
  have va := I.va hi hL
  unfold wL_law_J1195
  simp only [nI_add, I.cl i (by omega)]
  have hle : (qRL (bA X) (mI h 63 (i + 1)) (mI h 63 (i + 2))).1 ≤ 2 := q_l_routeLength
  refine ⟨I.sA, va.1 1 (by decide), va.1 2 (by decide), l_routeLength I hw (fun g c r e => ?_)⟩
  obtain ⟨a63, v63, e63, o6, q, s19, s20⟩ := I.go c hi hL
  simp only [e63]
  refine ⟨a63, v63 1 (by decide), v63 2 (by decide), o6, m9_routeLength q gk (fun g2 c2 q2 e2 => tlI q2.1 e2 (by rw [c2.2.1]; exact s19) (by omega) (fun z => ?_) (ih _ g2 (I.next c r c2 q2 up xb)))⟩
  rw [c2.2.2.2.1]
  exact e z
theorem LA_routeLengthByPaths (I : LI w X S L h) (hw : w + 12 ≤ 6200) {i : Nat} (hi : i + 3 < L) (hL : L ≤ 2048) {C : Nat → Nat → Nat → Nat → Nat → Int32 → AH → Prop} (ih : ∀ X' g, LI (w + 12) X' S L g → C 63 64 606 619 620 (nI (i + 4)) g) : wL_law_J1263 K C 63 64 606 619 620 (nI i) h := by
  have gk := I.1.gk I.2.2.1
  have ip := gk.2.2
  have bn : BN (bA X) := I.2.2.1.1.2.bn (by omega)
  have xb := I.2.2.2.1
  have hC : aC (bA X) ≤ 9000 := by have := bn.1; omega
  have im := gk.ims hC
  have up := I.2.2.1.up (show w ≤ w + 12 by omega)
  have va := I.va hi hL
  unfold wL_law_J1263
  simp only [nI_add, I.cl i (by omega)]
  have hle : (qRL (bA X) (mI h 63 (i + 1)) (mI h 63 (i + 2))).1 ≤ 2 := q_l_routeLengthByPaths
  refine ⟨I.sA, va.1 1 (by decide), va.1 2 (by decide), l_routeLengthByPaths I hw (fun g c r e => ?_)⟩
  obtain ⟨a63, v63, e63, o6, q, s19, s20⟩ := I.go c hi hL
  simp only [e63]
  refine ⟨a63, v63 1 (by decide), v63 2 (by decide), o6, m9_routeLengthByPaths q gk (fun g2 c2 q2 e2 => tlI q2.1 e2 (by rw [c2.2.1]; exact s19) (by omega) (fun z => ?_) (ih _ g2 (I.next c r c2 q2 up xb)))⟩
  rw [c2.2.2.2.1]
  exact e z
theorem LA_routeBlock (I : LI w X S L h) (hw : w + 12 ≤ 6200) {i : Nat} (hi : i + 3 < L) (hL : L ≤ 2048) {C : Nat → Nat → Nat → Nat → Nat → Int32 → AH → Prop} (ih : ∀ X' g, LI (w + 12) X' S L g → C 63 64 606 619 620 (nI (i + 4)) g) : wL_law_J1331 K C 63 64 606 619 620 (nI i) h := by
  have gk := I.1.gk I.2.2.1
  have ip := gk.2.2
  have bn : BN (bA X) := I.2.2.1.1.2.bn (by omega)
  have xb := I.2.2.2.1
  have hC : aC (bA X) ≤ 9000 := by have := bn.1; omega
  have im := gk.ims hC
  have up := I.2.2.1.up (show w ≤ w + 12 by omega)
  have va := I.va hi hL
  unfold wL_law_J1331
  simp only [nI_add, I.cl i (by omega)]
  have hle : (qRB (bA X) (mI h 63 (i + 1)) (mI h 63 (i + 2)) (mI h 63 (i + 3))).1 ≤ 2 := q_l_routeBlock
  refine ⟨I.sA, va.1 1 (by decide), va.1 2 (by decide), va.1 3 (by decide), l_routeBlock I hw (fun g c r e => ?_)⟩
  obtain ⟨a63, v63, e63, o6, q, s19, s20⟩ := I.go c hi hL
  simp only [e63]
  refine ⟨a63, v63 1 (by decide), v63 2 (by decide), v63 3 (by decide), o6, m9_routeBlock q gk (fun g2 c2 q2 e2 => tlI q2.1 e2 (by rw [c2.2.1]; exact s19) (by omega) (fun z => ?_) (ih _ g2 (I.next c r c2 q2 up xb)))⟩
  rw [c2.2.2.2.1]
  exact e z
theorem LA_paths (I : LI w X S L h) (hw : w + 12 ≤ 6200) {i : Nat} (hi : i + 3 < L) (hL : L ≤ 2048) {C : Nat → Nat → Nat → Nat → Nat → Int32 → AH → Prop} (ih : ∀ X' g, LI (w + 12) X' S L g → C 63 64 606 619 620 (nI (i + 4)) g) : wL_law_J1411 K C 63 64 606 619 620 (nI i) h := by
  have gk := I.1.gk I.2.2.1
  have ip := gk.2.2
  have bn : BN (bA X) := I.2.2.1.1.2.bn (by omega)
  have xb := I.2.2.2.1
  have hC : aC (bA X) ≤ 9000 := by have := bn.1; omega
  have im := gk.ims hC
  have up := I.2.2.1.up (show w ≤ w + 12 by omega)
  have va := I.va hi hL
  unfold wL_law_J1411
  simp only [nI_add, I.cl i (by omega)]
  have hle : (qPaths (bA X) (mI h 63 (i + 1)) (mI h 63 (i + 2))).1 ≤ 1 := q_l_paths
  refine ⟨I.sA, va.1 1 (by decide), va.1 2 (by decide), l_paths I hw (fun g c r e => ?_)⟩
  obtain ⟨a63, v63, e63, o6, q, s19, s20⟩ := I.go c hi hL
  simp only [e63]
  refine ⟨a63, v63 1 (by decide), v63 2 (by decide), o6, m9_paths q gk (fun g2 c2 q2 e2 => tlI q2.1 e2 (by rw [c2.2.1]; exact s19) (by omega) (fun z => ?_) (ih _ g2 (I.next c r c2 q2 up xb)))⟩
  rw [c2.2.2.2.1]
  exact e z
end LAC
