/-! THE LAW'S CALLS OF THE BOX: an answer, or the number that stands for an exception -/
section LWR
variable {h g : AH} {X : BG} {w : Nat} {K : Int32 → AH → Prop}
def lq (cs : List Int32) (q : QA) : Int32 := match q.1 with
  | 0 => q.2
  | k + 1 => cs.getD k 0
theorem RBc.o (r : RBc h X) : isO h 64 0 := by
  obtain ⟨p, r⟩ := r
  exact r.1.o
theorem kq_1 {q : QA} {n : String} {c : Int32} (h1 : q.1 ≤ 1) (k : K (lq [c] q) h) : kq q [n] (fun r g => K r g) (fun E g => E = n ∧ K c g) h := by
  unfold lq at k
  refine ⟨fun e => by rw [e] at k; exact k, fun j e => ?_⟩
  rw [e] at k
  have hj : j = 0 := by omega
  subst hj
  exact ⟨rfl, k⟩
theorem kq_2 {q : QA} {n m : String} {c d : Int32} (h1 : q.1 ≤ 2) (k : K (lq [c, d] q) h) : kq q [n, m] (fun r g => K r g) (fun E g => (E = n ∧ K c g) ∨ (E = m ∧ K d g)) h := by
  unfold lq at k
  refine ⟨fun e => by rw [e] at k; exact k, fun j e => ?_⟩
  rw [e] at k
  have hj : j = 0 ∨ j = 1 := by omega
  rcases hj with rfl | rfl
  · exact Or.inl ⟨rfl, k⟩
  · exact Or.inr ⟨rfl, k⟩
def isB (v : Int32) : Prop := v = nI 0 ∨ v = nI 1
theorem bo_k {v : Int32} (hb : isB v) (k : K v h) : (v = nI 0 → K (nI 0) h) ∧ (¬ v = nI 0 → K (nI 1) h) := by
  rcases hb with rfl | rfl
  · exact ⟨fun _ => k, fun z => absurd rfl z⟩
  · exact ⟨fun z => absurd z (by decide), fun _ => k⟩
theorem kb_1 {q : QA} {n : String} {c : Int32} (h1 : q.1 ≤ 1) (hb : isB q.2) (k : K (lq [c] q) h) : kq q [n] (fun r g => (r = nI 0 → K (nI 0) g) ∧ (¬ r = nI 0 → K (nI 1) g)) (fun E g => E = n ∧ K c g) h := by
  unfold lq at k
  refine ⟨fun e => by rw [e] at k; exact bo_k hb k, fun j e => ?_⟩
  rw [e] at k
  have hj : j = 0 := by omega
  subst hj
  exact ⟨rfl, k⟩
theorem kb_2 {q : QA} {n m : String} {c d : Int32} (h1 : q.1 ≤ 2) (hb : isB q.2) (k : K (lq [c, d] q) h) : kq q [n, m] (fun r g => (r = nI 0 → K (nI 0) g) ∧ (¬ r = nI 0 → K (nI 1) g)) (fun E g => (E = n ∧ K c g) ∨ (E = m ∧ K d g)) h := by
  unfold lq at k
  refine ⟨fun e => by rw [e] at k; exact bo_k hb k, fun j e => ?_⟩
  rw [e] at k
  have hj : j = 0 ∨ j = 1 := by omega
  rcases hj with rfl | rfl
  · exact Or.inl ⟨rfl, k⟩
  · exact Or.inr ⟨rfl, k⟩
theorem isB_ite (p : Prop) [Decidable p] : isB (if p then nI 1 else nI 0) := by
  by_cases h : p
  · rw [if_pos h]; exact Or.inr rfl
  · rw [if_neg h]; exact Or.inl rfl
theorem isB_ite' (p : Prop) [Decidable p] : isB (if p then nI 0 else nI 1) := by
  by_cases h : p
  · rw [if_pos h]; exact Or.inl rfl
  · rw [if_neg h]; exact Or.inr rfl
theorem qT_1 (f : TG → Int32) (A : AG) (x : Int32) : (qT f A x).1 ≤ 1 := by
  unfold qT
  split <;> exact Nat.le_of_ble_eq_true rfl
theorem qT_b {f : TG → Int32} (hf : ∀ t, isB (f t)) (A : AG) (x : Int32) : isB (qT f A x).2 := by
  unfold qT
  split
  · exact Or.inl rfl
  · exact hf _
theorem qR_1 (f : TG → Int32) (A : AG) (x : Int32) : (qR f A x).1 ≤ 1 := by
  unfold qR
  split
  · exact Nat.le_of_ble_eq_true rfl
  · split <;> exact Nat.le_of_ble_eq_true rfl
theorem qLen_1 (A : AG) (x : Int32) : (qLen A x).1 ≤ 1 := by
  unfold qLen
  split <;> exact Nat.le_of_ble_eq_true rfl
theorem qState_1 (A : AG) (x : Int32) : (qState A x).1 ≤ 1 := by
  unfold qState
  split <;> exact Nat.le_of_ble_eq_true rfl
theorem qAt_2 (A : AG) (x : Int32) : (qAt A x).1 ≤ 2 := by
  unfold qAt
  split
  · exact Nat.le_of_ble_eq_true rfl
  · split <;> exact Nat.le_of_ble_eq_true rfl
theorem qLies_1 (A : AG) (x : Int32) : (qLies A x).1 ≤ 1 ∧ isB (qLies A x).2 := by
  unfold qLies
  split
  · exact ⟨Nat.le_of_ble_eq_true rfl, Or.inl rfl⟩
  · split
    · exact ⟨Nat.le_of_ble_eq_true rfl, Or.inl rfl⟩
    · exact ⟨Nat.le_of_ble_eq_true rfl, isB_ite' _⟩
theorem qLock_2 (A : AG) (x : Int32) : (qLock A x).1 ≤ 2 := by
  unfold qLock
  split
  · exact Nat.le_of_ble_eq_true rfl
  · split
    · exact Nat.le_of_ble_eq_true rfl
    · split <;> exact Nat.le_of_ble_eq_true rfl
theorem qRL_2 (A : AG) (x y : Int32) : (qRL A x y).1 ≤ 2 := by
  unfold qRL
  split
  · split <;> exact Nat.le_of_ble_eq_true rfl
  · exact Nat.le_of_ble_eq_true rfl
theorem qRB_2 (A : AG) (x y z : Int32) : (qRB A x y z).1 ≤ 2 := by
  unfold qRB
  split
  · split
    · exact Nat.le_of_ble_eq_true rfl
    · split <;> exact Nat.le_of_ble_eq_true rfl
  · exact Nat.le_of_ble_eq_true rfl
theorem qPaths_1 (A : AG) (x y : Int32) : (qPaths A x y).1 ≤ 1 := by
  unfold qPaths
  split <;> exact Nat.le_of_ble_eq_true rfl
theorem qQ_1 (A : AG) (x : Int32) : (qQ A x).1 ≤ 1 := by
  unfold qQ
  split <;> exact Nat.le_of_ble_eq_true rfl
theorem qW_1 (A : AG) (x y : Int32) : (qW A x y).1 ≤ 1 ∧ isB (qW A x y).2 := by
  unfold qW
  split
  · exact ⟨Nat.le_of_ble_eq_true rfl, isB_ite _⟩
  · exact ⟨Nat.le_of_ble_eq_true rfl, Or.inl rfl⟩
theorem qC_2 (A : AG) (x y : Int32) : (qC A x y).1 ≤ 2 ∧ isB (qC A x y).2 := by
  unfold qC
  split
  · split
    · exact ⟨Nat.le_of_ble_eq_true rfl, Or.inl rfl⟩
    · exact ⟨Nat.le_of_ble_eq_true rfl, isB_ite _⟩
  · exact ⟨Nat.le_of_ble_eq_true rfl, Or.inl rfl⟩

theorem lw_blockLength (r : RBc h X) {x : Int32} (k : K (lq [-77] (qLen (bA X) x)) h) : wL_blockLength 64 x h K := ⟨r.o, c9_blockLength r (kq_1 (qLen_1 _ _) k)⟩
theorem lw_blockState (r : RBc h X) (i : IP (bA X)) {x : Int32} (k : K (lq [-77] (qState (bA X) x)) h) : wL_blockState 64 x h K := ⟨r.o, c9_blockState r i (kq_1 (qState_1 _ _) k)⟩
theorem lw_trainAt (r : RBc h X) (i : IP (bA X)) (bn : BN (bA X)) {x : Int32} (k : K (lq [-77, -75] (qAt (bA X) x)) h) : wL_trainAt 64 x h K := ⟨r.o, c9_trainAt r i bn (kq_2 (qAt_2 _ _) k)⟩
theorem lw_liesLeft (r : RBc h X) {x : Int32} (k : K (lq [-77] (qLies (bA X) x)) h) : wL_liesLeft 64 x h K := ⟨r.o, c9_liesLeft r (kb_1 (qLies_1 _ _).1 (qLies_1 _ _).2 k)⟩
theorem lw_lockedBy (r : RBc h X) (i : IP (bA X)) (bn : BN (bA X)) {x : Int32} (k : K (lq [-77, -75] (qLock (bA X) x)) h) : wL_lockedBy 64 x h K := ⟨r.o, c9_lockedBy r i bn (kq_2 (qLock_2 _ _) k)⟩
theorem lw_routeLength (r : RBc h X) {x y : Int32} (k : K (lq [-77, -75] (qRL (bA X) x y)) h) : wL_routeLength 64 x y h K := ⟨r.o, c9_routeLength r (kq_2 (qRL_2 _ _ _) k)⟩
theorem lw_routeLengthByPaths (r : RBc h X) {x y : Int32} (k : K (lq [-77, -75] (qRL (bA X) x y)) h) : wL_routeLengthByPaths 64 x y h K := ⟨r.o, c9_routeLengthByPaths r (kq_2 (qRL_2 _ _ _) k)⟩
theorem lw_routeBlock (r : RBc h X) {x y z : Int32} (k : K (lq [-77, -75] (qRB (bA X) x y z)) h) : wL_routeBlock 64 x y z h K := ⟨r.o, c9_routeBlock r (kq_2 (qRB_2 _ _ _ _) k)⟩
theorem lw_paths (r : RBc h X) {x y : Int32} (k : K (lq [-77] (qPaths (bA X) x y)) h) : wL_paths 64 x y h K := ⟨r.o, c9_paths r (kq_1 (qPaths_1 _ _ _) k)⟩
theorem lw_blockOf (r : RBc h X) (i : IP (bA X)) {x : Int32} (k : K (lq [-75] (qT (fun t => nI (tb t)) (bA X) x)) h) : wL_blockOf 64 x h K := ⟨r.o, c9_blockOf r i (kq_1 (qT_1 _ _ _) k)⟩
theorem lw_destination (r : RBc h X) (i : IP (bA X)) {x : Int32} (k : K (lq [-75] (qT (fun t => nI (td t)) (bA X) x)) h) : wL_destination 64 x h K := ⟨r.o, c9_destination r i (kq_1 (qT_1 _ _ _) k)⟩
theorem lw_delay (r : RBc h X) (i : IP (bA X)) {x : Int32} (k : K (lq [-75] (qT (fun t => nI (tl t)) (bA X) x)) h) : wL_delay 64 x h K := ⟨r.o, c9_delay r i (kq_1 (qT_1 _ _ _) k)⟩
theorem lw_hasRoute (r : RBc h X) (i : IP (bA X)) {x : Int32} (k : K (lq [-75] (qT (fun t => if tr t = [] then nI 0 else nI 1) (bA X) x)) h) : wL_hasRoute 64 x h K := ⟨r.o, c9_hasRoute r i (kb_1 (qT_1 _ _ _) (qT_b (fun t => isB_ite' _) _ _) k)⟩
theorem lw_isClear (r : RBc h X) (i : IP (bA X)) {x : Int32} (k : K (lq [-75] (qT (fun t => if can (bA X) t = true then nI 1 else nI 0) (bA X) x)) h) : wL_isClear 64 x h K := ⟨r.o, c9_isClear r i (kb_1 (qT_1 _ _ _) (qT_b (fun t => isB_ite _) _ _) k)⟩
theorem lw_minutesUntilNext (r : RBc h X) (i : IP (bA X)) {x : Int32} (k : K (lq [-75] (qR (fun t => nI (tu t - aM (bA X))) (bA X) x)) h) : wL_minutesUntilNext 64 x h K := ⟨r.o, c9_minutesUntilNext r i (kq_1 (qR_1 _ _ _) k)⟩
theorem lw_minutesUntilArrival (r : RBc h X) (i : IP (bA X)) {x : Int32} (k : K (lq [-75] (qR (fun t => nI (rem (bA X) t)) (bA X) x)) h) : wL_minutesUntilArrival 64 x h K := ⟨r.o, c9_minutesUntilArrival r i (kq_1 (qR_1 _ _ _) k)⟩
theorem lw_queued (r : RBc h X) (i : IP (bA X)) (bn : BN (bA X)) {x : Int32} (k : K (lq [-75] (qQ (bA X) x)) h) : wL_queued 64 x h K := ⟨r.o, c9_queued r i bn (kq_1 (qQ_1 _ _) k)⟩
theorem lw_waitsFor (r : RBc h X) (i : IP (bA X)) {x y : Int32} (k : K (lq [-75] (qW (bA X) x y)) h) : wL_waitsFor 64 x y h K := ⟨r.o, c9_waitsFor r i (kb_1 (qW_1 _ _ _).1 (qW_1 _ _ _).2 k)⟩
theorem lw_conflict (r : RBc h X) (i : IP (bA X)) {x y : Int32} (k : K (lq [-75, -78] (qC (bA X) x y)) h) : wL_conflict 64 x y h K := ⟨r.o, c9_conflict r i (kb_2 (qC_2 _ _ _).1 (qC_2 _ _ _).2 k)⟩
theorem lw_byPassing (r : RBc h X) (i : PX w X) (hw : w ≤ 6200) {x : Int32} (k : ∀ g, fcl h g → RBc g X → K (lq [-75] (qR (fun t => nI (rem (bA X) t)) (bA X) x)) g) : wL_minutesUntilArrivalByPassing 64 x h K := by
  refine ⟨r.o, c9_minutesUntilArrivalByPassing r i hw (fun t ht hr g f q => ?_) (fun hn => ⟨rfl, ?_⟩)⟩
  · have k9 := k g f q
    unfold qR at k9
    rw [ht] at k9
    dsimp only at k9
    rw [if_neg hr] at k9
    exact k9
  · have k9 := k h (fcl.rf h) r
    unfold qR at k9
    cases e : fnd (bA X) x with
    | none => rw [e] at k9; exact k9
    | some t =>
      rw [e] at k9
      dsimp only at k9
      rw [if_pos (hn t e)] at k9
      exact k9
theorem lw_refusalReason (r : RBc h X) (hy : bY X < 128) (k : K (lq [-75] (if bY X = 0 then (1, nI 0) else (0, nI (bY X)))) h) : wL_refusalReason 64 h K := ⟨r.o, c9_refusalReason r hy (kq_1 (by split <;> exact Nat.le_of_ble_eq_true rfl) k)⟩
theorem qO_1 (o : Option Nat) : (qO o).1 ≤ 1 := by
  unfold qO
  split <;> exact Nat.le_of_ble_eq_true rfl
theorem lw_refusalBlock (r : RBc h X) (hb : ∀ b, bB X = some b → b < 2 ^ 31) (k : K (lq [-75] (qO (bB X))) h) : wL_refusalBlock 64 h K := ⟨r.o, c9_refusalBlock r hb (kq_1 (qO_1 _) k)⟩
theorem lw_writeTrain (r : RBc h X) (sd : stD h) (i : IP (bA X)) (bn : BN (bA X)) (ho : (bO X).length < 2 ^ 31) {x : Int32} {t : TG} (ht : fnd (bA X) x = some t) (k : ∀ g, fcl h g → RBc g (wO_ X (owT t)) → K (nI (owT t).length) g) : wL_writeTrain 64 x h K :=
  ⟨r.o, c9_writeTrain r sd i bn ho (fun u hu g f q => by
    rw [ht] at hu
    cases hu
    exact k g f q) (fun z => by rw [ht] at z; cases z)⟩
theorem lw_meanDelay (r : RBc h X) (bn : BN (bA X)) {K : UInt64 → AH → Prop} (k : K (if aC (bA X) = 0 then 13858279740860792832 else FP.ddiv (FP.i2d (nI (aD (bA X)))) (FP.i2d (nI (aC (bA X))))) h) : wL_meanDelay 64 h K :=
  ⟨r.o, c9_meanDelay r bn (fun z => by rw [if_neg z] at k; exact k) (fun z => ⟨rfl, by rw [if_pos z] at k; exact k⟩)⟩
theorem lw_usedShare (r : RBc h X) (i : IP (bA X)) {K : UInt32 → AH → Prop} (k : K (if gn (aL (bA X)) = 0 then 3264479232 else FP.fdiv (FP.i2f (nI (pc (hbt (aT (bA X)))))) (FP.i2f (nI (gn (aL (bA X)))))) h) : wL_usedShare 64 h K :=
  ⟨r.o, c9_usedShare r i (fun z => by rw [if_neg z] at k; exact k) (fun z => ⟨rfl, by rw [if_pos z] at k; exact k⟩)⟩
theorem lw_undo (r : RBc h X) (k : ∀ B H, bH X = B :: H → ∀ g, fcl h g → RBc g (B, H, X.2.2) → K (nI H.length) g) (kT : bH X = [] → K (-79) h) : wL_undo 64 h K := ⟨r.o, c9_undo r k (fun z => ⟨rfl, kT z⟩)⟩
theorem lw_restore (r : RBc h X) {B : AG} (hB : bS X = some B) (k : ∀ g, fcl h g → RBc g (B, [], X.2.2) → K (nI (aT B).length) g) : wL_restore 64 h K := ⟨r.o, c9_restore r (fun C hC g f q => by
  rw [hB] at hC
  cases hC
  exact k g f q) (fun z => by rw [hB] at z; cases z)⟩
theorem lw_type (r : RBc h X) {c : Nat} (hc : c < 65536) (hl : (bF X).length < 60) (k : ∀ g, fcl h g → RBc g (bA X, bH X, bS X, bO X, bF X ++ [c], X.2.2.2.2.2) → K (nI ((bF X).length + 1)) g) : wL_type 64 (nI c) h K := ⟨r.o, c9_type r hc (fun _ => k) (fun z => by omega)⟩
theorem lw_run (r : RBc h X) (t : stF h) (i : PX w X) (hw : w + 12 ≤ 6200) (h2 : (runQ X).1 ≤ 2) (k : ∀ g, fcl h g → RBc g (runX X) → K (lq [-78, -76] (runQ X)) g) : wL_run 64 h K := by
  refine ⟨r.o, c9_run r t i hw (fun e g f q => ?_) (fun j e g f q => ?_)⟩
  · have k9 := k g f q
    unfold lq at k9
    rw [e] at k9
    exact k9
  · have k9 := k g f q
    unfold lq at k9
    rw [e] at k9
    have hj : j = 0 ∨ j = 1 := by omega
    rcases hj with rfl | rfl
    · exact Or.inl ⟨rfl, k9⟩
    · exact Or.inr ⟨rfl, k9⟩

theorem lw_addBlock (r : RBc h X) (i : PX w X) (hw : w ≤ 6200) {x : Int32} (k : ∀ g, fcl h g → RBc g (cgd (oBlock (bA X) x) X) → K (cr [-78, -79] (oBlock (bA X) x)) g) : wL_addBlock 64 x h K := by
  have gk : GK (bA X) := r.gk i
  refine ⟨r.o, c9_addBlock r i hw (fun e g f q => ?_) (fun j e g f q => ?_)⟩
  · have k9 := k g f q
    unfold cr at k9
    rw [e] at k9
    exact k9
  have hb : (oBlock (bA X) x).1 ≤ 2 := (rg_block x gk.1).1
  have k9 := k g f q
  unfold cr at k9
  rw [e] at k9
  rcases j with _ | _ | j
  · exact Or.inl ⟨by decide +kernel, k9⟩
  · exact Or.inr ⟨by decide +kernel, k9⟩
  · omega
theorem lw_addPoint (r : RBc h X) (i : PX w X) (hw : w ≤ 6200) {x y z : Int32} (k : ∀ g, fcl h g → RBc g (cgd (oPoint (bA X) x y z) X) → K (cr [-77, -78, -79] (oPoint (bA X) x y z)) g) : wL_addPoint 64 x y z h K := by
  have gk : GK (bA X) := r.gk i
  refine ⟨r.o, c9_addPoint r i hw (fun e g f q => ?_) (fun j e g f q => ?_)⟩
  · have k9 := k g f q
    unfold cr at k9
    rw [e] at k9
    exact k9
  have hb : (oPoint (bA X) x y z).1 ≤ 3 := (rg_point x y z gk.1).1
  have k9 := k g f q
  unfold cr at k9
  rw [e] at k9
  rcases j with _ | _ | _ | j
  · exact Or.inl ⟨by decide +kernel, k9⟩
  · exact Or.inr (Or.inl ⟨by decide +kernel, k9⟩)
  · exact Or.inr (Or.inr ⟨by decide +kernel, k9⟩)
  · omega
theorem lw_addLink (r : RBc h X) (i : PX w X) (hw : w ≤ 6200) {x y : Int32} (k : ∀ g, fcl h g → RBc g (cgd (oLink (bA X) x y) X) → K (cr [-77, -78, -79] (oLink (bA X) x y)) g) : wL_addLink 64 x y h K := by
  have gk : GK (bA X) := r.gk i
  refine ⟨r.o, c9_addLink r i hw (fun e g f q => ?_) (fun j e g f q => ?_)⟩
  · have k9 := k g f q
    unfold cr at k9
    rw [e] at k9
    exact k9
  have hb : (oLink (bA X) x y).1 ≤ 3 := (rg_link x y gk.1).1
  have k9 := k g f q
  unfold cr at k9
  rw [e] at k9
  rcases j with _ | _ | _ | j
  · exact Or.inl ⟨by decide +kernel, k9⟩
  · exact Or.inr (Or.inl ⟨by decide +kernel, k9⟩)
  · exact Or.inr (Or.inr ⟨by decide +kernel, k9⟩)
  · omega
theorem lw_shut (r : RBc h X) (i : PX w X) (hw : w ≤ 6200) {x : Int32} (k : ∀ g, fcl h g → RBc g (cgd (oShut (bA X) x) X) → K (cr [-77, -79] (oShut (bA X) x)) g) : wL_shut 64 x h K := by
  have gk : GK (bA X) := r.gk i
  refine ⟨r.o, c9_shut r i hw (fun e g f q => ?_) (fun j e g f q => ?_)⟩
  · have k9 := k g f q
    unfold cr at k9
    rw [e] at k9
    exact k9
  have hb : (oShut (bA X) x).1 ≤ 2 := (rg_shut x).1
  have k9 := k g f q
  unfold cr at k9
  rw [e] at k9
  rcases j with _ | _ | j
  · exact Or.inl ⟨by decide +kernel, k9⟩
  · exact Or.inr ⟨by decide +kernel, k9⟩
  · omega
theorem lw_open (r : RBc h X) (i : PX w X) (hw : w ≤ 6200) {x : Int32} (k : ∀ g, fcl h g → RBc g (cgd (oOpen (bA X) x) X) → K (cr [-77, -79] (oOpen (bA X) x)) g) : wL_open 64 x h K := by
  have gk : GK (bA X) := r.gk i
  refine ⟨r.o, c9_open r i hw (fun e g f q => ?_) (fun j e g f q => ?_)⟩
  · have k9 := k g f q
    unfold cr at k9
    rw [e] at k9
    exact k9
  have hb : (oOpen (bA X) x).1 ≤ 2 := (rg_open x).1
  have k9 := k g f q
  unfold cr at k9
  rw [e] at k9
  rcases j with _ | _ | j
  · exact Or.inl ⟨by decide +kernel, k9⟩
  · exact Or.inr ⟨by decide +kernel, k9⟩
  · omega
theorem ob_b {A : AG} {x : Int32} : (oThrow A x).2.1 = if (oThrow A x).2.1 = nI 1 then nI 1 else nI 0 := by
  have h : isB (oThrow A x).2.1 := by
    unfold oThrow
    split
    · exact Or.inl rfl
    · split
      · exact Or.inl rfl
      · split
        · exact Or.inl rfl
        · exact isB_ite _
  rcases h with e | e <;> rw [e] <;> decide
theorem lw_throwPoint (r : RBc h X) (i : PX w X) (hw : w ≤ 6200) {x : Int32} (k : ∀ g, fcl h g → RBc g (cgd (oThrow (bA X) x) X) → K (cr [-77, -79] (oThrow (bA X) x)) g) : wL_throwPoint 64 x h K := by
  have gk : GK (bA X) := r.gk i
  refine ⟨r.o, c9_throwPoint r i hw (fun e g f q => ?_) (fun j e g f q => ?_)⟩
  · have k9 := k g f q
    unfold cr at k9
    rw [e] at k9
    exact bo_k (isB_ite _) (by rw [ob_b] at k9; exact k9)
  have hb : (oThrow (bA X) x).1 ≤ 2 := (rg_throw x).1
  have k9 := k g f q
  unfold cr at k9
  rw [e] at k9
  rcases j with _ | _ | j
  · exact Or.inl ⟨by decide +kernel, k9⟩
  · exact Or.inr ⟨by decide +kernel, k9⟩
  · omega
theorem lw_addTrain (r : RBc h X) (i : PX w X) (hw : w ≤ 6200) {x y : Int32} (k : ∀ g, fcl h g → RBc g (cgd (oTrain (bA X) x y) X) → K (cr [-77, -78, -79] (oTrain (bA X) x y)) g) : wL_addTrain 64 x y h K := by
  have gk : GK (bA X) := r.gk i
  refine ⟨r.o, c9_addTrain r i hw (fun e g f q => ?_) (fun j e g f q => ?_)⟩
  · have k9 := k g f q
    unfold cr at k9
    rw [e] at k9
    exact k9
  have hb : (oTrain (bA X) x y).1 ≤ 3 := (rg_train x y (i.1.2.bn hw)).1
  have k9 := k g f q
  unfold cr at k9
  rw [e] at k9
  rcases j with _ | _ | _ | j
  · exact Or.inl ⟨by decide +kernel, k9⟩
  · exact Or.inr (Or.inl ⟨by decide +kernel, k9⟩)
  · exact Or.inr (Or.inr ⟨by decide +kernel, k9⟩)
  · omega
theorem lw_setRoute (r : RBc h X) (i : PX w X) (hw : w ≤ 6200) {x : Int32} (k : ∀ g, fcl h g → RBc g (cgS (bA X) x X) → K (cr [-75, -79, -76] (oSet (bA X) x)) g) : wL_setRoute 64 x h K := by
  have gk : GK (bA X) := r.gk i
  refine ⟨r.o, c9_setRoute r i hw (fun e g f q => ?_) (fun j e g f q => ?_)⟩
  · have k9 := k g f q
    unfold cr at k9
    rw [e] at k9
    exact k9
  have hb : (oSet (bA X) x).1 ≤ 3 := (rg_set x gk).1
  have k9 := k g f q
  unfold cr at k9
  rw [e] at k9
  rcases j with _ | _ | _ | j
  · exact Or.inl ⟨by decide +kernel, k9⟩
  · exact Or.inr (Or.inl ⟨by decide +kernel, k9⟩)
  · exact Or.inr (Or.inr ⟨by decide +kernel, k9⟩)
  · omega
theorem lw_releaseRoute (r : RBc h X) (i : PX w X) (hw : w ≤ 6200) {x : Int32} (k : ∀ g, fcl h g → RBc g (cgd (oFree (bA X) x) X) → K (cr [-75, -79] (oFree (bA X) x)) g) : wL_releaseRoute 64 x h K := by
  have gk : GK (bA X) := r.gk i
  refine ⟨r.o, c9_releaseRoute r i hw (fun e g f q => ?_) (fun j e g f q => ?_)⟩
  · have k9 := k g f q
    unfold cr at k9
    rw [e] at k9
    exact k9
  have hb : (oFree (bA X) x).1 ≤ 2 := (rg_free x i.1.1).1
  have k9 := k g f q
  unfold cr at k9
  rw [e] at k9
  rcases j with _ | _ | j
  · exact Or.inl ⟨by decide +kernel, k9⟩
  · exact Or.inr ⟨by decide +kernel, k9⟩
  · omega
theorem lw_pass (r : RBc h X) (i : PX w X) (hw : w ≤ 6200) {x : Int32} (k : ∀ g, fcl h g → RBc g (cgd (oPass (bA X) x) X) → K (cr [-78] (oPass (bA X) x)) g) : wL_pass 64 x h K := by
  have gk : GK (bA X) := r.gk i
  refine ⟨r.o, c9_pass r i hw (fun e g f q => ?_) (fun j e g f q => ?_)⟩
  · have k9 := k g f q
    unfold cr at k9
    rw [e] at k9
    exact k9
  have hb : (oPass (bA X) x).1 ≤ 1 := (rg_pass x gk i.1.2 hw).1
  have k9 := k g f q
  unfold cr at k9
  rw [e] at k9
  rcases j with _ | j
  · exact ⟨by decide +kernel, k9⟩
  · omega
end LWR
