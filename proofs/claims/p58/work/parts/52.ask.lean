/-! THE CLASS'S QUESTIONS about the line and the trains -/
abbrev QA : Type := Nat × Int32
def qLen (A : AG) (x : Int32) : QA := match iv (gn (aL A)) x with
  | none => (1, nI 0)
  | some b => (0, nI (gl (aL A) b))
def qState (A : AG) (x : Int32) : QA := match iv (gn (aL A)) x with
  | none => (1, nI 0)
  | some b => (0, nI (stc A b))
def qAt (A : AG) (x : Int32) : QA := match iv (gn (aL A)) x with
  | none => (1, nI 0)
  | some b => match hold A b with
    | none => (2, nI 0)
    | some t => (0, nI (tn t))
def qLies (A : AG) (x : Int32) : QA := match iv (gp (aL A)).length x with
  | none => (1, nI 0)
  | some p => match (gp (aL A))[p]? with
    | none => (1, nI 0)
    | some s => (0, if (gd (aL A)).testBit s = true then nI 0 else nI 1)
def qLock (A : AG) (x : Int32) : QA := match iv (gp (aL A)).length x with
  | none => (1, nI 0)
  | some p => match (gp (aL A))[p]? with
    | none => (1, nI 0)
    | some s => match lkr A s with
      | none => (2, nI 0)
      | some t => (0, nI (tn t))
noncomputable def qRL (A : AG) (x y : Int32) : QA := match iv (gn (aL A)) x, iv (gn (aL A)) y with
  | some b, some t => if b ≠ t ∧ rt (aL A) b t = [] then (2, nI 0) else (0, nI (sl (aL A) (rt (aL A) b t)))
  | _, _ => (1, nI 0)
noncomputable def qRB (A : AG) (x y z : Int32) : QA := match iv (gn (aL A)) x, iv (gn (aL A)) y with
  | some b, some t => if b ≠ t ∧ rt (aL A) b t = [] then (2, nI 0) else match iv (rt (aL A) b t).length.succ z with
    | none => (2, nI 0)
    | some i => (0, nI ((b :: rt (aL A) b t).getD i 0))
  | _, _ => (1, nI 0)
def qT (f : TG → Int32) (A : AG) (x : Int32) : QA := match fnd A x with
  | none => (1, nI 0)
  | some t => (0, f t)
def qR (f : TG → Int32) (A : AG) (x : Int32) : QA := match fnd A x with
  | none => (1, nI 0)
  | some t => if tr t = [] then (1, nI 0) else (0, f t)
def qQ (A : AG) (x : Int32) : QA := match iv (aQ A).length x with
  | none => (1, nI 0)
  | some i => (0, nI ((aQ A).getD i 0))
/-- whether a train waits for another: the other holds a block of its route -/
noncomputable def wts (A : AG) (t u : TG) : Bool := decide (tr t = []) && (rtT A t).any (fun b => decide (b ∈ th_ u))
noncomputable def qW (A : AG) (x y : Int32) : QA := match fnd A x, fnd A y with
  | some t, some u => (0, if x ≠ y ∧ wts A t u = true then nI 1 else nI 0)
  | _, _ => (1, nI 0)
noncomputable def cfl (A : AG) (t u : TG) : Bool := (rtT A t).any (fun b => decide (b ∈ rtT A u))
noncomputable def qC (A : AG) (x y : Int32) : QA := match fnd A x, fnd A y with
  | some t, some u => if x = y then (2, nI 0) else (0, if cfl A t u = true then nI 1 else nI 0)
  | _, _ => (1, nI 0)
/-- the continuations of a question -/
def kq (q : QA) (ns : List String) (K : Int32 → AH → Prop) (T : String → AH → Prop) (h : AH) : Prop := (q.1 = 0 → K q.2 h) ∧ ∀ j, q.1 = j + 1 → T (ns.getD j "") h
abbrev xI : String := "java/lang/IndexOutOfBoundsException"
abbrev xS : String := "java/util/NoSuchElementException"
abbrev xA : String := "java/lang/IllegalArgumentException"
theorem bool_n : narrow .boolean (.int (nI 0)) = .int (nI 0) ∧ narrow .boolean (.int (nI 1)) = .int (nI 1) := by decide
section AS
variable {h g : AH} {p w : Nat} {X : BG} {B : AG} {K : Int32 → AH → Prop} {T : String → AH → Prop}
theorem c_checkB (r : RBp h p X) {b : Nat} (hb : b < gn (aL (bA X))) {K : AH → Prop} (k : K h) : wX9_checkBlock 64 (nI b) h K T := by
  have s := r.2.2.1
  unfold wX9_checkBlock
  rw [r.1.f0, s.1.m0]
  refine ⟨r.1.o, s.1.o, s.1.lg.o, ?_⟩
  rw [c_has s.2.1.1 hb]
  exact ⟨fun _ => k, fun z => absurd z (by rw [n1_ne]; exact id)⟩
theorem c_checkN (r : RBp h p X) {x : Int32} (hx : x < nI 0 ∨ nI (gn (aL (bA X))) ≤ x) {K : AH → Prop} (k : T xI h) : wX9_checkBlock 64 x h K T := by
  have s := r.2.2.1
  unfold wX9_checkBlock
  rw [r.1.f0, s.1.m0]
  refine ⟨r.1.o, s.1.o, s.1.lg.o, ?_⟩
  rw [c_hasN s.2.1.1 hx]
  exact ⟨fun z => absurd rfl z, fun _ => k⟩
theorem c_checkPt (r : RBp h p X) {b : Nat} (hb : b < (gp (aL (bA X))).length) {K : AH → Prop} (k : K h) : wX9_checkPoint 64 (nI b) h K T := by
  have s := r.2.2.1
  unfold wX9_checkPoint
  rw [r.1.f0, s.1.m0]
  refine ⟨r.1.o, s.1.o, s.1.lg.o, ?_⟩
  rw [c_hasPoint s.2.1.1 hb]
  exact ⟨fun _ => k, fun z => absurd z (by rw [n1_ne]; exact id)⟩
theorem c_checkPN (r : RBp h p X) {x : Int32} (hx : x < nI 0 ∨ nI (gp (aL (bA X))).length ≤ x) {K : AH → Prop} (k : T xI h) : wX9_checkPoint 64 x h K T := by
  have s := r.2.2.1
  unfold wX9_checkPoint
  rw [r.1.f0, s.1.m0]
  refine ⟨r.1.o, s.1.o, s.1.lg.o, ?_⟩
  rw [c_hasPointN s.2.1.1 hx]
  exact ⟨fun z => absurd rfl z, fun _ => k⟩
theorem RBp.n12 (r : RBp h p X) : gn (aL (bA X)) ≤ 12 := r.2.2.1.2.1.1.n12
theorem RBp.p8 (r : RBp h p X) : (gp (aL (bA X))).length ≤ 8 := r.2.2.1.2.1.1.2.2.2.2.2.2.1
theorem c9_blockLength (r : RBc h X) {x : Int32} (k : kq (qLen (bA X) x) [xI] K T h) : wX9_blockLength 64 x h K T := by
  obtain ⟨p, r⟩ := r
  have s := r.2.2.1
  have h12 := r.n12
  unfold wX9_blockLength
  unfold qLen at k
  refine ⟨r.1.o, ?_⟩
  rcases iv_cases (gn (aL (bA X))) (by omega) x with ⟨e, hx⟩ | ⟨b, hb, rfl, e⟩
  · rw [e] at k
    exact c_checkN r hx (k.2 0 rfl)
  · rw [e] at k
    refine c_checkB r hb ⟨r.1.o, ?_⟩
    rw [r.1.f0, s.1.m0]
    refine ⟨s.1.o, s.1.lg.o, ?_⟩
    rw [c_lengthOf s.2.1.1 hb]
    exact k.1 rfl
theorem stc_le (A : AG) (b : Nat) : stc A b < 128 ∧ 0 < stc A b := by
  unfold stc
  split
  · decide
  · split
    · decide
    · split
      · decide
      · decide
theorem c9_blockState (r : RBc h X) (i : IP (bA X)) {x : Int32} (k : kq (qState (bA X) x) [xI] K T h) : wX9_blockState 64 x h K T := by
  obtain ⟨p, r⟩ := r
  have s := r.2.2.1
  have h12 := r.n12
  unfold wX9_blockState
  unfold qState at k
  refine ⟨r.1.o, ?_⟩
  rcases iv_cases (gn (aL (bA X))) (by omega) x with ⟨e, hx⟩ | ⟨b, hb, rfl, e⟩
  · rw [e] at k
    exact c_checkN r hx (k.2 0 rfl)
  · rw [e] at k
    refine c_checkB r hb ⟨r.1.o, ?_⟩
    rw [r.1.f0]
    exact ⟨s.1.o, c_stateOf s i.it hb ⟨(ch_ok _ (stc_le _ _).1).1, k.1 rfl⟩⟩
theorem hold_n (i : IP (bA X)) (bn : BN (bA X)) {b : Nat} {t : TG} (e : hold (bA X) b = some t) : tn t < 2 ^ 31 := by
  have := (i.2.1 t (List.mem_of_find?_eq_some e)).2.2.2.1
  have := bn.1
  omega
theorem lkr_n (i : IP (bA X)) (bn : BN (bA X)) {b : Nat} {t : TG} (e : lkr (bA X) b = some t) : tn t < 2 ^ 31 := by
  have := (i.2.1 t (List.mem_of_find?_eq_some e)).2.2.2.1
  have := bn.1
  omega
theorem c9_trainAt (r : RBc h X) (i : IP (bA X)) (bn : BN (bA X)) {x : Int32} (k : kq (qAt (bA X) x) [xI, xS] K T h) : wX9_trainAt 64 x h K T := by
  obtain ⟨p, r⟩ := r
  have s := r.2.2.1
  have h12 := r.n12
  unfold wX9_trainAt
  unfold qAt at k
  refine ⟨r.1.o, ?_⟩
  rcases iv_cases (gn (aL (bA X))) (by omega) x with ⟨e, hx⟩ | ⟨b, hb, rfl, e⟩
  · rw [e] at k
    exact c_checkN r hx (k.2 0 rfl)
  · rw [e] at k
    refine c_checkB r hb ⟨r.1.o, ?_⟩
    rw [r.1.f0]
    refine ⟨s.1.o, c_holderOf s i.it (by omega) ?_⟩
    cases ho : hold (bA X) b with
    | none =>
      simp only [ho] at k
      exact ⟨fun z => absurd rfl z, fun _ => k.2 1 rfl⟩
    | some t =>
      simp only [ho] at k
      exact ⟨fun _ => k.1 rfl, fun z => absurd z (by rw [Option.map_some, oI_some, nI_nem (hold_n i bn ho)]; exact id)⟩
theorem c9_liesLeft (r : RBc h X) {x : Int32} (k : kq (qLies (bA X) x) [xI] K T h) : wX9_liesLeft 64 x h K T := by
  obtain ⟨p, r⟩ := r
  have s := r.2.2.1
  have h8 := r.p8
  unfold wX9_liesLeft
  unfold qLies at k
  refine ⟨r.1.o, ?_⟩
  rcases iv_cases (gp (aL (bA X))).length (by omega) x with ⟨e, hx⟩ | ⟨b, hb, rfl, e⟩
  · rw [e] at k
    exact c_checkPN r hx (k.2 0 rfl)
  · have hs : (gp (aL (bA X)))[b]? = some (gp (aL (bA X)))[b] := List.getElem?_eq_getElem hb
    rw [e] at k
    simp only [hs] at k
    refine c_checkPt r hb ⟨r.1.o, ?_⟩
    rw [r.1.f0, s.1.m0]
    refine ⟨s.1.o, s.1.lg.o, ?_⟩
    rw [c_pointsLeft s.2.1.1 hs]
    refine ⟨?_, k.1 rfl⟩
    split
    · exact bool_n.1
    · exact bool_n.2
theorem c9_lockedBy (r : RBc h X) (i : IP (bA X)) (bn : BN (bA X)) {x : Int32} (k : kq (qLock (bA X) x) [xI, xS] K T h) : wX9_lockedBy 64 x h K T := by
  obtain ⟨p, r⟩ := r
  have s := r.2.2.1
  have h8 := r.p8
  unfold wX9_lockedBy
  unfold qLock at k
  refine ⟨r.1.o, ?_⟩
  rcases iv_cases (gp (aL (bA X))).length (by omega) x with ⟨e, hx⟩ | ⟨b, hb, rfl, e⟩
  · rw [e] at k
    exact c_checkPN r hx (k.2 0 rfl)
  · have hs : (gp (aL (bA X)))[b]? = some (gp (aL (bA X)))[b] := List.getElem?_eq_getElem hb
    rw [e] at k
    simp only [hs] at k
    refine c_checkPt r hb ⟨r.1.o, ?_⟩
    rw [r.1.f0]
    refine ⟨s.1.o, c_lockerOf s i.it hs ?_⟩
    cases ho : lkr (bA X) (gp (aL (bA X)))[b] with
    | none =>
      simp only [ho] at k
      exact ⟨fun z => absurd rfl z, fun _ => k.2 1 rfl⟩
    | some t =>
      simp only [ho] at k
      exact ⟨fun _ => k.1 rfl, fun z => absurd z (by rw [Option.map_some, oI_some, nI_nem (lkr_n i bn ho)]; exact id)⟩
theorem rt_gn (r : RBp h p X) {b t : Nat} (hb : b < gn (aL (bA X))) (ht : t < gn (aL (bA X))) : (∀ y ∈ rt (aL (bA X)) b t, y < gn (aL (bA X))) ∧ (b :: rt (aL (bA X)) b t).Nodup ∧ (rt (aL (bA X)) b t).length ≤ 11 := by
  have s := r.2.2.1.2.1
  cases hn : nx (aL (bA X)) t b with
  | none =>
    rw [rt_nil hn]
    exact ⟨fun _ z => absurd z List.not_mem_nil, List.nodup_cons.mpr ⟨List.not_mem_nil, List.nodup_nil⟩, Nat.zero_le _⟩
  | some c =>
    obtain ⟨f1, f2, f3, -⟩ := rtF s.1.2.2 (s.2.2.b ht) hb (by rw [hn]; simp)
    exact ⟨f1, f2, f3⟩
theorem c_checkR (r : RBp h p X) {b t : Nat} (hb : b < gn (aL (bA X))) (ht : t < gn (aL (bA X))) {K : AH → Prop} (k : ¬ (b ≠ t ∧ rt (aL (bA X)) b t = []) → K h) (kT : b ≠ t ∧ rt (aL (bA X)) b t = [] → T xS h) : wX9_checkRoute 64 (nI b) (nI t) h K T := by
  have s := r.2.2.1
  have h12 := r.n12
  unfold wX9_checkRoute
  refine ⟨r.1.o, c_checkB r hb ⟨r.1.o, c_checkB r ht ⟨fun z => ?_, fun z => ⟨r.1.o, ?_⟩⟩⟩⟩
  · rw [nI_eq (by omega) (by omega)] at z
    exact k (fun y => y.1 z)
  · rw [nI_eq (by omega) (by omega)] at z
    rw [r.1.f0, s.1.m0]
    refine ⟨s.1.o, s.1.lg.o, ?_⟩
    rw [c_routeBlocks s.2.1 hb ht]
    have hlt : bts (rt (aL (bA X)) b t) < 2 ^ 12 := bts_lt fun y hy => by have := (rt_gn r hb ht).1 y hy; omega
    rw [nI_z (by omega), show (bts (rt (aL (bA X)) b t) = 0) = (rt (aL (bA X)) b t = []) from propext (bts_0 _)]
    exact ⟨fun y => k (fun u => y u.2), fun y => kT ⟨z, y⟩⟩
theorem c_checkRN (r : RBp h p X) {x y : Int32} (hx : iv (gn (aL (bA X))) x = none ∨ iv (gn (aL (bA X))) y = none) {K : AH → Prop} (kT : T xI h) : wX9_checkRoute 64 x y h K T := by
  have h12 := r.n12
  unfold wX9_checkRoute
  rcases iv_cases (gn (aL (bA X))) (by omega) x with ⟨e, hx2⟩ | ⟨b, hb, rfl, e⟩
  · exact ⟨r.1.o, c_checkN r hx2 kT⟩
  · have hy := hx.resolve_left (by rw [e]; simp)
    exact ⟨r.1.o, c_checkB r hb ⟨r.1.o, c_checkN r (iv_none hy) kT⟩⟩
theorem c9_routeLength (r : RBc h X) {x y : Int32} (k : kq (qRL (bA X) x y) [xI, xS] K T h) : wX9_routeLength 64 x y h K T := by
  obtain ⟨p, r⟩ := r
  have s := r.2.2.1
  have h12 := r.n12
  unfold wX9_routeLength
  unfold qRL at k
  refine ⟨r.1.o, ?_⟩
  cases ex : iv (gn (aL (bA X))) x with
  | none =>
    rw [ex] at k
    exact c_checkRN r (Or.inl ex) (k.2 0 rfl)
  | some b =>
    cases ey : iv (gn (aL (bA X))) y with
    | none =>
      rw [ex, ey] at k
      exact c_checkRN r (Or.inr ey) (k.2 0 rfl)
    | some t =>
      rw [ex, ey] at k
      simp only at k
      obtain ⟨hb, rfl⟩ := iv_some (by omega) ex
      obtain ⟨ht, rfl⟩ := iv_some (by omega) ey
      refine c_checkR r hb ht (fun z => ?_) (fun z => ?_)
      · rw [if_neg z] at k
        obtain ⟨f1, f2, -⟩ := rt_gn r hb ht
        rw [r.1.f0, s.1.m0]
        refine ⟨r.1.o, s.1.o, s.1.lg.o, ?_⟩
        rw [c_routeBlocks s.2.1 hb ht]
        exact ⟨s.1.lg.o, c_totalLength s.2.1.1 (List.nodup_cons.mp f2).2 f1 (k.1 rfl)⟩
      · rw [if_pos z] at k
        exact k.2 1 rfl
theorem onR_l (r : RBp h p X) {t n : Nat} (ht : t < gn (aL (bA X))) (hn : n < 12) {K : Int32 → AH → Prop} : ∀ (l : List Nat) (b x : Nat), rt (aL (bA X)) b t = l → b < gn (aL (bA X)) → x ≤ n → K (oI ((b :: l)[n - x]?)) h → ∃ f, wX4_blockOnRoute_L18 K f 66 (nI t) (nI n) (nI b) (nI x) h := by
  have s := r.2.2.1
  have h12 := r.n12
  have stop : ∀ j x, x + j = n → K (-1) h → wX4_blockOnRoute_L18 K (j + 1) 66 (nI t) (nI n) (-1) (nI x) h := by
    intro j
    induction j with
    | zero =>
      intro x hx k
      rw [wX4_blockOnRoute_L18]; dsimp only
      exact ⟨fun _ => k, fun z => absurd (nI_le (by omega) (by omega)) z⟩
    | succ j ih =>
      intro x hx k
      rw [wX4_blockOnRoute_L18]; dsimp only
      refine ⟨fun z => absurd z (nI_ge (by omega) (by omega)), fun _ => ⟨s.1.lg.o, ?_⟩⟩
      rw [c_nextOnRoute_m s.2.1.1, nI_add]
      exact ih (x + 1) (by omega) k
  intro l
  induction l with
  | nil =>
    intro b x hr hb hx k
    by_cases e : x = n
    · subst e
      refine ⟨1, ?_⟩
      rw [wX4_blockOnRoute_L18]; dsimp only
      rw [Nat.sub_self] at k
      exact ⟨fun _ => k, fun z => absurd (nI_le (Nat.le_refl _) (by omega)) z⟩
    · have hnx : nx (aL (bA X)) t b = none := by
        by_cases hbt : b = t
        · subst hbt; exact (s.2.1.2.2.b ht).2.1
        · exact (rt_ne (s.2.1.2.2.b ht) hb hbt).mp hr
      obtain ⟨m, hm⟩ : ∃ m, n - x = m + 1 := ⟨n - x - 1, by omega⟩
      rw [hm] at k
      simp only [List.getElem?_cons_succ, List.getElem?_nil] at k
      refine ⟨m + 2, ?_⟩
      rw [wX4_blockOnRoute_L18]; dsimp only
      refine ⟨fun z => absurd z (nI_ge (by omega) (by omega)), fun _ => ⟨s.1.lg.o, ?_⟩⟩
      rw [c_nextOnRoute s.2.1 hb ht, hnx, nI_add]
      exact stop m (x + 1) (by omega) k
  | cons c l ih =>
    intro b x hr hb hx k
    by_cases e : x = n
    · subst e
      refine ⟨1, ?_⟩
      rw [wX4_blockOnRoute_L18]; dsimp only
      rw [Nat.sub_self] at k
      exact ⟨fun _ => k, fun z => absurd (nI_le (Nat.le_refl _) (by omega)) z⟩
    · have hnx : nx (aL (bA X)) t b = some c := by
        cases hn2 : nx (aL (bA X)) t b with
        | none => rw [rt_nil hn2] at hr; cases hr
        | some d =>
          have := (rt_cons s.2.1.1.2.2 (s.2.1.2.2.b ht) hb hn2).1
          rw [hr] at this
          cases this
          rfl
      obtain ⟨q1, q2, q3, -⟩ := rt_cons s.2.1.1.2.2 (s.2.1.2.2.b ht) hb hnx
      rw [hr] at q1
      obtain ⟨m, hm⟩ : ∃ m, n - x = m + 1 := ⟨n - x - 1, by omega⟩
      rw [hm, List.getElem?_cons_succ, show m = n - (x + 1) by omega] at k
      obtain ⟨f, hf⟩ := ih c (x + 1) (by injection q1 with _ q; exact q.symm) q3 (by omega) k
      refine ⟨f + 1, ?_⟩
      rw [wX4_blockOnRoute_L18]; dsimp only
      refine ⟨fun z => absurd z (nI_ge (by omega) (by omega)), fun _ => ⟨s.1.lg.o, ?_⟩⟩
      rw [c_nextOnRoute s.2.1 hb ht, hnx, nI_add]
      exact hf
theorem c9_routeBlock (r : RBc h X) {x y z : Int32} (k : kq (qRB (bA X) x y z) [xI, xS] K T h) : wX9_routeBlock 64 x y z h K T := by
  obtain ⟨p, r⟩ := r
  have s := r.2.2.1
  have h12 := r.n12
  unfold wX9_routeBlock
  unfold qRB at k
  refine ⟨r.1.o, ?_⟩
  cases ex : iv (gn (aL (bA X))) x with
  | none =>
    rw [ex] at k
    exact c_checkRN r (Or.inl ex) (k.2 0 rfl)
  | some b =>
    cases ey : iv (gn (aL (bA X))) y with
    | none =>
      rw [ex, ey] at k
      exact c_checkRN r (Or.inr ey) (k.2 0 rfl)
    | some t =>
      rw [ex, ey] at k
      simp only at k
      obtain ⟨hb, rfl⟩ := iv_some (by omega) ex
      obtain ⟨ht, rfl⟩ := iv_some (by omega) ey
      refine c_checkR r hb ht (fun e => ?_) (fun e => ?_)
      · rw [if_neg e] at k
        obtain ⟨f1, f2, f3⟩ := rt_gn r hb ht
        rw [r.1.f0, s.1.m0]
        refine ⟨r.1.o, s.1.o, s.1.lg.o, ?_⟩
        unfold wX4_blockOnRoute
        have hlen : (b :: rt (aL (bA X)) b t).length = (rt (aL (bA X)) b t).length.succ := rfl
        rcases ix_of z 12 (by decide) with hz | ⟨n, hn, rfl⟩
        · have e2 : iv (rt (aL (bA X)) b t).length.succ z = none := by
            unfold iv
            rw [if_pos]
            rcases hz with hz | hz
            · exact Or.inl hz
            · refine Or.inr (Int32.le_trans (nI_le (by omega) (by decide)) hz)
          rw [e2] at k
          have kk := k.2 1 rfl
          refine ⟨fun _ => ⟨fun z => absurd rfl z, fun _ => kk⟩, fun h0 => ⟨fun h1 => ?_, fun _ => ⟨fun z => absurd rfl z, fun _ => kk⟩⟩⟩
          rcases hz with hz | hz
          · exact absurd hz h0
          · exact absurd h1 (by rw [ge_nlt hz]; exact id)
        · refine ⟨fun h0 => absurd h0 (by rw [lt0_f (by omega)]; exact id), fun _ => ⟨fun _ => ?_, fun h1 => absurd (by rw [nI_ltI (by omega) (by decide)]; exact hn) h1⟩⟩
          refine onR_l r ht hn _ b 0 rfl hb (Nat.zero_le _) ?_
          rw [Nat.sub_zero]
          by_cases hl : n < (rt (aL (bA X)) b t).length.succ
          · have e3 : (b :: rt (aL (bA X)) b t)[n]? = some ((b :: rt (aL (bA X)) b t).getD n 0) := by
              rw [List.getD_eq_getElem?_getD, List.getElem?_eq_getElem (by rw [hlen]; exact hl)]
              rfl
            rw [iv_j hl (by omega)] at k
            have hb2 : (b :: rt (aL (bA X)) b t).getD n 0 < 2 ^ 31 := by
              have := List.mem_of_getElem? e3
              rcases List.mem_cons.mp this with z | z
              · rw [z]; omega
              · have := f1 _ z; omega
            rw [e3, oI_some]
            exact ⟨fun _ => k.1 rfl, fun z => absurd z (by rw [nI_nem hb2]; exact id)⟩
          · have e3 : (b :: rt (aL (bA X)) b t)[n]? = none := List.getElem?_eq_none (by rw [hlen]; omega)
            have e2 : iv (rt (aL (bA X)) b t).length.succ (nI n) = none := by
              unfold iv
              rw [if_pos (Or.inr (nI_le (by omega) (by omega)))]
            rw [e2] at k
            rw [e3]
            exact ⟨fun z => absurd rfl z, fun _ => k.2 1 rfl⟩
      · rw [if_pos e] at k
        exact k.2 1 rfl
theorem c_present (r : RBp h p X) (i : IP (bA X)) {x : Int32} {K : Nat → AH → Prop} (k : ∀ j t, fnd (bA X) x = some t → (aT (bA X))[j]? = some t → j < 8 → K (mR h 98 j) h) (kT : fnd (bA X) x = none → T xS h) : wX9_presentTrain 64 x h K T := by
  have s := r.2.2.1
  unfold wX9_presentTrain
  refine ⟨r.1.o, ?_⟩
  rw [r.1.f0]
  refine ⟨s.1.o, c_find s i.it (fun c hc => ?_)⟩
  unfold fr_ at hc
  cases hf : fnd (bA X) x with
  | none =>
    rw [hf] at hc
    exact ⟨fun _ => kT hf, fun z => absurd hc z⟩
  | some t =>
    rw [hf] at hc
    obtain ⟨j, hj, hjt, rfl⟩ := hc
    have := s.1.tR hj
    exact ⟨fun z => absurd z (by show ¬ mR h 98 j = 0; omega), fun _ => k j t hf hjt hj⟩
theorem c9_blocks (r : RBc h X) (k : K (nI (gn (aL (bA X)))) h) {T : Prop} : wX9_blocks 64 h K := by
  obtain ⟨p, r⟩ := r
  have s := r.2.2.1
  unfold wX9_blocks
  rw [r.1.f0, s.1.m0, s.2.1.1.2.1.1]
  exact ⟨r.1.o, s.1.o, s.1.lg.o, k⟩
theorem c9_trains (r : RBc h X) (k : K (nI (aT (bA X)).length) h) : wX9_trains 64 h K := by
  obtain ⟨p, r⟩ := r
  have s := r.2.2.1
  unfold wX9_trains
  rw [r.1.f0, s.2.2.1]
  exact ⟨r.1.o, s.1.o, k⟩
theorem c9_time (r : RBc h X) (k : K (nI (aM (bA X))) h) : wX9_time 64 h K := by
  obtain ⟨p, r⟩ := r
  have s := r.2.2.1
  unfold wX9_time
  rw [r.1.f0, s.2.2.2.2.2.2.1]
  exact ⟨r.1.o, s.1.o, k⟩
theorem c9_arrived (r : RBc h X) (k : K (nI (aO (bA X))) h) : wX9_arrived 64 h K := by
  obtain ⟨p, r⟩ := r
  have s := r.2.2.1
  unfold wX9_arrived
  rw [r.1.f0, s.2.2.2.2.2.1]
  exact ⟨r.1.o, s.1.o, k⟩
theorem c9_totalDelay (r : RBc h X) {K : Int64 → AH → Prop} (k : K (lN (aD (bA X))) h) : wX9_totalDelay 64 h K := by
  obtain ⟨p, r⟩ := r
  have s := r.2.2.1
  unfold wX9_totalDelay
  rw [r.1.f0, s.2.2.2.2.2.2.2.1]
  exact ⟨r.1.o, s.1.o, k⟩
theorem c9_isPresent (r : RBc h X) (i : IP (bA X)) {x : Int32} (k : K (if (fnd (bA X) x).isSome then nI 1 else nI 0) h) : wX9_isPresent 64 x h K := by
  obtain ⟨p, r⟩ := r
  have s := r.2.2.1
  unfold wX9_isPresent
  refine ⟨r.1.o, ?_⟩
  rw [r.1.f0]
  refine ⟨s.1.o, c_find s i.it (fun c hc => ?_)⟩
  unfold fr_ at hc
  cases hf : fnd (bA X) x with
  | none =>
    rw [hf] at hc k
    exact ⟨fun _ => k, fun z => absurd hc z⟩
  | some t =>
    rw [hf] at hc k
    obtain ⟨j, hj, hjt, rfl⟩ := hc
    have := s.1.tR hj
    exact ⟨fun z => absurd z (by show ¬ mR h 98 j = 0; omega), fun _ => k⟩
theorem c9_blockOf (r : RBc h X) (i : IP (bA X)) {x : Int32} (k : kq (qT (fun t => nI (tb t)) (bA X) x) [xS] K T h) : wX9_blockOf 64 x h K T := by
  obtain ⟨p, r⟩ := r
  have s := r.2.2.1
  unfold wX9_blockOf
  unfold qT at k
  refine ⟨r.1.o, c_present r i (fun j t hf hj h8 => ?_) (fun hf => ?_)⟩
  · rw [hf] at k
    rw [(s.t hj).2.1]
    exact ⟨s.1.tO h8, k.1 rfl⟩
  · rw [hf] at k
    exact k.2 0 rfl
theorem c9_destination (r : RBc h X) (i : IP (bA X)) {x : Int32} (k : kq (qT (fun t => nI (td t)) (bA X) x) [xS] K T h) : wX9_destination 64 x h K T := by
  obtain ⟨p, r⟩ := r
  have s := r.2.2.1
  unfold wX9_destination
  unfold qT at k
  refine ⟨r.1.o, c_present r i (fun j t hf hj h8 => ?_) (fun hf => ?_)⟩
  · rw [hf] at k
    rw [(s.t hj).2.2.1]
    exact ⟨s.1.tO h8, k.1 rfl⟩
  · rw [hf] at k
    exact k.2 0 rfl
theorem c9_delay (r : RBc h X) (i : IP (bA X)) {x : Int32} (k : kq (qT (fun t => nI (tl t)) (bA X) x) [xS] K T h) : wX9_delay 64 x h K T := by
  obtain ⟨p, r⟩ := r
  have s := r.2.2.1
  unfold wX9_delay
  unfold qT at k
  refine ⟨r.1.o, c_present r i (fun j t hf hj h8 => ?_) (fun hf => ?_)⟩
  · rw [hf] at k
    rw [(s.t hj).2.2.2.2.2]
    exact ⟨s.1.tO h8, k.1 rfl⟩
  · rw [hf] at k
    exact k.2 0 rfl
theorem tr_b31 (r : RBp h p X) (i : IP (bA X)) {t : TG} (ht : t ∈ aT (bA X)) : bts (tr t) < 2 ^ 12 ∧ bts (th_ t) < 2 ^ 12 := (i.it.2 t ht).b12 r.2.2.1.2.1.1.2.2
theorem c9_hasRoute (r : RBc h X) (i : IP (bA X)) {x : Int32} (k : kq (qT (fun t => if tr t = [] then nI 0 else nI 1) (bA X) x) [xS] K T h) : wX9_hasRoute 64 x h K T := by
  obtain ⟨p, r⟩ := r
  have s := r.2.2.1
  unfold wX9_hasRoute
  unfold qT at k
  refine ⟨r.1.o, c_present r i (fun j t hf hj h8 => ?_) (fun hf => ?_)⟩
  · rw [hf] at k
    have hb := (tr_b31 r i (List.mem_of_getElem? hj)).1
    refine ⟨s.1.tO h8, ?_⟩
    rw [c_isRouted (s.1.tO h8) (s.t hj) (show bts (tr t) < 2 ^ 31 by omega)]
    refine ⟨?_, k.1 rfl⟩
    split
    · exact bool_n.1
    · exact bool_n.2
  · rw [hf] at k
    exact k.2 0 rfl
theorem c9_isClear (r : RBc h X) (i : IP (bA X)) {x : Int32} (k : kq (qT (fun t => if can (bA X) t = true then nI 1 else nI 0) (bA X) x) [xS] K T h) : wX9_isClear 64 x h K T := by
  obtain ⟨p, r⟩ := r
  have s := r.2.2.1
  unfold wX9_isClear
  unfold qT at k
  refine ⟨r.1.o, c_present r i (fun j t hf hj h8 => ?_) (fun hf => ?_)⟩
  · rw [hf] at k
    rw [r.1.f0]
    refine ⟨s.1.o, c_canSet s i.it hj ⟨?_, k.1 rfl⟩⟩
    split
    · exact bool_n.2
    · exact bool_n.1
  · rw [hf] at k
    exact k.2 0 rfl
theorem c_routed (r : RBp h p X) (i : IP (bA X)) {x : Int32} {K : Nat → AH → Prop} (k : ∀ j t, fnd (bA X) x = some t → tr t ≠ [] → (aT (bA X))[j]? = some t → j < 8 → K (mR h 98 j) h) (kT : (∀ t, fnd (bA X) x = some t → tr t = []) → T xS h) : wX9_routedTrain 64 x h K T := by
  have s := r.2.2.1
  unfold wX9_routedTrain
  refine ⟨r.1.o, c_present r i (fun j t hf hj h8 => ?_) (fun hf => ?_)⟩
  · have hb := (tr_b31 r i (List.mem_of_getElem? hj)).1
    refine ⟨s.1.tO h8, ?_⟩
    rw [c_isRouted (s.1.tO h8) (s.t hj) (show bts (tr t) < 2 ^ 31 by omega)]
    by_cases e : tr t = []
    · rw [if_pos e]
      exact ⟨fun z => absurd rfl z, fun _ => kT (fun u hu => by rw [hf] at hu; cases hu; exact e)⟩
    · rw [if_neg e]
      exact ⟨fun _ => k j t hf e hj h8, fun z => absurd z (by rw [n1_ne]; exact id)⟩
  · exact kT (fun u hu => by rw [hf] at hu; cases hu)
theorem qR_f {f : TG → Int32} {A : AG} {x : Int32} {ns : List String} (k : kq (qR f A x) ns K T h) : (∀ t, fnd A x = some t → tr t ≠ [] → K (f t) h) ∧ ((∀ t, fnd A x = some t → tr t = []) → T (ns.getD 0 "") h) := by
  unfold qR at k
  cases hf : fnd A x with
  | none =>
    rw [hf] at k
    exact ⟨fun t ht => (by cases ht), fun _ => k.2 0 rfl⟩
  | some t =>
    rw [hf] at k
    simp only at k
    refine ⟨fun u hu hne => ?_, fun z => ?_⟩
    · cases hu
      rw [if_neg hne] at k
      exact k.1 rfl
    · rw [if_pos (z t rfl)] at k
      exact k.2 0 rfl
theorem c9_minutesUntilNext (r : RBc h X) (i : IP (bA X)) {x : Int32} (k : kq (qR (fun t => nI (tu t - aM (bA X))) (bA X) x) [xS] K T h) : wX9_minutesUntilNext 64 x h K T := by
  obtain ⟨p, r⟩ := r
  have s := r.2.2.1
  obtain ⟨k1, k2⟩ := qR_f k
  unfold wX9_minutesUntilNext
  refine ⟨r.1.o, c_routed r i (fun j t hf e hj h8 => ?_) k2⟩
  have ht := i.2.1 t (List.mem_of_getElem? hj)
  have h7 := ht.2.2.2.2.2.2.1 e
  rw [r.1.f0, (s.t hj).2.2.2.2.1 e, s.2.2.2.2.2.2.1, nI_sub (by omega)]
  exact ⟨s.1.tO h8, r.1.o, s.1.o, k1 t hf e⟩
theorem c_minutesToGo (r : RBp h p X) (i : IP (bA X)) {j : Nat} {t : TG} (e : tr t ≠ []) (hj : (aT (bA X))[j]? = some t) (k : K (nI (tu t - aM (bA X) + sl (aL (bA X)) (tr t).tail)) h) : wX7_minutesToGo 65 (mR h 98 j) h K := by
  have s := r.2.2.1
  have h8 : j < 8 := Nat.lt_of_lt_of_le (List.getElem?_eq_some_iff.mp hj).1 i.1
  obtain ⟨k1, k2, k3, k4, k5, k6, k7, k8, k9⟩ := i.2.1 t (List.mem_of_getElem? hj)
  obtain ⟨z1, z2, z3⟩ := k7 e
  have q := s.t hj
  cases hr : tr t with
  | nil => exact absurd hr e
  | cons c l =>
    rw [hr] at k k5 k6 z3
    unfold th_ at k8
    rw [hr] at k8
    have hc : c < gn (aL (bA X)) := k5 c List.mem_cons_self
    unfold wX7_minutesToGo
    rw [s.1.m0, q.2.1, q.2.2.2.2.1 e, s.2.2.2.2.2.2.1, nI_sub (by omega)]
    refine ⟨s.1.tO h8, s.1.o, s.1.lg.o, ?_⟩
    rw [c_exitOf s.2.1.1 k1, k6.1, oI_some]
    refine ⟨s.1.lg.o, ?_⟩
    rw [c_lengthOf s.2.1.1 hc, s.1.m0, q.2.2.2.1, hr]
    refine ⟨s.1.o, s.1.tO h8, s.1.lg.o, c_totalLength s.2.1.1 (List.nodup_cons.mp k8).2 k5 ?_⟩
    simp only [List.tail_cons] at k
    rw [nI_add, nI_sub (by simp only [sl]; omega), show tu t - aM (bA X) + sl (aL (bA X)) (c :: l) - gl (aL (bA X)) c = tu t - aM (bA X) + sl (aL (bA X)) l by simp only [sl]; omega]
    exact k
theorem c9_minutesUntilArrival (r : RBc h X) (i : IP (bA X)) {x : Int32} (k : kq (qR (fun t => nI (tu t - aM (bA X) + sl (aL (bA X)) (tr t).tail)) (bA X) x) [xS] K T h) : wX9_minutesUntilArrival 64 x h K T := by
  obtain ⟨p, r⟩ := r
  have s := r.2.2.1
  obtain ⟨k1, k2⟩ := qR_f k
  unfold wX9_minutesUntilArrival
  refine ⟨r.1.o, c_routed r i (fun j t hf e hj h8 => ?_) k2⟩
  rw [r.1.f0]
  exact ⟨s.1.o, c_minutesToGo r i e hj (k1 t hf e)⟩
theorem c9_queued (r : RBc h X) (i : IP (bA X)) (bn : BN (bA X)) {x : Int32} (k : kq (qQ (bA X) x) [xS] K T h) : wX9_queued 64 x h K T := by
  obtain ⟨p, r⟩ := r
  have s := r.2.2.1
  have h8 := i.q8
  unfold wX9_queued
  unfold qQ at k
  refine ⟨r.1.o, ?_⟩
  rw [r.1.f0]
  refine ⟨s.1.o, ?_⟩
  unfold wX7_inQueue
  rw [s.2.2.2.1, s.1.m2]
  rcases iv_cases (aQ (bA X)).length (by omega) x with ⟨e, hx⟩ | ⟨j, hj, rfl, e⟩
  · rw [e] at k
    have kk := k.2 0 rfl
    refine ⟨fun _ => ⟨fun z => absurd rfl z, fun _ => kk⟩, fun h0 => ⟨s.1.o, fun _ => ⟨fun z => absurd rfl z, fun _ => kk⟩, fun h1 => absurd (hx.resolve_left h0) h1⟩⟩
  · rw [e] at k
    have hq : (aQ (bA X))[j]? = some ((aQ (bA X)).getD j 0) := by
      rw [List.getD_eq_getElem?_getD, List.getElem?_eq_getElem hj]
      rfl
    obtain ⟨u, hu, eu, -⟩ := (i.2.2.2.2.1 _).mp (List.mem_of_getElem? hq)
    have := (i.2.1 u hu).2.2.2.1
    have := bn.1
    refine ⟨fun h0 => absurd h0 (by rw [lt0_f (by omega)]; exact id), fun _ => ⟨s.1.o, fun h1 => absurd h1 (nI_ge hj (by omega)), fun _ => ⟨s.1.a34, by rw [s.1.l34]; exact vp_in_nI (by omega) (by decide), ?_⟩⟩⟩
    rw [nI_clamp (by omega), s.q hq]
    exact ⟨fun _ => k.1 rfl, fun z => absurd z (by rw [nI_nem (by omega)]; exact id)⟩
end AS
