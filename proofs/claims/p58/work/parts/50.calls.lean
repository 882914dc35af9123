/-! THE CLASS'S CHANGES: the calls -/
section CC
variable {h g : AH} {p w : Nat} {X : BG}
/-- what is known of a box besides its cells -/
def PX (w : Nat) (X : BG) : Prop := (IP (bA X) ∧ BW w (bA X)) ∧ (∀ B ∈ bH X, IP B ∧ BW w B) ∧ ∀ B, bS X = some B → IP B ∧ BW w B
theorem wl_block (A : AG) (x : Int32) : wL A (aL (oBlock A x).2.2) = (oBlock A x).2.2 := by
  unfold oBlock
  split
  · rfl
  · split
    · rfl
    · rfl
theorem wl_point (A : AG) (x y z : Int32) : wL A (aL (oPoint A x y z).2.2) = (oPoint A x y z).2.2 := by
  unfold oPoint
  split
  · split
    · rfl
    · split
      · rfl
      · rfl
  · rfl
theorem wl_link (A : AG) (x y : Int32) : wL A (aL (oLink A x y).2.2) = (oLink A x y).2.2 := by
  unfold oLink
  split
  · split
    · rfl
    · split
      · rfl
      · rfl
  · rfl
theorem c9_addBlock (r : RBc h X) (i : PX w X) (hw : w ≤ 6200) {x : Int32} {K : Int32 → AH → Prop} {T : String → AH → Prop} (k : (oBlock (bA X) x).1 = 0 → ∀ g, fcl h g → RBc g (cgd (oBlock (bA X) x) X) → K (oBlock (bA X) x).2.1 g) (kT : ∀ j, (oBlock (bA X) x).1 = j + 1 → ∀ g, fcl h g → RBc g (cgd (oBlock (bA X) x) X) → T (xN (([(-2), (-3)] : List Int32).getD j 0)) g) : wX9_addBlock 64 x h K T := by
  obtain ⟨p, r⟩ := r
  have hp := r.2.2.2.1.1
  have il : IL (aL (bA X)) := r.2.2.1.2.1.1.2.2
  have gk : GK (bA X) := r.2.2.1.gk i.1.1
  have bn : BN (bA X) := i.1.2.bn hw
  unfold wX9_addBlock
  refine ⟨r.1.o, ?_⟩
  rw [r.1.f3, r.1.f0]
  refine ⟨r.1.ho, c_keep r (fun g c r1 q => ⟨r1.1.o, ?_⟩)⟩
  have f1 : fcl h g := c.fcl (by omega) (by omega)
  rw [r1.1.f0]
  refine ⟨r1.2.2.1.1.o, ?_⟩
  rw [r1.2.2.1.1.m0]
  refine ⟨r1.2.2.1.1.lg.o, c_makeBlock (R := (bA X).2) (G := aL (bA X)) r1.2.2.1.2.1 (fun g2 c2 q2 => ?_)⟩
  have q3 := r1.2.2.1.line c2 q2
  have e3 : wL (bA X) (aL (oBlock (bA X) x).2.2) = (oBlock (bA X) x).2.2 := wl_block _ _
  have q4 : rpS g2 65 (oBlock (bA X) x).2.2 := e3 ▸ q3
  have c3 : chg 65 108 g g2 := c2.chg.mo (by omega) (by omega)
  have r2 := r1.now c3 q4
  have f2 : fcl h g2 := f1.tr (c3.fcl (by omega) (by omega))
  exact ⟨r2.1.o, c_settle (X := X) (cs := [(-2), (-3)]) r2 (q.fr c3 (by omega)) (rg_block _ il) (by decide +kernel) (fun e g3 c4 r3 => k e g3 (f2.tr (c4.chg.fcl (by omega) (by omega))) r3) (fun j e r3 => kT j e g2 f2 r3)⟩
theorem c9_addPoint (r : RBc h X) (i : PX w X) (hw : w ≤ 6200) {x y z : Int32} {K : Int32 → AH → Prop} {T : String → AH → Prop} (k : (oPoint (bA X) x y z).1 = 0 → ∀ g, fcl h g → RBc g (cgd (oPoint (bA X) x y z) X) → K (oPoint (bA X) x y z).2.1 g) (kT : ∀ j, (oPoint (bA X) x y z).1 = j + 1 → ∀ g, fcl h g → RBc g (cgd (oPoint (bA X) x y z) X) → T (xN (([(-1), (-2), (-3)] : List Int32).getD j 0)) g) : wX9_addPoint 64 x y z h K T := by
  obtain ⟨p, r⟩ := r
  have hp := r.2.2.2.1.1
  have il : IL (aL (bA X)) := r.2.2.1.2.1.1.2.2
  have gk : GK (bA X) := r.2.2.1.gk i.1.1
  have bn : BN (bA X) := i.1.2.bn hw
  unfold wX9_addPoint
  refine ⟨r.1.o, ?_⟩
  rw [r.1.f3, r.1.f0]
  refine ⟨r.1.ho, c_keep r (fun g c r1 q => ⟨r1.1.o, ?_⟩)⟩
  have f1 : fcl h g := c.fcl (by omega) (by omega)
  rw [r1.1.f0]
  refine ⟨r1.2.2.1.1.o, ?_⟩
  rw [r1.2.2.1.1.m0]
  refine ⟨r1.2.2.1.1.lg.o, c_makePoint (R := (bA X).2) (G := aL (bA X)) r1.2.2.1.2.1 (fun g2 c2 q2 => ?_)⟩
  have q3 := r1.2.2.1.line c2 q2
  have e3 : wL (bA X) (aL (oPoint (bA X) x y z).2.2) = (oPoint (bA X) x y z).2.2 := wl_point _ _ _ _
  have q4 : rpS g2 65 (oPoint (bA X) x y z).2.2 := e3 ▸ q3
  have c3 : chg 65 108 g g2 := c2.chg.mo (by omega) (by omega)
  have r2 := r1.now c3 q4
  have f2 : fcl h g2 := f1.tr (c3.fcl (by omega) (by omega))
  exact ⟨r2.1.o, c_settle (X := X) (cs := [(-1), (-2), (-3)]) r2 (q.fr c3 (by omega)) (rg_point _ _ _ il) (by decide +kernel) (fun e g3 c4 r3 => k e g3 (f2.tr (c4.chg.fcl (by omega) (by omega))) r3) (fun j e r3 => kT j e g2 f2 r3)⟩
theorem c9_addLink (r : RBc h X) (i : PX w X) (hw : w ≤ 6200) {x y : Int32} {K : Int32 → AH → Prop} {T : String → AH → Prop} (k : (oLink (bA X) x y).1 = 0 → ∀ g, fcl h g → RBc g (cgd (oLink (bA X) x y) X) → K (oLink (bA X) x y).2.1 g) (kT : ∀ j, (oLink (bA X) x y).1 = j + 1 → ∀ g, fcl h g → RBc g (cgd (oLink (bA X) x y) X) → T (xN (([(-1), (-2), (-3)] : List Int32).getD j 0)) g) : wX9_addLink 64 x y h K T := by
  obtain ⟨p, r⟩ := r
  have hp := r.2.2.2.1.1
  have il : IL (aL (bA X)) := r.2.2.1.2.1.1.2.2
  have gk : GK (bA X) := r.2.2.1.gk i.1.1
  have bn : BN (bA X) := i.1.2.bn hw
  unfold wX9_addLink
  refine ⟨r.1.o, ?_⟩
  rw [r.1.f3, r.1.f0]
  refine ⟨r.1.ho, c_keep r (fun g c r1 q => ⟨r1.1.o, ?_⟩)⟩
  have f1 : fcl h g := c.fcl (by omega) (by omega)
  rw [r1.1.f0]
  refine ⟨r1.2.2.1.1.o, ?_⟩
  rw [r1.2.2.1.1.m0]
  refine ⟨r1.2.2.1.1.lg.o, c_makeLink (R := (bA X).2) (G := aL (bA X)) r1.2.2.1.2.1 (fun g2 c2 q2 => ?_)⟩
  have q3 := r1.2.2.1.line c2 q2
  have e3 : wL (bA X) (aL (oLink (bA X) x y).2.2) = (oLink (bA X) x y).2.2 := wl_link _ _ _
  have q4 : rpS g2 65 (oLink (bA X) x y).2.2 := e3 ▸ q3
  have c3 : chg 65 108 g g2 := c2.chg.mo (by omega) (by omega)
  have r2 := r1.now c3 q4
  have f2 : fcl h g2 := f1.tr (c3.fcl (by omega) (by omega))
  exact ⟨r2.1.o, c_settle (X := X) (cs := [(-1), (-2), (-3)]) r2 (q.fr c3 (by omega)) (rg_link _ _ il) (by decide +kernel) (fun e g3 c4 r3 => k e g3 (f2.tr (c4.chg.fcl (by omega) (by omega))) r3) (fun j e r3 => kT j e g2 f2 r3)⟩
theorem c9_shut (r : RBc h X) (i : PX w X) (hw : w ≤ 6200) {x : Int32} {K : Int32 → AH → Prop} {T : String → AH → Prop} (k : (oShut (bA X) x).1 = 0 → ∀ g, fcl h g → RBc g (cgd (oShut (bA X) x) X) → K (oShut (bA X) x).2.1 g) (kT : ∀ j, (oShut (bA X) x).1 = j + 1 → ∀ g, fcl h g → RBc g (cgd (oShut (bA X) x) X) → T (xN (([(-1), (-3)] : List Int32).getD j 0)) g) : wX9_shut 64 x h K T := by
  obtain ⟨p, r⟩ := r
  have hp := r.2.2.2.1.1
  have il : IL (aL (bA X)) := r.2.2.1.2.1.1.2.2
  have gk : GK (bA X) := r.2.2.1.gk i.1.1
  have bn : BN (bA X) := i.1.2.bn hw
  unfold wX9_shut
  refine ⟨r.1.o, ?_⟩
  rw [r.1.f3, r.1.f0]
  refine ⟨r.1.ho, c_keep r (fun g c r1 q => ⟨r1.1.o, ?_⟩)⟩
  have f1 : fcl h g := c.fcl (by omega) (by omega)
  rw [r1.1.f0]
  refine ⟨r1.2.2.1.1.o, ?_⟩
  refine c_shutBlock r1.2.2.1 i.1.1 (fun g2 c2 q4 => ?_)
  have c3 : chg 65 108 g g2 := by first | exact c2 | exact c2.chg
  have r2 := r1.now c3 q4
  have f2 : fcl h g2 := f1.tr (c3.fcl (by omega) (by omega))
  exact ⟨r2.1.o, c_settle (X := X) (cs := [(-1), (-3)]) r2 (q.fr c3 (by omega)) (rg_shut _) (by decide +kernel) (fun e g3 c4 r3 => k e g3 (f2.tr (c4.chg.fcl (by omega) (by omega))) r3) (fun j e r3 => kT j e g2 f2 r3)⟩
theorem c9_open (r : RBc h X) (i : PX w X) (hw : w ≤ 6200) {x : Int32} {K : Int32 → AH → Prop} {T : String → AH → Prop} (k : (oOpen (bA X) x).1 = 0 → ∀ g, fcl h g → RBc g (cgd (oOpen (bA X) x) X) → K (oOpen (bA X) x).2.1 g) (kT : ∀ j, (oOpen (bA X) x).1 = j + 1 → ∀ g, fcl h g → RBc g (cgd (oOpen (bA X) x) X) → T (xN (([(-1), (-3)] : List Int32).getD j 0)) g) : wX9_open 64 x h K T := by
  obtain ⟨p, r⟩ := r
  have hp := r.2.2.2.1.1
  have il : IL (aL (bA X)) := r.2.2.1.2.1.1.2.2
  have gk : GK (bA X) := r.2.2.1.gk i.1.1
  have bn : BN (bA X) := i.1.2.bn hw
  unfold wX9_open
  refine ⟨r.1.o, ?_⟩
  rw [r.1.f3, r.1.f0]
  refine ⟨r.1.ho, c_keep r (fun g c r1 q => ⟨r1.1.o, ?_⟩)⟩
  have f1 : fcl h g := c.fcl (by omega) (by omega)
  rw [r1.1.f0]
  refine ⟨r1.2.2.1.1.o, ?_⟩
  refine c_openBlock r1.2.2.1 i.1.1 (fun g2 c2 q4 => ?_)
  have c3 : chg 65 108 g g2 := by first | exact c2 | exact c2.chg
  have r2 := r1.now c3 q4
  have f2 : fcl h g2 := f1.tr (c3.fcl (by omega) (by omega))
  exact ⟨r2.1.o, c_settle (X := X) (cs := [(-1), (-3)]) r2 (q.fr c3 (by omega)) (rg_open _) (by decide +kernel) (fun e g3 c4 r3 => k e g3 (f2.tr (c4.chg.fcl (by omega) (by omega))) r3) (fun j e r3 => kT j e g2 f2 r3)⟩
theorem c9_throwPoint (r : RBc h X) (i : PX w X) (hw : w ≤ 6200) {x : Int32} {K : Int32 → AH → Prop} {T : String → AH → Prop} (k : (oThrow (bA X) x).1 = 0 → ∀ g, fcl h g → RBc g (cgd (oThrow (bA X) x) X) → K (if (oThrow (bA X) x).2.1 = nI 1 then nI 1 else nI 0) g) (kT : ∀ j, (oThrow (bA X) x).1 = j + 1 → ∀ g, fcl h g → RBc g (cgd (oThrow (bA X) x) X) → T (xN (([(-1), (-3)] : List Int32).getD j 0)) g) : wX9_throwPoint 64 x h K T := by
  obtain ⟨p, r⟩ := r
  have hp := r.2.2.2.1.1
  have il : IL (aL (bA X)) := r.2.2.1.2.1.1.2.2
  have gk : GK (bA X) := r.2.2.1.gk i.1.1
  have bn : BN (bA X) := i.1.2.bn hw
  unfold wX9_throwPoint
  refine ⟨r.1.o, ?_⟩
  rw [r.1.f3, r.1.f0]
  refine ⟨r.1.ho, c_keep r (fun g c r1 q => ⟨r1.1.o, ?_⟩)⟩
  have f1 : fcl h g := c.fcl (by omega) (by omega)
  rw [r1.1.f0]
  refine ⟨r1.2.2.1.1.o, ?_⟩
  refine c_movePoint r1.2.2.1 i.1.1 bn (fun g2 c2 q4 => ?_)
  have c3 : chg 65 108 g g2 := by first | exact c2 | exact c2.chg
  have r2 := r1.now c3 q4
  have f2 : fcl h g2 := f1.tr (c3.fcl (by omega) (by omega))
  refine ⟨r2.1.o, c_settle (X := X) (cs := [(-1), (-3)]) r2 (q.fr c3 (by omega)) (rg_throw _) (by decide +kernel) (fun e g3 c4 r3 => ?_) (fun j e r3 => kT j e g2 f2 r3)⟩
  have k2 := k e g3 (f2.tr (c4.chg.fcl (by omega) (by omega))) r3
  by_cases e1 : (oThrow (bA X) x).2.1 = nI 1
  · rw [if_pos e1] at k2
    exact ⟨fun z => absurd e1 z, fun _ => k2⟩
  · rw [if_neg e1] at k2
    exact ⟨fun _ => k2, fun z => absurd z e1⟩
theorem c9_addTrain (r : RBc h X) (i : PX w X) (hw : w ≤ 6200) {x y : Int32} {K : Int32 → AH → Prop} {T : String → AH → Prop} (k : (oTrain (bA X) x y).1 = 0 → ∀ g, fcl h g → RBc g (cgd (oTrain (bA X) x y) X) → K (oTrain (bA X) x y).2.1 g) (kT : ∀ j, (oTrain (bA X) x y).1 = j + 1 → ∀ g, fcl h g → RBc g (cgd (oTrain (bA X) x y) X) → T (xN (([(-1), (-2), (-3)] : List Int32).getD j 0)) g) : wX9_addTrain 64 x y h K T := by
  obtain ⟨p, r⟩ := r
  have hp := r.2.2.2.1.1
  have il : IL (aL (bA X)) := r.2.2.1.2.1.1.2.2
  have gk : GK (bA X) := r.2.2.1.gk i.1.1
  have bn : BN (bA X) := i.1.2.bn hw
  unfold wX9_addTrain
  refine ⟨r.1.o, ?_⟩
  rw [r.1.f3, r.1.f0]
  refine ⟨r.1.ho, c_keep r (fun g c r1 q => ⟨r1.1.o, ?_⟩)⟩
  have f1 : fcl h g := c.fcl (by omega) (by omega)
  rw [r1.1.f0]
  refine ⟨r1.2.2.1.1.o, ?_⟩
  refine c_bringTrain r1.2.2.1 i.1.1 bn (fun g2 c2 q4 => ?_)
  have c3 : chg 65 108 g g2 := by first | exact c2 | exact c2.chg
  have r2 := r1.now c3 q4
  have f2 : fcl h g2 := f1.tr (c3.fcl (by omega) (by omega))
  exact ⟨r2.1.o, c_settle (X := X) (cs := [(-1), (-2), (-3)]) r2 (q.fr c3 (by omega)) (rg_train _ _ bn) (by decide +kernel) (fun e g3 c4 r3 => k e g3 (f2.tr (c4.chg.fcl (by omega) (by omega))) r3) (fun j e r3 => kT j e g2 f2 r3)⟩
theorem c9_releaseRoute (r : RBc h X) (i : PX w X) (hw : w ≤ 6200) {x : Int32} {K : Int32 → AH → Prop} {T : String → AH → Prop} (k : (oFree (bA X) x).1 = 0 → ∀ g, fcl h g → RBc g (cgd (oFree (bA X) x) X) → K (oFree (bA X) x).2.1 g) (kT : ∀ j, (oFree (bA X) x).1 = j + 1 → ∀ g, fcl h g → RBc g (cgd (oFree (bA X) x) X) → T (xN (([(-4), (-3)] : List Int32).getD j 0)) g) : wX9_releaseRoute 64 x h K T := by
  obtain ⟨p, r⟩ := r
  have hp := r.2.2.2.1.1
  have il : IL (aL (bA X)) := r.2.2.1.2.1.1.2.2
  have gk : GK (bA X) := r.2.2.1.gk i.1.1
  have bn : BN (bA X) := i.1.2.bn hw
  unfold wX9_releaseRoute
  refine ⟨r.1.o, ?_⟩
  rw [r.1.f3, r.1.f0]
  refine ⟨r.1.ho, c_keep r (fun g c r1 q => ⟨r1.1.o, ?_⟩)⟩
  have f1 : fcl h g := c.fcl (by omega) (by omega)
  rw [r1.1.f0]
  refine ⟨r1.2.2.1.1.o, ?_⟩
  refine c_withdrawRoute r1.2.2.1 i.1.1 bn (fun g2 c2 q4 => ?_)
  have c3 : chg 65 108 g g2 := by first | exact c2 | exact c2.chg
  have r2 := r1.now c3 q4
  have f2 : fcl h g2 := f1.tr (c3.fcl (by omega) (by omega))
  exact ⟨r2.1.o, c_settle (X := X) (cs := [(-4), (-3)]) r2 (q.fr c3 (by omega)) (rg_free _ i.1.1) (by decide +kernel) (fun e g3 c4 r3 => k e g3 (f2.tr (c4.chg.fcl (by omega) (by omega))) r3) (fun j e r3 => kT j e g2 f2 r3)⟩
theorem c9_pass (r : RBc h X) (i : PX w X) (hw : w ≤ 6200) {x : Int32} {K : Int32 → AH → Prop} {T : String → AH → Prop} (k : (oPass (bA X) x).1 = 0 → ∀ g, fcl h g → RBc g (cgd (oPass (bA X) x) X) → K (oPass (bA X) x).2.1 g) (kT : ∀ j, (oPass (bA X) x).1 = j + 1 → ∀ g, fcl h g → RBc g (cgd (oPass (bA X) x) X) → T (xN (([(-2)] : List Int32).getD j 0)) g) : wX9_pass 64 x h K T := by
  obtain ⟨p, r⟩ := r
  have hp := r.2.2.2.1.1
  have il : IL (aL (bA X)) := r.2.2.1.2.1.1.2.2
  have gk : GK (bA X) := r.2.2.1.gk i.1.1
  have bn : BN (bA X) := i.1.2.bn hw
  unfold wX9_pass
  refine ⟨r.1.o, ?_⟩
  rw [r.1.f3, r.1.f0]
  refine ⟨r.1.ho, c_keep r (fun g c r1 q => ⟨r1.1.o, ?_⟩)⟩
  have f1 : fcl h g := c.fcl (by omega) (by omega)
  rw [r1.1.f0]
  refine ⟨r1.2.2.1.1.o, ?_⟩
  refine c_letPass r1.2.2.1 (fun k hk => (i.1.2.mins gk hw hk).2.2) (fun g2 c2 q4 => ?_)
  have c3 : chg 65 108 g g2 := by first | exact c2 | exact c2.chg
  have r2 := r1.now c3 q4
  have f2 : fcl h g2 := f1.tr (c3.fcl (by omega) (by omega))
  exact ⟨r2.1.o, c_settle (X := X) (cs := [(-2)]) r2 (q.fr c3 (by omega)) (rg_pass _ gk i.1.2 hw) (by decide +kernel) (fun e g3 c4 r3 => k e g3 (f2.tr (c4.chg.fcl (by omega) (by omega))) r3) (fun j e r3 => kT j e g2 f2 r3)⟩
/-- a box with the refusal of a train's route -/
noncomputable def rfd (A : AG) (x : Int32) (X : BG) : BG := match fnd A x with
  | none => X
  | some t => if (oSet A x).1 = 3 then (bA X, bH X, bS X, bO X, bF X, (why A t).1, (why A t).2, bE X, bX X) else X
theorem why_le (A : AG) (t : TG) : (why A t).1 < 128 ∧ 0 < (why A t).1 := by
  unfold why
  split
  · decide
  · rename_i b _
    show stc A b < 128 ∧ 0 < stc A b
    unfold stc
    split
    · decide
    · split
      · decide
      · split
        · decide
        · decide
theorem ch_ok : ∀ n, n < 128 → narrow .char (.int (nI n)) = .int (nI n) ∧ fits .char (.int (nI n)) = true := by decide +kernel
theorem set_3 {A : AG} {x : Int32} (e : (oSet A x).1 = 3) : ∃ t, fnd A x = some t ∧ t ∈ aT A ∧ (oSet A x).2.2 = A := by
  unfold oSet at e ⊢
  cases hf : fnd A x with
  | none => rw [hf] at e; cases e
  | some t =>
    rw [hf] at e
    simp only at e ⊢
    by_cases e1 : tr t ≠ []
    · rw [if_pos e1] at e; cases e
    · rw [if_neg e1] at e ⊢
      by_cases e2 : can A t = true
      · rw [if_pos e2] at e; cases e
      · rw [if_neg e2]
        exact ⟨t, rfl, (fnd_mem hf).1, rfl⟩
theorem c_recordRefusal (r : RBp h p X) (i : IT (bA X)) {j : Nat} {t : TG} (ht : (aT (bA X))[j]? = some t) {K : AH → Prop} (k : ∀ g, chi 64 65 h g → RBp g p (bA X, bH X, bS X, bO X, bF X, (why (bA X) t).1, (why (bA X) t).2, bE X, bX X) → K g) : wX9_recordRefusal 64 (mR h 98 j) h K := by
  have s := r.2.2.1
  have h12 := s.2.1.1.n12
  have hs := r.sR
  have hj : j < 8 := Nat.lt_of_lt_of_le (List.getElem?_eq_some_iff.mp ht).1 i.1
  have h1 : 100 ≤ mR h 98 j ∧ mR h 98 j < 108 := s.1.tR hj
  have hm := List.mem_of_getElem? ht
  obtain ⟨r1, r2, r3, r4, r5, r6, r7, r8⟩ := id r
  have fin : ∀ (g : AH) (y : Nat) (b : Option Nat), chi 64 65 h g → rcO g y b (bE X) (bX X) → svO g (bS X) → RBp g p (bA X, bH X, bS X, bO X, bF X, y, b, bE X, bX X) := fun g y b c v u => by
    have c' := c.chg
    refine ⟨?_, r2.sm (fun q hq => c'.sa (by omega)), r3.sm (fun q h1 h2 => c'.sa (by omega)), r4.sm (fun q hq => c'.sa (by omega)), u, r6.sm (fun q hq => c'.sa (by omega)), r7.sm (Nat.le_of_eq c.1.symm) (fun q hq => c'.sa (by omega)), v⟩
    unfold sB0
    rw [c.2.1, c.2.2.1]
    exact r1
  have sv : ∀ (g : AH), chi 64 65 h g → mI g 64 7 = mI h 64 7 → svO g (bS X) := fun g c e7 => by
    unfold svO at r5 ⊢
    cases hsv : bS X with
    | none => rw [hsv] at r5; simp only at r5 ⊢; rw [e7]; exact r5
    | some B => rw [hsv] at r5; simp only at r5 ⊢; rw [e7]; exact ⟨r5.1, r5.2.sm (fun q h1 h2 => c.chg.sa (by omega))⟩
  unfold wX9_recordRefusal
  refine ⟨fun z => absurd z (by omega), fun _ => ⟨r1.o, ?_⟩⟩
  rw [r1.f0]
  refine ⟨s.1.o, c_firstNotFree s i ht ⟨r1.o, fun g1 e1 => ?_⟩⟩
  have c1 : chi 64 65 h g1 := by rw [e1]; exact chi.uI (by omega) (by omega)
  have e9 : mI g1 64 9 = oI ((rtT (bA X) t).find? (fun b => !fre (bA X) b)) := by rw [e1, mI_uI, if_pos ⟨rfl, rfl⟩]
  have s1 : rpS g1 65 (bA X) := s.fr c1.chg (by omega)
  have r11 : isO g1 64 0 := by unfold isO; rw [c1.2.1]; exact r1.1
  have hin : ∀ b, (rtT (bA X) t).find? (fun b => !fre (bA X) b) = some b → b < gn (aL (bA X)) := fun b hb => by
    have hm2 := List.mem_of_find?_eq_some hb
    obtain ⟨k1, k2, -⟩ := i.2 t hm
    cases hn : nx (aL (bA X)) (td t) (tb t) with
    | none => unfold rtT at hm2; rw [rt_nil hn] at hm2; exact absurd hm2 List.not_mem_nil
    | some c => exact (rtF s.2.1.1.2.2 (s.2.1.2.2.b k2) k1 (by rw [hn]; simp)).1 b hm2
  have hw1 := why_le (bA X) t
  cases hf : (rtT (bA X) t).find? (fun b => !fre (bA X) b) with
  | none =>
    rw [hf] at e9
    have ew : why (bA X) t = (110, none) := by unfold why; rw [hf]
    refine ⟨fun z => absurd e9 z, fun _ => ?_⟩
    unfold wX9_recordRefusal_J41
    refine ⟨r11, (ch_ok 110 (by decide)).1, (ch_ok 110 (by decide)).2, fun g2 e2 => ?_⟩
    have c2 : chi 64 65 h g2 := c1.tr (by rw [e2]; exact chi.uI (by omega) (by omega))
    refine k g2 c2 ?_
    rw [ew]
    refine fin g2 110 none c2 ⟨?_, ?_, ?_, ?_⟩ (sv g2 c2 ?_)
    · rw [e2, mI_uI, if_pos ⟨rfl, rfl⟩]
    · rw [e2]; simp only [mI_uI]; rw [if_neg (by omega)]; exact e9
    · rw [e2, e1]; simp [mI_uI]; exact r8.2.2.1
    · rw [e2, e1]; simp [mI_uI]; exact r8.2.2.2
    · rw [e2, e1]; simp [mI_uI]
  | some b =>
    rw [hf] at e9
    have hb := hin b hf
    have ew : why (bA X) t = (stc (bA X) b, some b) := by unfold why; rw [hf]
    rw [ew] at hw1 k
    refine ⟨fun _ => ?_, fun z => absurd z (by rw [e9, oI_some, nI_nem (by omega)]; exact id)⟩
    rw [r1.f0, e9, oI_some]
    refine ⟨s.1.o, ?_⟩
    refine c_stateOf s1 i hb ?_
    unfold wX9_recordRefusal_J41
    refine ⟨r11, (ch_ok _ hw1.1).1, (ch_ok _ hw1.1).2, fun g2 e2 => ?_⟩
    have c2 : chi 64 65 h g2 := c1.tr (by rw [e2]; exact chi.uI (by omega) (by omega))
    refine k g2 c2 ?_
    refine fin g2 _ (some b) c2 ⟨?_, ?_, ?_, ?_⟩ (sv g2 c2 ?_)
    · rw [e2, mI_uI, if_pos ⟨rfl, rfl⟩]
    · rw [e2]; simp only [mI_uI]; rw [if_neg (by omega)]; exact e9
    · rw [e2, e1]; simp [mI_uI]; exact r8.2.2.1
    · rw [e2, e1]; simp [mI_uI]; exact r8.2.2.2
    · rw [e2, e1]; simp [mI_uI]
theorem c_grantOrRecord (r : RBp h p X) (i : PX w X) (hw : w ≤ 6200) {x : Int32} {K : Int32 → AH → Prop} (k : ∀ g, chg 64 108 h g → RBp g p ((oSet (bA X) x).2.2, (rfd (bA X) x X).2) → K (cr [(-4), (-3), (-5)] (oSet (bA X) x)) g) : wX9_grantOrRecord 64 x h K := by
  have s := r.2.2.1
  have gk : GK (bA X) := s.gk i.1.1
  have bn : BN (bA X) := i.1.2.bn hw
  have hrg := rg_set (A := bA X) x gk
  unfold wX9_grantOrRecord
  refine ⟨r.1.o, ?_⟩
  rw [r.1.f0]
  refine ⟨s.1.o, c_grantRoute s i.1.1 bn (fun g c q => ?_)⟩
  have c : chg 65 108 h g := by first | exact c | exact c.chg
  have r1 := r.now c q
  by_cases e : (oSet (bA X) x).1 = 3
  · obtain ⟨t, hf, ht, eA⟩ := set_3 e
    have e5 : cr [(-4), (-3), (-5)] (oSet (bA X) x) = -5 := by unfold cr; rw [e]; rfl
    rw [eA] at q r1 k
    have er : rfd (bA X) x X = (bA X, bH X, bS X, bO X, bF X, (why (bA X) t).1, (why (bA X) t).2, bE X, bX X) := by unfold rfd; rw [hf]; simp only; rw [if_pos e]
    rw [er] at k
    rw [e5] at k ⊢
    refine ⟨fun z => absurd rfl z, fun _ => ⟨r1.1.o, ?_⟩⟩
    rw [r1.1.f0]
    refine ⟨q.1.o, c_find q i.1.1.it (fun c2 hc2 => ⟨r1.1.o, ?_⟩)⟩
    unfold fr_ at hc2
    rw [hf] at hc2
    obtain ⟨j, hj, hjt, rfl⟩ := hc2
    exact c_recordRefusal r1 i.1.1.it hjt (fun g2 c2 r2 => k g2 ((c.mo (by omega) (by omega)).tr (c2.chg.mo (by omega) (by omega))) r2)
  · have er : rfd (bA X) x X = X := by
      unfold rfd
      cases fnd (bA X) x with
      | none => rfl
      | some t => simp only; rw [if_neg e]
    rw [er] at k
    have e5 : ¬ cr [(-4), (-3), (-5)] (oSet (bA X) x) = -5 := by
      obtain ⟨h1, h2⟩ := hrg
      unfold cr
      cases hc : (oSet (bA X) x).1 with
      | zero =>
        obtain ⟨j, hj, ej⟩ := h2 hc
        rw [ej]
        intro z
        have := congrArg Int32.toInt z
        rw [nI_toInt hj] at this
        have h5 : (-5 : Int32).toInt = -5 := by decide
        omega
      | succ j =>
        rw [hc] at h1 e
        have : j = 0 ∨ j = 1 := by omega
        rcases this with rfl | rfl
        · show ¬ ((-4 : Int32) = -5); decide
        · show ¬ ((-3 : Int32) = -5); decide
    exact ⟨fun _ => k g (c.mo (by omega) (by omega)) r1, fun z => absurd z e5⟩
/-- the box after setRoute -/
noncomputable def cgS (A : AG) (x : Int32) (X : BG) : BG := cgd (oSet A x) (bA X, bH X, (rfd A x X).2.2)
theorem c9_setRoute (r : RBc h X) (i : PX w X) (hw : w ≤ 6200) {x : Int32} {K : Int32 → AH → Prop} {T : String → AH → Prop} (k : (oSet (bA X) x).1 = 0 → ∀ g, fcl h g → RBc g (cgS (bA X) x X) → K (oSet (bA X) x).2.1 g) (kT : ∀ j, (oSet (bA X) x).1 = j + 1 → ∀ g, fcl h g → RBc g (cgS (bA X) x X) → T (xN (([(-4), (-3), (-5)] : List Int32).getD j 0)) g) : wX9_setRoute 64 x h K T := by
  obtain ⟨p, r⟩ := r
  have hp := r.2.2.2.1.1
  have gk : GK (bA X) := r.2.2.1.gk i.1.1
  have eH : bH (rfd (bA X) x X) = bH X := by
    unfold rfd
    cases fnd (bA X) x with
    | none => rfl
    | some t => simp only; split <;> rfl
  unfold wX9_setRoute
  refine ⟨r.1.o, ?_⟩
  rw [r.1.f3, r.1.f0]
  refine ⟨r.1.ho, c_keep r (fun g c r1 q => ⟨r1.1.o, c_grantOrRecord r1 i hw (fun g2 c2 r2 => ⟨r2.1.o, ?_⟩)⟩)⟩
  have f2 : fcl h g2 := (c.fcl (by omega) (by omega)).tr (c2.fcl (by omega) (by omega))
  have r3 : RBp g2 p ((oSet (bA X) x).2.2, ((bA X, bH X, (rfd (bA X) x X).2.2) : BG).2) := by
    rw [← eH]
    exact r2
  exact c_settle (X := (bA X, bH X, (rfd (bA X) x X).2.2)) (cs := [(-4), (-3), (-5)]) r3 (q.fr c2 (by omega)) (rg_set _ gk) (by decide +kernel) (fun e g3 c4 r4 => k e g3 (f2.tr (c4.chg.fcl (by omega) (by omega))) r4) (fun j e r4 => kT j e g2 f2 r4)
end CC
