/-! THE MODEL'S BOX: history, saved state, output; what a change comes to -/
/-- numbers that tell of the state as far as the array goes -/
def rmX (f : Nat → Int32) (A : AG) : Prop := ∃ f', rm f' A ∧ ∀ k, k < 281 → f k = f' k
def hsM (h : AH) (H : List AG) : Prop := mI h 606 5 = nI H.length ∧ H.length ≤ 8 ∧ ∀ i B, H[i]? = some B → rmX (fun k => mI h 610 (281 * (H.length - 1 - i) + k)) B
def svM (h : AH) (s : Option AG) : Prop := match s with
  | none => mI h 606 6 = nI 0
  | some B => mI h 606 6 = nI 1 ∧ rmX (mI h 609) B
def bfM (h : AH) (b : List Nat) : Prop := mI h 606 15 = nI b.length ∧ ∀ i c, b[i]? = some c → mI h 611 i = nI c
def otM (h : AH) (o : List Nat) : Prop := mI h 606 16 = nI o.length ∧ ∀ i c, o[i]? = some c → mI h 613 i = nI c
def rcM (h : AH) (y : Nat) (b e x : Option Nat) : Prop := mI h 606 21 = nI y ∧ mI h 606 22 = oI b ∧ mI h 606 17 = oI e ∧ mI h 606 18 = oI x
def RMb (h : AH) (X : BG) : Prop := sM h ∧ rm (mI h 607) (bA X) ∧ hsM h (bH X) ∧ svM h (bS X) ∧ bfM h (bF X) ∧ otM h (bO X) ∧ rcM h (bY X) (bB X) (bE X) (bX X)
section MX
variable {h g : AH} {A : AG} {X : BG} {f f' : Nat → Int32}
theorem rmX.cg (r : rmX f A) (e : ∀ k, k < 281 → f' k = f k) : rmX f' A := by
  obtain ⟨f0, r0, e0⟩ := r
  exact ⟨f0, r0, fun k hk => (e k hk).trans (e0 k hk)⟩
theorem rmX.rm (r : rmX f A) (i : IMs A) : rm f A := by
  obtain ⟨f0, r0, e0⟩ := r
  exact r0.cg i e0
theorem hsM.fr {H : List AG} {C F : List Nat} (q : hsM h H) (c : mf C F h g) (h5 : 5 ∉ F) (h10 : 610 ∉ C) : hsM g H := by
  unfold hsM
  rw [c.f h5, c.c (by decide) h10]
  exact q
theorem svM.fr {s : Option AG} {C F : List Nat} (q : svM h s) (c : mf C F h g) (h5 : 6 ∉ F) (h10 : 609 ∉ C) : svM g s := by
  unfold svM at q ⊢
  rw [c.f h5, c.c (by decide) h10]
  exact q
theorem bfM.fr {b : List Nat} {C F : List Nat} (q : bfM h b) (c : mf C F h g) (h5 : 15 ∉ F) (h10 : 611 ∉ C) : bfM g b := by
  unfold bfM
  rw [c.f h5, c.c (by decide) h10]
  exact q
theorem otM.fr {b : List Nat} {C F : List Nat} (q : otM h b) (c : mf C F h g) (h5 : 16 ∉ F) (h10 : 613 ∉ C) : otM g b := by
  unfold otM
  rw [c.f h5, c.c (by decide) h10]
  exact q
theorem rcM.fr {y : Nat} {b e x : Option Nat} {C F : List Nat} (q : rcM h y b e x) (c : mf C F h g) (h1 : 21 ∉ F) (h2 : 22 ∉ F) (h3 : 17 ∉ F) (h4 : 18 ∉ F) : rcM g y b e x := by
  unfold rcM
  rw [c.f h1, c.f h2, c.f h3, c.f h4]
  exact q
theorem m_rem_l (s : sM h) {X : AH → Prop} (kk : ∀ g, mf [608] [0] h g → (∀ k, k < 281 → mI g 608 k = mI h 607 k) → mI g 606 0 = mI h 606 0 → X g) : ∀ d x g, x + d = 281 → mf [608] [0] h g → mI g 606 0 = mI h 606 0 → (∀ k, k < x → mI g 608 k = mI h 607 k) → wX10_remembers_L7 X (d + 1) 606 (nI x) g := by
  intro d
  induction d with
  | zero =>
    intro x g hx cg e0 z
    have e : x = 281 := hx
    rw [wX10_remembers_L7]; dsimp only
    simp (disch := omega) only [nI_add, pk_mul, nI_clamp, nI_leI, nI_ltI, nI_eq, vp_in_nI]
    exact ⟨fun _ => kk g cg (fun k hk => z k (by omega)) e0, fun z => absurd (by omega) z⟩
  | succ d ih =>
    intro x g hx cg e0 z
    have s' := cg.s s
    have e7 : mI g 607 = mI h 607 := cg.c (by decide) (by decide)
    have nz8 : (nZ ≤ 608) = True := eq_true (by decide)
    rw [wX10_remembers_L7]; dsimp only
    simp (disch := omega) only [s'.o, s'.r1, s'.a7, s'.l7, s'.r2, s'.a8, s'.l8, nz8, nI_add, pk_mul, nI_clamp, nI_leI, nI_ltI, nI_eq, vp_in_nI, true_and, forall_eq, e7]
    refine ⟨fun z => absurd z (by omega), fun _ => ?_⟩
    refine ih (x + 1) _ (by omega) (cg.tr (mf.ui (by decide) (by decide))) (by rw [mI_o (by decide)]; exact e0) (fun k hk => ?_)
    rw [mI_up]
    by_cases e : k = x
    · rw [e, ups_s]
    · rw [ups_o e]; exact z k (by omega)
theorem m_rem (s : sM h) {K : AH → Prop} (kk : ∀ g, mf [608] [0] h g → (∀ k, k < 281 → mI g 608 k = mI h 607 k) → mI g 606 0 = nI 0 → K g) : wX10_remembers 606 h K := by
  unfold wX10_remembers
  simp only [s.o, true_and, forall_eq]
  have c1 : mf [608] [0] h (uI h 606 0 (nI 0)) := mf.uf (by decide)
  refine ⟨282, m_rem_l (c1.s s) (fun g c e e0 => kk g (c1.tr c) (fun k hk => (e k hk).trans (by rw [mI_o (by decide)])) (e0.trans (by rw [mI_uI, if_pos ⟨rfl, rfl⟩]))) 281 0 _ (by omega) (mf.rf _ _ _) rfl (fun k hk => absurd hk (by omega))⟩
/-- the copy goes to slot n -/
theorem m_L55 (s : sM h) {n : Nat} (hn : n < 8) (e5 : mI h 606 5 = nI (n + 1)) {v : Int32} {X : Int32 → AH → Prop} (kk : ∀ g, mf [610] [] h g → (∀ q, ¬ (281 * n ≤ q ∧ q < 281 * n + 281) → mI g 610 q = mI h 610 q) → (∀ k, k < 281 → mI g 610 (281 * n + k) = mI h 608 k) → X v g) : ∀ d x g, x + d = 281 → mf [610] [] h g → (∀ q, ¬ (281 * n ≤ q ∧ q < 281 * n + 281) → mI g 610 q = mI h 610 q) → (∀ k, k < x → mI g 610 (281 * n + k) = mI h 608 k) → wX10_changed_L55 X (d + 1) 606 v (nI x) g := by
  intro d
  induction d with
  | zero =>
    intro x g hx cg o z
    have e : x = 281 := hx
    rw [wX10_changed_L55]; dsimp only
    simp (disch := omega) only [nI_add, pk_mul, nI_clamp, nI_leI, nI_ltI, nI_eq, vp_in_nI]
    exact ⟨fun _ => kk g cg o (fun k hk => z k (by omega)), fun z => absurd (by omega) z⟩
  | succ d ih =>
    intro x g hx cg o z
    have s' := cg.s s
    have e8 : mI g 608 = mI h 608 := cg.c (by decide) (by decide)
    have e6 : mI g 606 5 = nI (n + 1) := (cg.f (by decide)).trans e5
    have nz10 : (nZ ≤ 610) = True := eq_true (by decide)
    rw [wX10_changed_L55]; dsimp only
    simp (disch := omega) only [s'.o, s'.r4, s'.a10, s'.l10, s'.r2, s'.a8, s'.l8, nz10, nI_add, pk_mul, nI_clamp, nI_leI, nI_ltI, nI_eq, vp_in_nI, true_and, forall_eq, e8, e6]
    rw [nI_sub (by omega), Nat.add_sub_cancel]
    simp (disch := omega) only [nI_add, pk_mul, nI_clamp, nI_leI, nI_ltI, nI_eq, vp_in_nI, true_and]
    refine ⟨fun z => absurd z (by omega), fun _ => ?_⟩
    refine ih (x + 1) _ (by omega) (cg.tr (mf.ui (by decide) (by decide))) (fun q hq => ?_) (fun k hk => ?_)
    · rw [mI_up, ups_o (by omega)]; exact o q hq
    · rw [mI_up]
      by_cases e : k = x
      · rw [e, ups_s]
      · rw [ups_o (by omega)]; exact z k (by omega)
theorem m_L11 (s : sM h) {v : Int32} {X : Int32 → AH → Prop} {c : Nat → Int32 → AH → Prop} (kk : ∀ g, mf [610] [] h g → (∀ q, q < 1967 → mI g 610 q = mI h 610 (q + 281)) → c 606 v g) : ∀ d x g, x + d = 1967 → mf [610] [] h g → (∀ q, x ≤ q → mI g 610 q = mI h 610 q) → (∀ q, q < x → mI g 610 q = mI h 610 (q + 281)) → wX10_changed_L11 X c (d + 1) 606 v (nI x) g := by
  intro d
  induction d with
  | zero =>
    intro x g hx cg o z
    have e : x = 1967 := hx
    rw [wX10_changed_L11]; dsimp only
    simp (disch := omega) only [nI_add, pk_mul, nI_clamp, nI_leI, nI_ltI, nI_eq, vp_in_nI]
    exact ⟨fun _ => kk g cg (fun k hk => z k (by omega)), fun z => absurd (by omega) z⟩
  | succ d ih =>
    intro x g hx cg o z
    have s' := cg.s s
    have nz10 : (nZ ≤ 610) = True := eq_true (by decide)
    have e1 := o (x + 281) (by omega)
    rw [wX10_changed_L11]; dsimp only
    simp (disch := omega) only [s'.o, s'.r4, s'.a10, s'.l10, nz10, nI_add, pk_mul, nI_clamp, nI_leI, nI_ltI, nI_eq, vp_in_nI, true_and, forall_eq, e1]
    refine ⟨fun z => absurd z (by omega), fun _ => ?_⟩
    refine ih (x + 1) _ (by omega) (cg.tr (mf.ui (by decide) (by decide))) (fun q hq => ?_) (fun k hk => ?_)
    · rw [mI_up, ups_o (by omega)]; exact o q (by omega)
    · rw [mI_up]
      by_cases e : k = x
      · rw [e, ups_s]
      · rw [ups_o (by omega)]; exact z k (by omega)
theorem m_changed (s : sM h) {H : List AG} {B : AG} (q : hsM h H) (r : rmX (mI h 608) B) {v : Int32} {K : Int32 → AH → Prop} (kk : ∀ g, mf [610] [5] h g → hsM g ((B :: H).take 8) → K v g) : wX10_changed 606 v h K := by
  obtain ⟨q1, q2, q3⟩ := q
  unfold wX10_changed
  simp (disch := omega) only [s.o, true_and, q1, nI_add, pk_mul, nI_clamp, nI_leI, nI_ltI, nI_eq, vp_in_nI, forall_eq]
  refine ⟨fun hn => ⟨282, ?_⟩, fun hn => ⟨1968, ?_⟩⟩
  · have c1 : mf [610] [5] h (uI h 606 5 (nI (H.length + 1))) := mf.uf (by decide)
    have e610 : mI (uI h 606 5 (nI (H.length + 1))) 610 = mI h 610 := mI_o (by decide)
    have e608 : mI (uI h 606 5 (nI (H.length + 1))) 608 = mI h 608 := mI_o (by decide)
    have e5 : mI (uI h 606 5 (nI (H.length + 1))) 606 5 = nI (H.length + 1) := by rw [mI_uI, if_pos ⟨rfl, rfl⟩]
    refine m_L55 (c1.s s) (n := H.length) (by omega) e5 (fun g c o z => kk g (c1.tr (c.mo (by decide) (by decide))) ⟨?_, ?_, fun i C hC => ?_⟩) 281 0 _ (by omega) (mf.rf _ _ _) (fun _ _ => rfl) (fun k hk => absurd hk (by omega))
    · rw [List.take_of_length_le (by simp; omega), c.f (by decide)]
      exact e5
    · rw [List.length_take]; omega
    · rw [List.take_of_length_le (by simp; omega)] at hC ⊢
      cases i with
      | zero =>
        have : B = C := by simpa using hC
        subst this
        refine r.cg (fun k hk => ?_)
        show mI g 610 (281 * ((B :: H).length - 1 - 0) + k) = _
        rw [show (B :: H).length - 1 - 0 = H.length by simp]
        rw [z k hk, e608]
      | succ i =>
        rw [List.getElem?_cons_succ] at hC
        have hi := (List.getElem?_eq_some_iff.mp hC).1
        refine (q3 i C hC).cg (fun k hk => ?_)
        show mI g 610 (281 * ((B :: H).length - 1 - (i + 1)) + k) = mI h 610 _
        rw [show (B :: H).length - 1 - (i + 1) = H.length - 1 - i by simp; omega]
        rw [o _ (by omega), e610]
  · refine m_L11 s (fun g1 c1 z1 => ⟨282, ?_⟩) 1967 0 h (by omega) (mf.rf _ _ _) (fun _ _ => rfl) (fun k hk => absurd hk (by omega))
    have e5 : mI g1 606 5 = nI (7 + 1) := by rw [c1.f (by decide), q1, hn]
    have e608 : mI g1 608 = mI h 608 := c1.c (by decide) (by decide)
    have hlen : ((B :: H).take 8).length = 8 := by rw [List.length_take]; simp; omega
    refine m_L55 (c1.s s) (n := 7) (by omega) e5 (fun g c o z => kk g ((c1.tr c).mo (by decide) (by decide)) ⟨?_, ?_, fun i C hC => ?_⟩) 281 0 _ (by omega) (mf.rf _ _ _) (fun _ _ => rfl) (fun k hk => absurd hk (by omega))
    · rw [hlen, c.f (by decide)]
      exact e5
    · omega
    · have hi := (List.getElem?_eq_some_iff.mp hC).1
      rw [hlen] at hi
      rw [List.getElem?_take_of_lt hi] at hC
      rw [hlen]
      cases i with
      | zero =>
        have : B = C := by simpa using hC
        subst this
        refine r.cg (fun k hk => ?_)
        show mI g 610 (281 * 7 + k) = _
        rw [z k hk, e608]
      | succ i =>
        rw [List.getElem?_cons_succ] at hC
        refine (q3 i C hC).cg (fun k hk => ?_)
        show mI g 610 (281 * (8 - 1 - (i + 1)) + k) = mI h 610 (281 * (H.length - 1 - i) + k)
        rw [o _ (by omega), z1 _ (by omega)]
        congr 1
        omega
end MX
