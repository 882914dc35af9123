/-! THE MODEL'S CHANGES: giving a route back -/
def frI (f F : Nat → Int32) (G : LG) (W : List Nat) (xc xe : Nat) : Prop := (∀ k, (∀ b, b < 12 → k ≠ 9 + 6 * b + 5) → (∀ p, p < 8 → k ≠ 81 + 5 * p + 4) → F k = f k) ∧ (∀ k b, 1 ≤ k → k < xc → W[k]? = some b → F (9 + 6 * b + 5) = nI 0) ∧ (∀ b, b < 12 → (∀ k, 1 ≤ k → k < xc → W[k]? ≠ some b) → F (9 + 6 * b + 5) = f (9 + 6 * b + 5)) ∧ (∀ k y p, k < xe → k + 1 < W.length → W[k]? = some y → (gp G)[p]? = some y → F (81 + 5 * p + 4) = nI 0) ∧ (∀ p, p < 8 → (∀ k y, k < xe → k + 1 < W.length → W[k]? = some y → (gp G)[p]? ≠ some y) → F (81 + 5 * p + 4) = f (81 + 5 * p + 4))
section FE
variable {h g : AH} {A : AG} {G : LG} {f F : Nat → Int32} {W : List Nat} {j xc xe : Nat}
theorem frI.c0 (u : frI f F G W 0 xe) : frI f F G W 1 xe := by
  obtain ⟨u1, u3, u4, u7, u8⟩ := u
  exact ⟨u1, fun k b h1 h2 => absurd h1 (by omega), fun b hb _ => u4 b hb (fun k h1 h2 => absurd h1 (by omega)), u7, u8⟩
theorem frI.c (u : frI f F G W xc xe) (i : IL G) (hx : 1 ≤ xc) (hw : ∀ y ∈ W, y < 12) {c : Nat} (hc : W[xc]? = some c) : frI f (ups F (9 + 6 * c + 5) (nI 0)) G W (xc + 1) xe := by
  obtain ⟨u1, u3, u4, u7, u8⟩ := u
  have hc12 := hw c (List.mem_of_getElem? hc)
  refine ⟨fun k h1 h2 => ?_, fun k b h1 h2 h3 => ?_, fun b hb h1 => ?_, fun k y p h1 h2 h3 h4 => ?_, fun p hp h1 => ?_⟩
  · rw [ups_o (h1 c hc12)]; exact u1 k h1 h2
  · by_cases e : b = c
    · rw [e, ups_s]
    · rw [ups_o (by omega)]
      have hk : k ≠ xc := fun z => e (by rw [z, hc] at h3; exact (Option.some.inj h3).symm)
      exact u3 k b h1 (by omega) h3
  · have e : b ≠ c := fun z => h1 xc hx (by omega) (by rw [z]; exact hc)
    rw [ups_o (by omega)]; exact u4 b hb (fun k h2 h3 => h1 k h2 (by omega))
  · rw [ups_o (by omega)]; exact u7 k y p h1 h2 h3 h4
  · rw [ups_o (by omega)]; exact u8 p hp h1
theorem frI.e0 (u : frI f F G W xc xe) {c : Nat} (hc : W[xe]? = some c) (hn : xe + 1 = W.length ∨ c ∉ gp G) : frI f F G W xc (xe + 1) := by
  obtain ⟨u1, u3, u4, u7, u8⟩ := u
  refine ⟨u1, u3, u4, fun k y p h1 h2 h3 h4 => ?_, fun p hp h1 => u8 p hp (fun k y h2 h3 h4 => h1 k y (by omega) h3 h4)⟩
  by_cases e : k = xe
  · subst e
    rw [hc] at h3
    cases h3
    rcases hn with z | z
    · omega
    · exact absurd (List.mem_of_getElem? h4) z
  · exact u7 k y p (by omega) h2 h3 h4
theorem frI.e (u : frI f F G W xc xe) (i : IL G) {y p : Nat} (hc : W[xe]? = some y) (hn : xe + 1 < W.length) (hw : ∀ y ∈ W, y < 12) (hp : (gp G)[p]? = some y) : frI f (ups F (81 + 5 * p + 4) (nI 0)) G W xc (xe + 1) := by
  obtain ⟨u1, u3, u4, u7, u8⟩ := u
  have h8 := i.2.2.2.2.1
  have hpl := (List.getElem?_eq_some_iff.mp hp).1
  have inj : ∀ p' y', (gp G)[p']? = some y' → p' ≠ p → y' ≠ y := fun p' y' h1 h2 z => h2 ((List.getElem?_inj (List.getElem?_eq_some_iff.mp h1).1 i.2.2.2.1).mp (by rw [h1, hp, z]))
  refine ⟨fun k h1 h2 => ?_, fun k b h1 h2 h3 => ?_, fun b hb h1 => ?_, fun k y' p' h1 h2 h3 h4 => ?_, fun p' hp' h1 => ?_⟩
  · have := h2 p (by omega)
    rw [ups_o this]; exact u1 k h1 h2
  · have := hw b (List.mem_of_getElem? h3)
    rw [ups_o (by omega)]; exact u3 k b h1 h2 h3
  · rw [ups_o (by omega)]; exact u4 b hb h1
  · by_cases e : p' = p
    · subst e; rw [ups_s]
    · have hy := inj p' y' h4 e
      have hk : k ≠ xe := fun z => hy (by rw [z, hc] at h3; exact (Option.some.inj h3).symm)
      rw [ups_o (by omega)]; exact u7 k y' p' (by omega) h2 h3 h4
  · have e : p' ≠ p := fun z => h1 xe y (by omega) hn hc (by rw [z]; exact hp)
    rw [ups_o (by omega)]; exact u8 p' hp' (fun k y2 h2 h3 h4 => h1 k y2 (by omega) h3 h4)
/-- a block's point, if it is a stem, is free of its lock -/
theorem m_unlocks (s : sM h) (r2 : ∀ b, b < 12 → mI h 607 (9 + 6 * b + 3) = nI (stE G b)) (i : IL G) {b : Nat} (hb : b < 12) {K : AH → Prop} (k0 : b ∉ gp G → K h) (k1 : ∀ p, p < 8 → (gp G)[p]? = some b → K (uI h 607 (81 + 5 * p + 4) (nI 0))) : wX10_unlocks 606 (nI b) h K := by
  unfold wX10_unlocks
  simp (disch := omega) only [s.o, m_pointAt s r2 i hb, true_and]
  by_cases hp : b ∈ gp G
  · rw [if_pos hp]
    obtain ⟨p1, p2⟩ := i.p8 hp
    generalize (gp G).idxOf b = p at p1 p2
    refine ⟨fun z => absurd z (by rw [nI_nem (by omega)]; exact id), fun _ => ?_⟩
    simp (disch := omega) only [s.o, s.r1, s.a7, s.l7, nz7, nI_add, pk_mul, nI_clamp, nI_leI, nI_ltI, nI_eq, vp_in_nI, true_and, forall_eq]
    exact k1 p p1 p2
  · rw [if_neg hp]
    exact ⟨fun _ => k0 hp, fun z => absurd rfl z⟩
theorem m_J60 (i : IMs A) (r : rm (mI h 607) A) (hj : j < 8) (hn : mI h 607 (121 + 19 * j + 6) = nI W.length) (hW : W.length ≤ 12) (hw : ∀ y ∈ W, y < gn (aL A)) {X : Int32 → AH → Prop} {c26 : Nat → Int32 → Int32 → Int32 → AH → Prop} {v : Int32} {x xc b : Nat} (hb : W[x]? = some b) (s : sM g) (cg : mf [607] [] h g) (u : frI (mI h 607) (mI g 607) (aL A) W xc x) (kk : ∀ g, mf [607] [] h g → frI (mI h 607) (mI g 607) (aL A) W xc (x + 1) → c26 606 v (nI j) (nI (x + 1)) g) : wX10_frees_J60 X c26 606 v (nI j) (nI x) (nI b) g := by
  have h12 := i.1.1
  have hxl := (List.getElem?_eq_some_iff.mp hb).1
  have hbn := hw b (List.mem_of_getElem? hb)
  have hw12 : ∀ y ∈ W, y < 12 := fun y hy => by have := hw y hy; omega
  have e6 : mI g 607 (121 + 19 * j + 6) = nI W.length := (u.1 _ (by omega) (by omega)).trans hn
  have r2 : ∀ b, b < 12 → mI g 607 (9 + 6 * b + 3) = nI (stE (aL A) b) := fun b hb => (u.1 _ (by omega) (by omega)).trans (r.2.1 b hb).2.2.2
  unfold wX10_frees_J60
  simp (disch := omega) only [s.o, m_train s hj, e6, true_and]
  rw [nI_sub (by omega)]
  simp (disch := omega) only [nI_add, pk_mul, nI_clamp, nI_leI, nI_ltI, nI_eq, vp_in_nI]
  refine ⟨fun z => kk g cg (u.e0 hb (Or.inl (by omega))), fun z => ?_⟩
  refine m_unlocks s r2 i.1 (by omega) (fun hp => ?_) (fun p p1 p2 => ?_)
  · exact kk g cg (u.e0 hb (Or.inr hp))
  · refine kk _ (cg.tr (mf.ui (by decide) (by decide))) ?_
    rw [mI_up]
    exact u.e i.1 hb (by omega) hw12 p2
theorem m_L26 (i : IMs A) (r : rm (mI h 607) A) (hj : j < 8) (hn : mI h 607 (121 + 19 * j + 6) = nI W.length) (hwy : ∀ k c, W[k]? = some c → mI h 607 (121 + 19 * j + (7 + k)) = nI c) (hW : W.length ≤ 12) (hw : ∀ y ∈ W, y < gn (aL A)) {X : Int32 → AH → Prop} {c : Nat → Int32 → Int32 → AH → Prop} {v : Int32} (s : sM h) (kk : ∀ g, mf [607] [] h g → frI (mI h 607) (mI g 607) (aL A) W W.length W.length → c 606 v (nI j) g) : ∀ n x g, x + n = W.length → mf [607] [] h g → frI (mI h 607) (mI g 607) (aL A) W x x → wX10_frees_L26 X c (n + 1) 606 v (nI j) (nI x) g := by
  have h12 := i.1.1
  intro n
  induction n with
  | zero =>
    intro x g hx cg u
    have hx' : x = W.length := hx
    have s' := cg.s s
    have e6 : mI g 607 (121 + 19 * j + 6) = nI W.length := (u.1 _ (by omega) (by omega)).trans hn
    rw [wX10_frees_L26]; dsimp only
    simp (disch := omega) only [s'.o, m_train s' hj, e6, nI_add, pk_mul, nI_clamp, nI_leI, nI_ltI, nI_eq, vp_in_nI, true_and]
    exact ⟨fun _ => kk g cg (hx' ▸ u), fun z => absurd (by omega) z⟩
  | succ n ih =>
    intro x g hx cg u
    have s' := cg.s s
    have hxl : x < W.length := by omega
    have hb : W[x]? = some W[x] := List.getElem?_eq_getElem hxl
    generalize W[x] = b at hb
    have hbn := hw b (List.mem_of_getElem? hb)
    have hw12 : ∀ y ∈ W, y < 12 := fun y hy => by have := hw y hy; omega
    have e6 : mI g 607 (121 + 19 * j + 6) = nI W.length := (u.1 _ (by omega) (by omega)).trans hn
    have e7 : mI g 607 (121 + 19 * j + (7 + x)) = nI b := (u.1 _ (by omega) (by omega)).trans (hwy x b hb)
    rw [wX10_frees_L26]; dsimp only
    simp (disch := omega) only [s'.o, m_train s' hj, e6, e7, nI_add, pk_mul, nI_clamp, nI_leI, nI_ltI, nI_eq, vp_in_nI, true_and]
    refine ⟨fun z => absurd z (by omega), fun _ => ?_⟩
    by_cases hx0 : x ≤ 0
    · have hx0' : x = 0 := by omega
      subst hx0'
      refine ⟨fun _ => ?_, fun z => absurd hx0 z⟩
      exact m_J60 i r hj hn hW hw hb s' cg u.c0 (fun g2 c2 u2 => ih 1 g2 (by omega) c2 u2)
    · refine ⟨fun z => absurd z hx0, fun _ => ?_⟩
      rw [m_puts s' (show b < 12 by omega) (show 5 < 6 by decide)]
      have c2 : mf [607] [] h (uI g 607 (9 + 6 * b + 5) (nI 0)) := cg.tr (mf.ui (by decide) (by decide))
      refine m_J60 i r hj hn hW hw hb (xc := x + 1) (c2.s s) c2 ?_ (fun g2 c3 u2 => ih (x + 1) g2 (by omega) c3 u2)
      rw [mI_up]
      exact u.c i.1 (by omega) hw12 hb
end FE
