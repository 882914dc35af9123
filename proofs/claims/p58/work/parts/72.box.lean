/-! THE CONSTRUCTORS: the box -/
section BXC
variable {h0 h g : AH} {S n c k : Nat}
def tb9 (j : Nat) : Nat := match j with
  | 0 => 65
  | 1 => 108
  | 2 => 151
  | 3 => 194
  | 4 => 583
  | 5 => 587
  | _ => 604
/-- the box under way: c of its references stand -/
def Bx9 (h0 h : AH) (c : Nat) : Prop := (∀ a, a < 64 → sa h0 h a) ∧ mS h 64 = (1, 0) ∧ (∀ j, j < c → mR h 64 j = tb9 j) ∧ ∀ j, mI h 64 j = nI 0
theorem Bx9.fr (b : Bx9 h0 h c) (f : ∀ a, a < 65 → sa h g a) : Bx9 h0 g c := ⟨fun a ha => (b.1 a ha).tr (f a (by omega)), by rw [(f 64 (by decide)).1]; exact b.2.1, fun j hj => by rw [(f 64 (by decide)).2.2.1]; exact b.2.2.1 j hj, fun j => by rw [(f 64 (by decide)).2.1]; exact b.2.2.2 j⟩
theorem sa.ur {a b j v : Nat} (hb : b ≠ a) : sa h (uR h a j v) b := ⟨rfl, rfl, mR_o hb, rfl⟩
theorem sa.ui {a b j : Nat} {v : Int32} (hb : b ≠ a) : sa h (uI h a j v) b := ⟨rfl, mI_o hb, rfl, rfl⟩
theorem Bx9.ur (b : Bx9 h0 h c) {v : Nat} (e : g = uR h 64 c v) (hv : v = tb9 c) : Bx9 h0 g (c + 1) := by
  subst e hv
  refine ⟨fun a ha => (b.1 a ha).tr (sa.ur (by omega)), b.2.1, fun j hj => ?_, b.2.2.2⟩
  rw [mR_uR]
  by_cases z : j = c
  · rw [if_pos ⟨rfl, z⟩, z]
  · rw [if_neg (fun u => z u.2)]; exact b.2.2.1 j (by omega)
theorem rp_fr {A : AG} (p : rpS h S A) (hz : 65 ≤ S) (hS : S + 43 ≤ n) (f : ∀ a, 65 ≤ a → a < n → sa h g a) : rpS g S A := p.sm (fun q h1 h2 => f q (by omega) (by omega))
theorem c_new (b : Bx9 h0 h c) (hN : mN h = S) (hz : 65 ≤ S) (e : g = nw h 6 0) {K : AH → Prop} (kk : ∀ g', mN g' = S + 43 → Bx9 h0 g' c → (∀ a, a < S → sa h g' a) → rpS g' S A_0 → K g') : (¬ mN h = 0) ∧ wX7_init (mN h) g K := by
  subst e
  refine ⟨by omega, ?_⟩
  rw [hN]
  have t : ∀ a, a ≠ S → sa h (nw h 6 0) a := fun a ha => sa.nw (by omega)
  refine c_st0 (by omega) (by rw [mN_nw, hN]) (by rw [mS_nw, if_pos hN.symm]) ⟨fun j => by rw [mI_nw, if_pos hN.symm], fun j => by rw [mR_nw, if_pos hN.symm], fun j => by rw [mL_nw, if_pos hN.symm]⟩ (fun g n1 f1 p1 => ?_)
  have f : ∀ a, a < S → sa h g a := fun a ha => (t a (by omega)).tr (f1 a ha)
  exact kk g n1 (b.fr (fun a ha => f a (by omega))) f p1
/-- the history under way: k of its states stand; hb: the heap ahead of it -/
def Hs9 (h0 hb : AH) (k : Nat) (h : AH) : Prop := mN h = 196 + 43 * k ∧ Bx9 h0 h 3 ∧ (∀ a, 65 ≤ a → a < 194 → sa hb h a) ∧ (mS h 194 = (2, 0) ∧ mR h 194 0 = 195 ∧ mI h 194 1 = nI 0 ∧ mI h 194 2 = nI 0) ∧ mS h 195 = (105, 9) ∧ ∀ i, i < k → mR h 195 i = 196 + 43 * i ∧ rpS h (196 + 43 * i) A_0
theorem c_hist_l {hb : AH} {K : AH → Prop} (kk : ∀ g, Hs9 h0 hb 9 g → K g) : ∀ d k h, k + d = 9 → Hs9 h0 hb k h → wX2_init_L25 K (d + 1) 194 (nI k) h := by
  intro d
  induction d with
  | zero =>
    intro k h hk H
    have hk' : k = 9 := hk
    subst hk'
    rw [wX2_init_L25]; dsimp only
    exact ⟨fun _ => kk h H, fun z => absurd (nI_le (by decide) (by decide)) z⟩
  | succ d ih =>
    intro k h hk H
    obtain ⟨n1, b, f, ⟨s1, s2, s3, s4⟩, s5, s6⟩ := H
    rw [wX2_init_L25]; dsimp only
    refine ⟨fun z => absurd z (nI_ge (by omega) (by decide)), fun _ => ⟨s1, fun h9 e9 => c_new b n1 (by omega) e9 (fun g n2 b2 f2 p2 => ?_)⟩⟩
    have t194 := f2 194 (by omega)
    have t195 := f2 195 (by omega)
    have a195 : mS g 195 = (105, 9) := t195.1.trans s5
    have l195 : ln g 195 = 9 := congrArg Prod.snd a195
    rw [s2, n1]
    refine ⟨congrArg Prod.fst a195, p2.1.2.1, by decide, by rw [l195]; exact vp_in_nI (by omega) (by decide), fun h16 e16 => ?_⟩
    rw [nI_clamp (by omega)] at e16
    rw [nI_add]
    have t : ∀ a, a ≠ 195 → sa g h16 a := fun a ha => by rw [e16]; exact sa.ur ha
    refine ih (k + 1) h16 (by omega) ⟨by rw [e16]; show mN g = _; omega, b2.fr (fun a ha => t a (by omega)), fun a h1 h2 => (f a h1 h2).tr ((f2 a (by omega)).tr (t a (by omega))), ?_, ?_, fun i hi => ?_⟩
    · have u := t194.tr (t 194 (by decide))
      rw [u.1, u.2.2.1, u.2.1]
      exact ⟨s1, s2, s3, s4⟩
    · rw [e16]; exact a195
    · by_cases z : i = k
      · subst z
        refine ⟨by rw [e16, mR_uR, if_pos ⟨rfl, rfl⟩], rp_fr (n := 196 + 43 * i + 43) (p2.sm (fun q h1 h2 => t q (by omega))) (by omega) (by omega) (fun a _ _ => sa.rf _ _)⟩
      · obtain ⟨v1, v2⟩ := s6 i (by omega)
        refine ⟨by rw [e16, mR_uR, if_neg (fun u => z u.2), t195.2.2.1]; exact v1, v2.sm (fun q h1 h2 => (f2 q (by omega)).tr (t q (by omega)))⟩
/-- only references in cell 589 may have changed -/
def e589 (h g : AH) : Prop := mN g = mN h ∧ ∀ a, mS g a = mS h a ∧ mI g a = mI h a ∧ mL g a = mL h a ∧ (a ≠ 589 → mR g a = mR h a)
theorem e589.sa (e : e589 h g) {a : Nat} (ha : a ≠ 589) : sa h g a := ⟨(e.2 a).1, (e.2 a).2.1, (e.2 a).2.2.2 ha, (e.2 a).2.2.1⟩
theorem c_cmd_l {hb : AH} (s0 : mS hb 587 = (4, 0)) (r2 : mR hb 587 2 = 589) (s589 : mS hb 589 = (107, 13)) (s11 : mS hb 11 = (21, 0)) {K : AH → Prop} (kk : ∀ g, e589 hb g → K g) : ∀ d i h, i + d = 13 → e589 hb h → wX5_init_L49 K (d + 1) 587 (nI i) h := by
  intro d
  induction d with
  | zero =>
    intro i h hi e
    have hi' : i = 13 := hi
    subst hi'
    rw [wX5_init_L49]; dsimp only
    exact ⟨fun _ => kk h e, fun z => absurd (nI_le (by decide) (by decide)) z⟩
  | succ d ih =>
    intro i h hi e
    have a0 : mS h 587 = (4, 0) := (e.2 587).1.trans s0
    have a1 : mR h 587 2 = 589 := by rw [(e.2 587).2.2.2 (by decide)]; exact r2
    have a2 : mS h 589 = (107, 13) := (e.2 589).1.trans s589
    have a3 : mS h 11 = (21, 0) := (e.2 11).1.trans s11
    have l2 : ln h 589 = 13 := congrArg Prod.snd a2
    rw [wX5_init_L49]; dsimp only
    rw [a1]
    refine ⟨fun z => absurd z (nI_ge (by omega) (by decide)), fun _ => ⟨a0, congrArg Prod.fst a2, a3, by decide, by decide, by rw [l2]; exact vp_in_nI (by omega) (by decide), fun h21 e21 => ?_⟩⟩
    rw [nI_add]
    refine ih (i + 1) h21 (by omega) ⟨by rw [e21]; exact e.1, fun a => ?_⟩
    obtain ⟨x1, x2, x3, x4⟩ := e.2 a
    rw [e21]
    exact ⟨x1, x2, x3, fun ha => by rw [mR_o ha]; exact x4 ha⟩
/-- the box behind its constructor -/
def BoxD (h : AH) : Prop := mN h = 606 ∧ sB0 h ∧ shT h ∧ rpS h 65 A_0 ∧ hsO h 0 [] ∧ svO h none ∧ pgO h [] ∧ (mR h 604 0 = 605 ∧ mS h 605 = (103, 16) ∧ mI h 604 1 = nI 0 ∧ mI h 604 3 = nI 0 ∧ ∀ i, mI h 605 i = nI 0) ∧ rcO h 0 none none none
theorem sh_0 {h : AH} {S : Nat} (p : rpS h S A_0) : shS h S := p.1
theorem c_box {h1 : AH} (hN : mN h0 = 64) (s11 : mS h0 11 = (21, 0)) (e1 : h1 = nw h0 1 0) {K : AH → Prop} (kk : ∀ g, BoxD g → (∀ a, a < 64 → sa h0 g a) → K g) : wX9_init 64 h1 K := by
  have n1 : mN h1 = 65 := by rw [e1, mN_nw, hN]
  have b1 : Bx9 h0 h1 0 := by
    subst e1
    exact ⟨fun a ha => sa.nw (by omega), by rw [mS_nw, if_pos hN.symm], fun j hj => absurd hj (Nat.not_lt_zero j), fun j => by rw [mI_nw, if_pos hN.symm]; rfl⟩
  unfold wX9_init
  refine ⟨by decide, fun h2 e2 => c_new b1 n1 (by decide) e2 (fun h3 n3 b3 f3 p3 => ⟨b3.2.1, fun h6 e6 h7 e7 => ?_⟩)⟩
  rw [n1] at e6
  have b6 := b3.ur e6 rfl
  have n6 : mN h6 = 108 := by rw [e6]; exact n3
  have t6 : ∀ a, 65 ≤ a → sa h3 h6 a := fun a ha => by rw [e6]; exact sa.ur (by omega)
  refine c_new b6 n6 (by decide) e7 (fun h8 n8 b8 f8 p8 => ⟨b8.2.1, fun h11 e11 h12 e12 => ?_⟩)
  rw [n6] at e11
  have b11 := b8.ur e11 rfl
  have n11 : mN h11 = 151 := by rw [e11]; exact n8
  have t11 : ∀ a, 65 ≤ a → sa h8 h11 a := fun a ha => by rw [e11]; exact sa.ur (by omega)
  refine c_new b11 n11 (by decide) e12 (fun h13 n13 b13 f13 p13 => ⟨b13.2.1, fun h16 e16 h17 e17 => ?_⟩)
  rw [n11] at e16
  have b16 := b13.ur e16 rfl
  have n16 : mN h16 = 194 := by rw [e16]; exact n13
  have t16 : ∀ a, 65 ≤ a → sa h13 h16 a := fun a ha => by rw [e16]; exact sa.ur (by omega)
  have q65 : rpS h16 65 A_0 := p3.sm (fun q h1 h2 => (t6 q h1).tr ((f8 q (by omega)).tr ((t11 q h1).tr ((f13 q (by omega)).tr (t16 q h1)))))
  have q108 : rpS h16 108 A_0 := p8.sm (fun q h1 h2 => (t11 q (by omega)).tr ((f13 q (by omega)).tr (t16 q (by omega))))
  have q151 : rpS h16 151 A_0 := p13.sm (fun q h1 h2 => t16 q (by omega))
  rw [n16]
  refine ⟨by decide, ?_⟩
  have R0 : Rg h17 h17 194 1 (fun _ => (2, 0)) (fun _ _ => 0) := Rg.st (by rw [e17, mN_nw, n16]) (by rw [e17, mS_nw, if_pos n16.symm]) ⟨fun j => by rw [e17, mI_nw, if_pos n16.symm], fun j => by rw [e17, mR_nw, if_pos n16.symm], fun j => by rw [e17, mL_nw, if_pos n16.symm]⟩
  have t17 : ∀ a, a < 194 → sa h16 h17 a := fun a ha => by rw [e17]; exact sa.nw (by omega)
  unfold wX2_init
  refine ⟨by decide, fun y2 g2 => ?_⟩
  have R2 := R0.al g2
  refine ⟨R2.s (o := 0) (by decide), fun y4 g4 y5 g5 y6 g6 => ⟨10, by decide, ?_⟩⟩
  rw [R0.1] at g4
  have R4 := R2.ur (o := 0) (v := 1) (by decide) g4
  have R6 := (R4.ui (by decide) g5).ui (by decide) g6
  have F6 : ∀ a, a < 194 → sa h16 y6 a := fun a ha => (t17 a ha).tr (R6.2.1 a ha)
  refine c_hist_l (h0 := h0) (hb := h16) (fun h18 H18 => ?_) 9 0 y6 rfl ⟨R6.1, b16.fr (fun a ha => F6 a (by omega)), fun a _ h2 => F6 a h2, ⟨R6.s (o := 0) (by decide), R6.r (o := 0) (by decide) (by decide) rfl, R6.i (o := 0) (by decide) 1, R6.i (o := 0) (by decide) 2⟩, R6.s (o := 1) (by decide), fun i hi => absurd hi (Nat.not_lt_zero i)⟩
  obtain ⟨n18, b18, f18, ⟨s1, s2, s3, s4⟩, s5, s6⟩ := H18
  refine ⟨b18.2.1, fun h21 e21 h22 e22 => ?_⟩
  have b21 := b18.ur e21 rfl
  have n21 : mN h21 = 583 := by rw [e21]; exact n18
  have t21 : ∀ a, 65 ≤ a → sa h18 h21 a := fun a ha => by rw [e21]; exact sa.ur (by omega)
  rw [n21]
  refine ⟨by decide, ?_⟩
  have P0 : Rg h22 h22 583 1 (fun _ => (5, 0)) (fun _ _ => 0) := Rg.st (by rw [e22, mN_nw, n21]) (by rw [e22, mS_nw, if_pos n21.symm]) ⟨fun j => by rw [e22, mI_nw, if_pos n21.symm], fun j => by rw [e22, mR_nw, if_pos n21.symm], fun j => by rw [e22, mL_nw, if_pos n21.symm]⟩
  have t22 : ∀ a, a < 583 → sa h21 h22 a := fun a ha => by rw [e22]; exact sa.nw (by omega)
  unfold wX6_init
  refine ⟨by decide, P0.s (o := 0) (by decide), fun z3 d3 z4 d4 => ?_⟩
  have P3 := P0.ui (by decide) d3
  have P4 := P3.al d4
  refine ⟨P4.s (o := 0) (by decide), fun z6 d6 z7 d7 => ?_⟩
  rw [P3.1] at d6
  have P6 := P4.ur (o := 0) (v := 1) (by decide) d6
  have P7 := P6.al d7
  refine ⟨P7.s (o := 0) (by decide), fun z9 d9 z10 d10 => ?_⟩
  rw [P6.1] at d9
  have P9 := P7.ur (o := 0) (v := 2) (by decide) d9
  have P10 := P9.al d10
  refine ⟨P10.s (o := 0) (by decide), fun z12 d12 z13 d13 z14 d14 z15 d15 => ?_⟩
  rw [P9.1] at d12
  have P12 := P10.ur (o := 0) (v := 3) (by decide) d12
  have P15 := ((P12.ui (by decide) d13).ui (by decide) d14).ui (by decide) d15
  have F15 : ∀ a, a < 583 → sa h21 z15 a := fun a ha => (t22 a ha).tr (P15.2.1 a ha)
  have b15 := b21.fr (fun a ha => F15 a (by omega))
  refine ⟨b15.2.1, fun h26 e26 h27 e27 => ?_⟩
  have b26 := b15.ur e26 rfl
  have n26 : mN h26 = 587 := by rw [e26]; exact P15.1
  have t26 : ∀ a, 65 ≤ a → sa z15 h26 a := fun a ha => by rw [e26]; exact sa.ur (by omega)
  rw [n26]
  refine ⟨by decide, ?_⟩
  have Q0 : Rg h27 h27 587 1 (fun _ => (4, 0)) (fun _ _ => 0) := Rg.st (by rw [e27, mN_nw, n26]) (by rw [e27, mS_nw, if_pos n26.symm]) ⟨fun j => by rw [e27, mI_nw, if_pos n26.symm], fun j => by rw [e27, mR_nw, if_pos n26.symm], fun j => by rw [e27, mL_nw, if_pos n26.symm]⟩
  have t27 : ∀ a, a < 587 → sa h26 h27 a := fun a ha => by rw [e27]; exact sa.nw (by omega)
  unfold wX5_init
  refine ⟨by decide, fun x2 c2 => ?_⟩
  have Q2 := Q0.al c2
  refine ⟨Q2.s (o := 0) (by decide), fun x4 c4 x5 c5 x6 c6 => ?_⟩
  rw [Q0.1] at c4
  have Q4 := Q2.ur (o := 0) (v := 1) (by decide) c4
  have Q5 := Q4.ui (by decide) c5
  have Q6 := Q5.al c6
  refine ⟨Q6.s (o := 0) (by decide), fun x8 c8 x9 c9 => ?_⟩
  rw [Q5.1] at c8
  have Q8 := Q6.ur (o := 0) (v := 2) (by decide) c8
  have Q9 := Q8.alM c9
  refine ⟨Q9.s (o := 0) (by decide), fun x11 c11 x12 c12 x13 c13 => ⟨14, ?_⟩⟩
  rw [Q8.1] at c11
  have Q11 := Q9.ur (o := 0) (v := 3) (by decide) c11
  have Q13 := (Q11.ui (by decide) c12).ui (by decide) c13
  have F13 : ∀ a, a < 587 → sa h26 x13 a := fun a ha => (t27 a ha).tr (Q13.2.1 a ha)
  have b13' := b26.fr (fun a ha => F13 a (by omega))
  refine c_cmd_l (hb := x13) (Q13.s (o := 0) (by decide)) (Q13.r (o := 0) (by decide) (by decide) rfl) (Q13.s (o := 2) (by decide)) (by rw [(b13'.1 11 (by decide)).1]; exact s11) (fun h28 e28 => ?_) 13 0 x13 rfl ⟨rfl, fun a => ⟨rfl, rfl, rfl, fun _ => rfl⟩⟩
  have b28 := b13'.fr (fun a ha => e28.sa (by omega))
  refine ⟨b28.2.1, fun h31 e31 h32 e32 => ?_⟩
  have b31 := b28.ur e31 rfl
  have n31 : mN h31 = 604 := by rw [e31]; show mN h28 = 604; rw [e28.1, Q13.1]
  have t31 : ∀ a, 65 ≤ a → sa h28 h31 a := fun a ha => by rw [e31]; exact sa.ur (by omega)
  rw [n31]
  refine ⟨by decide, ?_⟩
  have V0 : Rg h32 h32 604 1 (fun _ => (9, 0)) (fun _ _ => 0) := Rg.st (by rw [e32, mN_nw, n31]) (by rw [e32, mS_nw, if_pos n31.symm]) ⟨fun j => by rw [e32, mI_nw, if_pos n31.symm], fun j => by rw [e32, mR_nw, if_pos n31.symm], fun j => by rw [e32, mL_nw, if_pos n31.symm]⟩
  have t32 : ∀ a, a < 604 → sa h31 h32 a := fun a ha => by rw [e32]; exact sa.nw (by omega)
  unfold wJ4_init_da8c8 wJ5_init_d00df
  refine ⟨by decide, by decide, fun z => absurd z (by decide), fun _ => ⟨by decide, by decide, fun w5 k5 => ?_⟩⟩
  have k16 : (nI 16).toNatClampNeg = 16 := nI_clamp (by decide)
  rw [k16] at k5
  have V5 := V0.al k5
  refine ⟨V5.s (o := 0) (by decide), fun w7 k7 w8 k8 => ?_⟩
  rw [V0.1] at k7
  have V7 := V5.ur (o := 0) (v := 1) (by decide) k7
  have V8 := V7.ui (by decide) k8
  have G8 : ∀ a, a < 604 → sa h31 w8 a := fun a ha => (t32 a ha).tr (V8.2.1 a ha)
  have b33 := b31.fr (fun a ha => G8 a (by omega))
  refine ⟨b33.2.1, fun h36 e36 h37 e37 h38 e38 h39 e39 h40 e40 h41 e41 => ?_⟩
  have b36 := b33.ur e36 rfl
  have t36 : ∀ a, 65 ≤ a → sa w8 h36 a := fun a ha => by rw [e36]; exact sa.ur (by omega)
  have T : ∀ a, a ≠ 64 → sa h36 h41 a := fun a ha => by
    have u1 : sa h36 h37 a := by rw [e37]; exact sa.ui ha
    have u2 : sa h37 h38 a := by rw [e38]; exact sa.ui ha
    have u3 : sa h38 h39 a := by rw [e39]; exact sa.ui ha
    have u4 : sa h39 h40 a := by rw [e40]; exact sa.ui ha
    have u5 : sa h40 h41 a := by rw [e41]; exact sa.ui ha
    exact u1.tr (u2.tr (u3.tr (u4.tr u5)))
  have mS41 : mS h41 64 = (1, 0) := by rw [e41, e40, e39, e38, e37]; exact b36.2.1
  have mR41 : ∀ j, j < 7 → mR h41 64 j = tb9 j := fun j hj => by rw [e41, e40, e39, e38, e37]; exact b36.2.2.1 j hj
  have i7 : mI h41 64 7 = nI 0 := by rw [e41, mI_uI, if_neg (by decide), e40, mI_uI, if_neg (by decide), e39, mI_uI, if_neg (by decide), e38, mI_uI, if_neg (by decide), e37, mI_uI, if_pos ⟨rfl, rfl⟩]
  have i8 : mI h41 64 8 = nI 0 := by rw [e41, mI_uI, if_neg (by decide), e40, mI_uI, if_neg (by decide), e39, mI_uI, if_neg (by decide), e38, mI_uI, if_pos ⟨rfl, rfl⟩]
  have i9 : mI h41 64 9 = -1 := by rw [e41, mI_uI, if_neg (by decide), e40, mI_uI, if_neg (by decide), e39, mI_uI, if_pos ⟨rfl, rfl⟩]
  have i10 : mI h41 64 10 = -1 := by rw [e41, mI_uI, if_neg (by decide), e40, mI_uI, if_pos ⟨rfl, rfl⟩]
  have i11 : mI h41 64 11 = -1 := by rw [e41, mI_uI, if_pos ⟨rfl, rfl⟩]
  have n41 : mN h41 = 606 := by rw [e41, e40, e39, e38, e37, e36]; exact V8.1
  -- from each region on
  have L5 : ∀ a, a < 606 → 604 ≤ a → sa w8 h41 a := fun a h1 h2 => (t36 a (by omega)).tr (T a (by omega))
  have L4 : ∀ a, 65 ≤ a → a < 604 → sa h28 h41 a := fun a h1 h2 => (t31 a h1).tr ((G8 a h2).tr ((t36 a h1).tr (T a (by omega))))
  have L3 : ∀ a, 65 ≤ a → a < 587 → sa z15 h41 a := fun a h1 h2 => (t26 a h1).tr ((F13 a h2).tr ((e28.sa (by omega)).tr (L4 a h1 (by omega))))
  have L2 : ∀ a, 65 ≤ a → a < 583 → sa h18 h41 a := fun a h1 h2 => (t21 a h1).tr ((F15 a h2).tr (L3 a h1 (by omega)))
  have L1 : ∀ a, 65 ≤ a → a < 194 → sa h16 h41 a := fun a h1 h2 => (f18 a h1 h2).tr (L2 a h1 (by omega))
  have q65' : rpS h41 65 A_0 := q65.sm (fun q h1 h2 => L1 q (by omega) (by omega))
  have q108' : rpS h41 108 A_0 := q108.sm (fun q h1 h2 => L1 q (by omega) (by omega))
  have q151' : rpS h41 151 A_0 := q151.sm (fun q h1 h2 => L1 q (by omega) (by omega))
  have qh : ∀ i, i < 9 → rpS h41 (196 + 43 * i) A_0 := fun i hi => (s6 i hi).2.sm (fun q h1 h2 => L2 q (by omega) (by omega))
  have c194 := L2 194 (by decide) (by decide)
  have c195 := L2 195 (by decide) (by decide)
  have c583 := L3 583 (by decide) (by decide)
  have c587 : sa x13 h41 587 := (e28.sa (by decide)).tr (L4 587 (by decide) (by decide))
  have c588 : sa x13 h41 588 := (e28.sa (by decide)).tr (L4 588 (by decide) (by decide))
  have c590 : sa x13 h41 590 := (e28.sa (by decide)).tr (L4 590 (by decide) (by decide))
  have c604 := L5 604 (by decide) (by decide)
  have c605 := L5 605 (by decide) (by decide)
  refine kk h41 ⟨n41, ⟨mS41, ⟨mR41 0 (by decide), mR41 1 (by decide), mR41 2 (by decide), mR41 3 (by decide), mR41 4 (by decide), mR41 5 (by decide), mR41 6 (by decide)⟩, ⟨c194.1.trans s1, by rw [c194.2.2.1]; exact s2, c195.1.trans s5, fun i hi => by rw [c195.2.2.1]; exact (s6 i hi).1⟩, ⟨c583.1.trans (P15.s (o := 0) (by decide)), ?_, ?_, ?_, (L3 584 (by decide) (by decide)).1.trans (P15.s (o := 1) (by decide)), (L3 585 (by decide) (by decide)).1.trans (P15.s (o := 2) (by decide)), (L3 586 (by decide) (by decide)).1.trans (P15.s (o := 3) (by decide))⟩, ⟨c587.1.trans (Q13.s (o := 0) (by decide)), ?_, ?_, ?_, c588.1.trans (Q13.s (o := 1) (by decide)), ?_, c590.1.trans (Q13.s (o := 3) (by decide)), fun i hi => ⟨?_, ?_⟩⟩, c604.1.trans (V8.s (o := 0) (by decide))⟩, ⟨q65'.1, q108'.1, q151'.1, fun i hi => (qh i hi).1⟩, q65', ⟨by decide, by rw [c194.2.1]; exact s3, by rw [c194.2.1]; exact s4, Nat.zero_le _, fun i B hB => (by cases hB)⟩, i7, ⟨by rw [c587.2.1]; exact Q13.i (o := 0) (by decide) 1, Nat.zero_le _, fun i c hc => (by cases hc)⟩, ⟨?_, c605.1.trans (V8.s (o := 1) (by decide)), by rw [c604.2.1]; exact V8.i (o := 0) (by decide) 1, by rw [c604.2.1]; exact V8.i (o := 0) (by decide) 3, fun i => by rw [c605.2.1]; exact V8.i (o := 1) (by decide) i⟩, i8, i9, i10, i11⟩ (fun a ha => (b36.1 a ha).tr (T a (by omega)))
  · rw [c583.2.2.1]; exact P15.r (o := 0) (by decide) (by decide) rfl
  · rw [c583.2.2.1]; exact P15.r (o := 0) (by decide) (by decide) rfl
  · rw [c583.2.2.1]; exact P15.r (o := 0) (by decide) (by decide) rfl
  · rw [c587.2.2.1]; exact Q13.r (o := 0) (by decide) (by decide) rfl
  · rw [c587.2.2.1]; exact Q13.r (o := 0) (by decide) (by decide) rfl
  · rw [c587.2.2.1]; exact Q13.r (o := 0) (by decide) (by decide) rfl
  · rw [(L4 589 (by decide) (by decide)).1, (e28.2 589).1]; exact Q13.s (o := 2) (by decide)
  · rw [c590.2.2.1, Q13.r (o := 3) (v := 4 + i) (by decide) (by omega) ?_]
    · omega
    · revert hi
      revert i
      decide +kernel
  · have c := (e28.sa (a := 591 + i) (by omega)).tr (L4 (591 + i) (by omega) (by omega))
    rw [c.1, show 591 + i = 587 + (4 + i) by omega, Q13.s (o := 4 + i) (by omega)]
    clear c
    revert hi
    revert i
    decide +kernel
  · rw [c604.2.2.1]; exact V8.r (o := 0) (by decide) (by decide) rfl
end BXC
