def wX4_init (a0 : Nat) (h : AH) (K : AH → Prop) : Prop :=
  (¬ a0 = 0) ∧ (isO h a0 2) ∧ ∀ h3, h3 = uI h a0 0 0 → ∀ h4, h4 = uI h3 a0 1 0 → ∀ h5, h5 = uI h4 a0 2 0 → ∀ h6, h6 = uI h5 a0 3 0 → ∀ h7, h7 = uI h6 a0 4 0 → ∀ h8, h8 = nw h7 100 12 → (isO h8 a0 2) ∧ ∀ h10, h10 = uR h8 a0 5 (mN h7) → ∀ h11, h11 = nw h10 100 12 → (isO h11 a0 2) ∧ ∀ h13, h13 = uR h11 a0 6 (mN h10) → ∀ h14, h14 = nw h13 100 12 → (isO h14 a0 2) ∧ ∀ h16, h16 = uR h14 a0 7 (mN h13) → ∀ h17, h17 = nw h16 100 8 → (isO h17 a0 2) ∧ ∀ h19, h19 = uR h17 a0 8 (mN h16) → ∀ h20, h20 = nwM h19 12 12 → (isO h20 a0 2) ∧ ∀ h22, h22 = uR h20 a0 9 (mN h19) → ∀ h23, h23 = nwM h22 12 12 → (isO h23 a0 2) ∧ ∀ h25, h25 = uR h23 a0 10 (mN h22) → ∀ h26, h26 = nw h25 100 12 → (isO h26 a0 2) ∧ ∀ h28, h28 = uR h26 a0 11 (mN h25) → K h28
def wX8_init (a0 : Nat) (h : AH) (K : AH → Prop) : Prop :=
  (¬ a0 = 0) ∧ (isO h a0 6) ∧ ∀ h3, h3 = uI h a0 0 0 → ∀ h4, h4 = uI h3 a0 1 0 → ∀ h5, h5 = uI h4 a0 2 0 → ∀ h6, h6 = uI h5 a0 3 0 → ∀ h7, h7 = uI h6 a0 4 0 → ∀ h8, h8 = uI h7 a0 5 0 → K h8
def wX7_init_L64 (K : AH → Prop)   : Nat → Nat → Int32 → AH → Prop
  | 0 => fun _ _ _ => False
  | n + 1 => fun x0 x1 h =>
  ((8 ≤ x1 → K h) ∧ (¬ 8 ≤ x1 → (isO h x0 5) ∧ ∀ h21, h21 = nw h 7 0 → (¬ mN h = 0) ∧ wX8_init (mN h) h21 (fun h22 => (isA h22 (mR h x0 1) 6) ∧ (isO h22 (mN h) 6) ∧ (nZ ≤ (mR h x0 1)) ∧ (vp_in x1 (ln h22 (mR h x0 1))) ∧ ∀ h28, h28 = uR h22 (mR h x0 1) x1.toNatClampNeg (mN h) → wX7_init_L64 K   n x0 (x1 + 1) h28)))
def wX7_init (a0 : Nat) (h : AH) (K : AH → Prop) : Prop :=
  (¬ a0 = 0) ∧ ∀ h2, h2 = nw h 3 0 → (¬ mN h = 0) ∧ wX4_init (mN h) h2 (fun h3 => (isO h3 a0 5) ∧ ∀ h6, h6 = uR h3 a0 0 (mN h) → ∀ h7, h7 = nw h6 106 8 → (isO h7 a0 5) ∧ ∀ h9, h9 = uR h7 a0 1 (mN h6) → ∀ h10, h10 = nw h9 100 8 → (isO h10 a0 5) ∧ ∀ h12, h12 = uR h10 a0 2 (mN h9) → ∀ h13, h13 = uI h12 a0 3 0 → ∀ h14, h14 = uI h13 a0 4 0 → ∀ h15, h15 = uI h14 a0 5 0 → ∀ h16, h16 = uI h15 a0 6 0 → ∀ h17, h17 = uI h16 a0 7 0 → ∀ h18, h18 = uL h17 a0 8 0 → (∃ n30, n30 ≤ 9 ∧ wX7_init_L64 K  n30 a0 0 h18))
def wX2_init_L25 (K : AH → Prop)   : Nat → Nat → Int32 → AH → Prop
  | 0 => fun _ _ _ => False
  | n + 1 => fun x0 x1 h =>
  ((9 ≤ x1 → K h) ∧ (¬ 9 ≤ x1 → (isO h x0 1) ∧ ∀ h9, h9 = nw h 6 0 → (¬ mN h = 0) ∧ wX7_init (mN h) h9 (fun h10 => (isA h10 (mR h x0 0) 5) ∧ (isO h10 (mN h) 5) ∧ (nZ ≤ (mR h x0 0)) ∧ (vp_in x1 (ln h10 (mR h x0 0))) ∧ ∀ h16, h16 = uR h10 (mR h x0 0) x1.toNatClampNeg (mN h) → wX2_init_L25 K   n x0 (x1 + 1) h16)))
def wX2_init (a0 : Nat) (h : AH) (K : AH → Prop) : Prop :=
  (¬ a0 = 0) ∧ ∀ h2, h2 = nw h 105 9 → (isO h2 a0 1) ∧ ∀ h4, h4 = uR h2 a0 0 (mN h) → ∀ h5, h5 = uI h4 a0 1 0 → ∀ h6, h6 = uI h5 a0 2 0 → (∃ n18, n18 ≤ 10 ∧ wX2_init_L25 K  n18 a0 0 h6)
def wX6_init (a0 : Nat) (h : AH) (K : AH → Prop) : Prop :=
  (¬ a0 = 0) ∧ (isO h a0 4) ∧ ∀ h3, h3 = uI h a0 0 0 → ∀ h4, h4 = nw h3 100 8 → (isO h4 a0 4) ∧ ∀ h6, h6 = uR h4 a0 1 (mN h3) → ∀ h7, h7 = nw h6 100 8 → (isO h7 a0 4) ∧ ∀ h9, h9 = uR h7 a0 2 (mN h6) → ∀ h10, h10 = nw h9 100 8 → (isO h10 a0 4) ∧ ∀ h12, h12 = uR h10 a0 3 (mN h9) → ∀ h13, h13 = uI h12 a0 4 0 → ∀ h14, h14 = uI h13 a0 5 0 → ∀ h15, h15 = uI h14 a0 6 0 → K h15
def wX5_init_L49 (K : AH → Prop)   : Nat → Nat → Int32 → AH → Prop
  | 0 => fun _ _ _ => False
  | n + 1 => fun x0 x1 h =>
  ((13 ≤ x1 → K h) ∧ (¬ 13 ≤ x1 → (isO h x0 3) ∧ (isA h (mR h x0 2) 7) ∧ (mS h 11 = (21, 0)) ∧ (11 < nZ) ∧ (nZ ≤ (mR h x0 2)) ∧ (vp_in x1 (ln h (mR h x0 2))) ∧ ∀ h21, h21 = uR h (mR h x0 2) x1.toNatClampNeg 11 → wX5_init_L49 K   n x0 (x1 + 1) h21))
def wX5_init (a0 : Nat) (h : AH) (K : AH → Prop) : Prop :=
  (¬ a0 = 0) ∧ ∀ h2, h2 = nw h 104 60 → (isO h2 a0 3) ∧ ∀ h4, h4 = uR h2 a0 0 (mN h) → ∀ h5, h5 = uI h4 a0 1 0 → ∀ h6, h6 = nw h5 107 13 → (isO h6 a0 3) ∧ ∀ h8, h8 = uR h6 a0 2 (mN h5) → ∀ h9, h9 = nwM h8 13 3 → (isO h9 a0 3) ∧ ∀ h11, h11 = uR h9 a0 3 (mN h8) → ∀ h12, h12 = uI h11 a0 4 0 → ∀ h13, h13 = uI h12 a0 5 0 → (∃ n22, wX5_init_L49 K  n22 a0 0 h13)
def wJ5_init_d00df (a0 : Nat) (a1 : Int32) (h : AH) (K : AH → Prop) : Prop :=
  (¬ a0 = 0) ∧ ((1 = 0 → False) ∧ (¬ 1 = 0 → (¬ a1 < 0) ∧ (a1.toNatClampNeg ≤ 256) ∧ ∀ h5, h5 = nw h 103 a1.toNatClampNeg → (isO h5 a0 8) ∧ ∀ h7, h7 = uR h5 a0 0 (mN h) → ∀ h8, h8 = uI h7 a0 1 0 → K h8))
def wJ4_init_da8c8 (a0 : Nat) (h : AH) (K : AH → Prop) : Prop :=
  (¬ a0 = 0) ∧ wJ5_init_d00df a0 16 h (fun h1 => K h1)
def wX9_init (a0 : Nat) (h : AH) (K : AH → Prop) : Prop :=
  (¬ a0 = 0) ∧ ∀ h2, h2 = nw h 6 0 → (¬ mN h = 0) ∧ wX7_init (mN h) h2 (fun h3 => (isO h3 a0 0) ∧ ∀ h6, h6 = uR h3 a0 0 (mN h) → ∀ h7, h7 = nw h6 6 0 → (¬ mN h6 = 0) ∧ wX7_init (mN h6) h7 (fun h8 => (isO h8 a0 0) ∧ ∀ h11, h11 = uR h8 a0 1 (mN h6) → ∀ h12, h12 = nw h11 6 0 → (¬ mN h11 = 0) ∧ wX7_init (mN h11) h12 (fun h13 => (isO h13 a0 0) ∧ ∀ h16, h16 = uR h13 a0 2 (mN h11) → ∀ h17, h17 = nw h16 2 0 → (¬ mN h16 = 0) ∧ wX2_init (mN h16) h17 (fun h18 => (isO h18 a0 0) ∧ ∀ h21, h21 = uR h18 a0 3 (mN h16) → ∀ h22, h22 = nw h21 5 0 → (¬ mN h21 = 0) ∧ wX6_init (mN h21) h22 (fun h23 => (isO h23 a0 0) ∧ ∀ h26, h26 = uR h23 a0 4 (mN h21) → ∀ h27, h27 = nw h26 4 0 → (¬ mN h26 = 0) ∧ wX5_init (mN h26) h27 (fun h28 => (isO h28 a0 0) ∧ ∀ h31, h31 = uR h28 a0 5 (mN h26) → ∀ h32, h32 = nw h31 9 0 → (¬ mN h31 = 0) ∧ wJ4_init_da8c8 (mN h31) h32 (fun h33 => (isO h33 a0 0) ∧ ∀ h36, h36 = uR h33 a0 6 (mN h31) → ∀ h37, h37 = uI h36 a0 7 0 → ∀ h38, h38 = uI h37 a0 8 0 → ∀ h39, h39 = uI h38 a0 9 (-1) → ∀ h40, h40 = uI h39 a0 10 (-1) → ∀ h41, h41 = uI h40 a0 11 (-1) → K h41)))))))
def wX4_copyFrom_L102 (K : AH → Prop)   : Nat → Nat → Nat → Int32 → AH → Prop
  | 0 => fun _ _ _ _ => False
  | n + 1 => fun x0 x1 x2 h =>
  ((12 ≤ x2 → K h) ∧ (¬ 12 ≤ x2 → (isO h x1 2) ∧ (isA h (mR h x1 9) 8) ∧ (nZ ≤ (mR h x1 9)) ∧ (vp_in x2 (ln h (mR h x1 9))) ∧ (isO h x0 2) ∧ (isA h (mR h x0 9) 8) ∧ (nZ ≤ (mR h x0 9)) ∧ (vp_in x2 (ln h (mR h x0 9))) ∧ (isA h (mR h (mR h x1 9) x2.toNatClampNeg) 0) ∧ (isA h (mR h (mR h x0 9) x2.toNatClampNeg) 0) ∧ (nZ ≤ (mR h (mR h x1 9) x2.toNatClampNeg)) ∧ (nZ ≤ (mR h (mR h x0 9) x2.toNatClampNeg)) ∧ ((0 : Int32).toNatClampNeg + (12 : Int32).toNatClampNeg ≤ ln h (mR h (mR h x1 9) x2.toNatClampNeg)) ∧ ((0 : Int32).toNatClampNeg + (12 : Int32).toNatClampNeg ≤ ln h (mR h (mR h x0 9) x2.toNatClampNeg)) ∧ ∀ h51, h51 = uA h (mR h (mR h x0 9) x2.toNatClampNeg) (va_cpy (mI h (mR h (mR h x1 9) x2.toNatClampNeg)) (mI h (mR h (mR h x0 9) x2.toNatClampNeg)) (0 : Int32).toNatClampNeg (0 : Int32).toNatClampNeg (12 : Int32).toNatClampNeg) → (isA h (mR h x1 10) 8) ∧ (nZ ≤ (mR h x1 10)) ∧ (vp_in x2 (ln h (mR h x1 10))) ∧ (isA h (mR h x0 10) 8) ∧ (nZ ≤ (mR h x0 10)) ∧ (vp_in x2 (ln h (mR h x0 10))) ∧ (isA h (mR h (mR h x1 10) x2.toNatClampNeg) 0) ∧ (isA h (mR h (mR h x0 10) x2.toNatClampNeg) 0) ∧ (nZ ≤ (mR h (mR h x1 10) x2.toNatClampNeg)) ∧ (nZ ≤ (mR h (mR h x0 10) x2.toNatClampNeg)) ∧ ((0 : Int32).toNatClampNeg + (12 : Int32).toNatClampNeg ≤ ln h (mR h (mR h x1 10) x2.toNatClampNeg)) ∧ ((0 : Int32).toNatClampNeg + (12 : Int32).toNatClampNeg ≤ ln h (mR h (mR h x0 10) x2.toNatClampNeg)) ∧ ∀ h64, h64 = uA h51 (mR h (mR h x0 10) x2.toNatClampNeg) (va_cpy (mI h51 (mR h (mR h x1 10) x2.toNatClampNeg)) (mI h51 (mR h (mR h x0 10) x2.toNatClampNeg)) (0 : Int32).toNatClampNeg (0 : Int32).toNatClampNeg (12 : Int32).toNatClampNeg) → wX4_copyFrom_L102 K   n x0 x1 (x2 + 1) h64))
def wX4_copyFrom (a0 : Nat) (a1 : Nat) (h : AH) (K : AH → Prop) : Prop :=
  (isO h a1 2) ∧ (isO h a0 2) ∧ ∀ h3, h3 = uI h a0 0 (mI h a1 0) → ∀ h4, h4 = uI h3 a0 1 (mI h3 a1 1) → ∀ h5, h5 = uI h4 a0 2 (mI h4 a1 2) → ∀ h6, h6 = uI h5 a0 3 (mI h5 a1 3) → ∀ h7, h7 = uI h6 a0 4 (mI h6 a1 4) → (isA h (mR h a1 5) 0) ∧ (isA h (mR h a0 5) 0) ∧ (nZ ≤ (mR h a1 5)) ∧ (nZ ≤ (mR h a0 5)) ∧ ((0 : Int32).toNatClampNeg + (12 : Int32).toNatClampNeg ≤ ln h (mR h a1 5)) ∧ ((0 : Int32).toNatClampNeg + (12 : Int32).toNatClampNeg ≤ ln h (mR h a0 5)) ∧ ∀ h14, h14 = uA h7 (mR h a0 5) (va_cpy (mI h7 (mR h a1 5)) (mI h7 (mR h a0 5)) (0 : Int32).toNatClampNeg (0 : Int32).toNatClampNeg (12 : Int32).toNatClampNeg) → (isA h (mR h a1 6) 0) ∧ (isA h (mR h a0 6) 0) ∧ (nZ ≤ (mR h a1 6)) ∧ (nZ ≤ (mR h a0 6)) ∧ ((0 : Int32).toNatClampNeg + (12 : Int32).toNatClampNeg ≤ ln h (mR h a1 6)) ∧ ((0 : Int32).toNatClampNeg + (12 : Int32).toNatClampNeg ≤ ln h (mR h a0 6)) ∧ ∀ h21, h21 = uA h14 (mR h a0 6) (va_cpy (mI h14 (mR h a1 6)) (mI h14 (mR h a0 6)) (0 : Int32).toNatClampNeg (0 : Int32).toNatClampNeg (12 : Int32).toNatClampNeg) → (isA h (mR h a1 7) 0) ∧ (isA h (mR h a0 7) 0) ∧ (nZ ≤ (mR h a1 7)) ∧ (nZ ≤ (mR h a0 7)) ∧ ((0 : Int32).toNatClampNeg + (12 : Int32).toNatClampNeg ≤ ln h (mR h a1 7)) ∧ ((0 : Int32).toNatClampNeg + (12 : Int32).toNatClampNeg ≤ ln h (mR h a0 7)) ∧ ∀ h28, h28 = uA h21 (mR h a0 7) (va_cpy (mI h21 (mR h a1 7)) (mI h21 (mR h a0 7)) (0 : Int32).toNatClampNeg (0 : Int32).toNatClampNeg (12 : Int32).toNatClampNeg) → (isA h (mR h a1 8) 0) ∧ (isA h (mR h a0 8) 0) ∧ (nZ ≤ (mR h a1 8)) ∧ (nZ ≤ (mR h a0 8)) ∧ ((0 : Int32).toNatClampNeg + (8 : Int32).toNatClampNeg ≤ ln h (mR h a1 8)) ∧ ((0 : Int32).toNatClampNeg + (8 : Int32).toNatClampNeg ≤ ln h (mR h a0 8)) ∧ ∀ h35, h35 = uA h28 (mR h a0 8) (va_cpy (mI h28 (mR h a1 8)) (mI h28 (mR h a0 8)) (0 : Int32).toNatClampNeg (0 : Int32).toNatClampNeg (8 : Int32).toNatClampNeg) → (∃ n65, wX4_copyFrom_L102 K  n65 a0 a1 0 h35)
def wX8_copyFrom (a0 : Nat) (a1 : Nat) (h : AH) (K : AH → Prop) : Prop :=
  (isO h a1 6) ∧ (isO h a0 6) ∧ ∀ h3, h3 = uI h a0 0 (mI h a1 0) → ∀ h4, h4 = uI h3 a0 1 (mI h3 a1 1) → ∀ h5, h5 = uI h4 a0 2 (mI h4 a1 2) → ∀ h6, h6 = uI h5 a0 3 (mI h5 a1 3) → ∀ h7, h7 = uI h6 a0 4 (mI h6 a1 4) → ∀ h8, h8 = uI h7 a0 5 (mI h7 a1 5) → K h8
def wX7_copyFrom_L13 (K : AH → Prop)   : Nat → Nat → Nat → Int32 → AH → Prop
  | 0 => fun _ _ _ _ => False
  | n + 1 => fun x0 x1 x2 h =>
  ((8 ≤ x2 → (isO h x1 5) ∧ (isO h x0 5) ∧ (isA h (mR h x1 2) 0) ∧ (isA h (mR h x0 2) 0) ∧ (nZ ≤ (mR h x1 2)) ∧ (nZ ≤ (mR h x0 2)) ∧ ((0 : Int32).toNatClampNeg + (8 : Int32).toNatClampNeg ≤ ln h (mR h x1 2)) ∧ ((0 : Int32).toNatClampNeg + (8 : Int32).toNatClampNeg ≤ ln h (mR h x0 2)) ∧ ∀ h14, h14 = uA h (mR h x0 2) (va_cpy (mI h (mR h x1 2)) (mI h (mR h x0 2)) (0 : Int32).toNatClampNeg (0 : Int32).toNatClampNeg (8 : Int32).toNatClampNeg) → ∀ h15, h15 = uI h14 x0 3 (mI h14 x1 3) → ∀ h16, h16 = uI h15 x0 4 (mI h15 x1 4) → ∀ h17, h17 = uI h16 x0 5 (mI h16 x1 5) → ∀ h18, h18 = uI h17 x0 6 (mI h17 x1 6) → ∀ h19, h19 = uI h18 x0 7 (mI h18 x1 7) → ∀ h20, h20 = uL h19 x0 8 (mL h19 x1 8) → K h20) ∧ (¬ 8 ≤ x2 → (isO h x0 5) ∧ (isA h (mR h x0 1) 6) ∧ (vp_in x2 (ln h (mR h x0 1))) ∧ (isO h x1 5) ∧ (isA h (mR h x1 1) 6) ∧ (vp_in x2 (ln h (mR h x1 1))) ∧ (isO h (mR h (mR h x0 1) x2.toNatClampNeg) 6) ∧ wX8_copyFrom (mR h (mR h x0 1) x2.toNatClampNeg) (mR h (mR h x1 1) x2.toNatClampNeg) h (fun h27 => wX7_copyFrom_L13 K   n x0 x1 (x2 + 1) h27)))
def wX7_copyFrom (a0 : Nat) (a1 : Nat) (h : AH) (K : AH → Prop) : Prop :=
  (isO h a0 5) ∧ (isO h a1 5) ∧ (isO h (mR h a0 0) 2) ∧ wX4_copyFrom (mR h a0 0) (mR h a1 0) h (fun h3 => (∃ n30, wX7_copyFrom_L13 K  n30 a0 a1 0 h3))
def wX2_keep (a0 : Nat) (a1 : Nat) (h : AH) (K : AH → Prop) : Prop :=
  (isO h a0 1) ∧ (isA h (mR h a0 0) 5) ∧ (vp_in (mI h a0 1) (ln h (mR h a0 0))) ∧ (isO h (mR h (mR h a0 0) (mI h a0 1).toNatClampNeg) 5) ∧ wX7_copyFrom (mR h (mR h a0 0) (mI h a0 1).toNatClampNeg) a1 h (fun h4 => K h4)
def wJ7_fill_53178_L5 (K : AH → Prop)   : Nat → Nat → Int32 → Int32 → Int32 → AH → Prop
  | 0 => fun _ _ _ _ _ => False
  | n + 1 => fun x0 x1 x2 x3 h =>
  ((x3 ≤ x2 → K h) ∧ (¬ x3 ≤ x2 → (isA h x0 0) ∧ (nZ ≤ x0) ∧ (vp_in x2 (ln h x0)) ∧ ∀ h6, h6 = uI h x0 x2.toNatClampNeg x1 → wJ7_fill_53178_L5 K   n x0 x1 (x2 + 1) x3 h6))
def wJ7_fill_53178 (a0 : Nat) (a1 : Int32) (h : AH) (K : AH → Prop) : Prop :=
  (isA h a0 0) ∧ (∃ n7, wJ7_fill_53178_L5 K  n7 a0 a1 0 (nI (ln h a0)) h)
def wX9_contains (a0 : Int32) (a1 : Int32) (h : AH) (K : Int32 → AH → Prop) : Prop :=
  ((a1 < 0 → K 0 h) ∧ (¬ a1 < 0 → (((a0 &&& (1 <<< (a1 &&& 31))) = 0 → K 0 h) ∧ (¬ (a0 &&& (1 <<< (a1 &&& 31))) = 0 → K 1 h))))
def wX4_nearestBlock_L8 (K : Int32 → AH → Prop)   : Nat → Nat → Int32 → Int32 → Int32 → Int32 → AH → Prop
  | 0 => fun _ _ _ _ _ _ => False
  | n + 1 => fun x0 x1 x2 x3 x4 h =>
  (isO h x0 2) ∧ ((mI h x0 0 ≤ x4 → K x2 h) ∧ (¬ mI h x0 0 ≤ x4 → wX9_contains x1 x4 h (fun r4 h3 => ((¬ r4 = 0 → wX4_nearestBlock_L8 K   n x0 x1 x2 x3 (x4 + 1) h3) ∧ (r4 = 0 → (isO h3 x0 2) ∧ (isA h3 (mR h3 x0 11) 0) ∧ (vp_in x4 (ln h3 (mR h3 x0 11))) ∧ ((x3 ≤ mI h3 (mR h3 x0 11) x4.toNatClampNeg → wX4_nearestBlock_L8 K   n x0 x1 x2 x3 (x4 + 1) h3) ∧ (¬ x3 ≤ mI h3 (mR h3 x0 11) x4.toNatClampNeg → wX4_nearestBlock_L8 K   n x0 x1 x4 (mI h3 (mR h3 x0 11) x4.toNatClampNeg) (x4 + 1) h3)))))))
def wX4_nearestBlock (a0 : Nat) (a1 : Int32) (h : AH) (K : Int32 → AH → Prop) : Prop :=
  (∃ n10, wX4_nearestBlock_L8 K  n10 a0 a1 (-1) 1000000 0 h)
def wX4_has (a0 : Nat) (a1 : Int32) (h : AH) (K : Int32 → AH → Prop) : Prop :=
  ((a1 < 0 → K 0 h) ∧ (¬ a1 < 0 → (isO h a0 2) ∧ ((mI h a0 0 ≤ a1 → K 0 h) ∧ (¬ mI h a0 0 ≤ a1 → K 1 h))))
def wX4_leadsTo (a0 : Nat) (a1 : Int32) (a2 : Int32) (h : AH) (K : Int32 → AH → Prop) : Prop :=
  (isO h a0 2) ∧ wX4_has a0 a1 h (fun r2 h1 => ((r2 = 0 → K 0 h1) ∧ (¬ r2 = 0 → (isO h1 a0 2) ∧ (isA h1 (mR h1 a0 6) 0) ∧ (vp_in a1 (ln h1 (mR h1 a0 6))) ∧ ((mI h1 (mR h1 a0 6) a1.toNatClampNeg = a2 → K 1 h1) ∧ (¬ mI h1 (mR h1 a0 6) a1.toNatClampNeg = a2 → (isA h1 (mR h1 a0 7) 0) ∧ (vp_in a1 (ln h1 (mR h1 a0 7))) ∧ ((¬ mI h1 (mR h1 a0 7) a1.toNatClampNeg = a2 → K 0 h1) ∧ (mI h1 (mR h1 a0 7) a1.toNatClampNeg = a2 → K 1 h1)))))))
def wX4_learnRoutesTo_J176 (K : AH → Prop) (c129 : Nat → Nat → Nat → Int32 → Int32 → Int32 → Int32 → Int32 → AH → Prop) (x0 : Nat) (x2 : Nat) (x3 : Nat) (x4 : Int32) (x5 : Int32) (x6 : Int32) (x8 : Int32) (x9 : Int32) (y0 : Int32) (h : AH) : Prop :=
  ((y0 = 0 → c129 x0 x2 x3 x4 x5 x6 x8 (x9 + 1) h) ∧ (¬ y0 = 0 → (isO h x0 2) ∧ wX4_leadsTo x0 x9 x6 h (fun r42 h41 => ((r42 = 0 → c129 x0 x2 x3 x4 x5 x6 x8 (x9 + 1) h41) ∧ (¬ r42 = 0 → (isO h41 x0 2) ∧ (isA h41 (mR h41 x0 11) 0) ∧ (nZ ≤ (mR h41 x0 11)) ∧ (vp_in x9 (ln h41 (mR h41 x0 11))) ∧ ∀ h48, h48 = uI h41 (mR h41 x0 11) x9.toNatClampNeg x8 → (isA h41 x2 0) ∧ (nZ ≤ x2) ∧ (vp_in x9 (ln h41 x2)) ∧ ∀ h52, h52 = uI h48 x2 x9.toNatClampNeg x6 → c129 x0 x2 x3 x4 x5 x6 x8 (x9 + 1) h52)))))
def wX4_learnRoutesTo_J171 (K : AH → Prop) (c129 : Nat → Nat → Nat → Int32 → Int32 → Int32 → Int32 → Int32 → AH → Prop) (x0 : Nat) (x2 : Nat) (x3 : Nat) (x4 : Int32) (x5 : Int32) (x6 : Int32) (x8 : Int32) (x9 : Int32) (h : AH) : Prop :=
  (wX4_learnRoutesTo_J176 K c129 x0 x2 x3 x4 x5 x6 x8 x9 1 h)
def wX4_learnRoutesTo_J175 (K : AH → Prop) (c129 : Nat → Nat → Nat → Int32 → Int32 → Int32 → Int32 → Int32 → AH → Prop) (x0 : Nat) (x2 : Nat) (x3 : Nat) (x4 : Int32) (x5 : Int32) (x6 : Int32) (x8 : Int32) (x9 : Int32) (h : AH) : Prop :=
  (wX4_learnRoutesTo_J176 K c129 x0 x2 x3 x4 x5 x6 x8 x9 0 h)
def wX4_learnRoutesTo_L129 (K : AH → Prop) (c215 : Nat → Nat → Nat → Int32 → Int32 → AH → Prop)  : Nat → Nat → Nat → Nat → Int32 → Int32 → Int32 → Int32 → Int32 → AH → Prop
  | 0 => fun _ _ _ _ _ _ _ _ _ => False
  | n + 1 => fun x0 x2 x3 x4 x5 x6 x8 x9 h =>
  (isO h x0 2) ∧ ((mI h x0 0 ≤ x9 → c215 x0 x2 x3 x4 x5 h) ∧ (¬ mI h x0 0 ≤ x9 → (isA h (mR h x0 11) 0) ∧ (vp_in x9 (ln h (mR h x0 11))) ∧ ((x8 < mI h (mR h x0 11) x9.toNatClampNeg → (wX4_learnRoutesTo_J171 K (wX4_learnRoutesTo_L129 K c215  n) x0 x2 x3 x4 x5 x6 x8 x9 h)) ∧ (¬ x8 < mI h (mR h x0 11) x9.toNatClampNeg → ((¬ x8 = mI h (mR h x0 11) x9.toNatClampNeg → (wX4_learnRoutesTo_J175 K (wX4_learnRoutesTo_L129 K c215  n) x0 x2 x3 x4 x5 x6 x8 x9 h)) ∧ (x8 = mI h (mR h x0 11) x9.toNatClampNeg → (isA h x2 0) ∧ (vp_in x9 (ln h x2)) ∧ ((mI h x2 x9.toNatClampNeg ≤ x6 → (wX4_learnRoutesTo_J175 K (wX4_learnRoutesTo_L129 K c215  n) x0 x2 x3 x4 x5 x6 x8 x9 h)) ∧ (¬ mI h x2 x9.toNatClampNeg ≤ x6 → (wX4_learnRoutesTo_J171 K (wX4_learnRoutesTo_L129 K c215  n) x0 x2 x3 x4 x5 x6 x8 x9 h)))))))))
def wX4_learnRoutesTo_J104 (K : AH → Prop) (c46 : Nat → Nat → Nat → Int32 → Int32 → AH → Prop) (x0 : Nat) (x2 : Nat) (x3 : Nat) (x4 : Int32) (x5 : Int32) (x6 : Int32) (h : AH) : Prop :=
  (isO h x0 2) ∧ (isA h (mR h x0 11) 0) ∧ (vp_in x6 (ln h (mR h x0 11))) ∧ (isA h (mR h x0 5) 0) ∧ (vp_in x6 (ln h (mR h x0 5))) ∧ ∀ v33 : Int32, v33 = ((mI h (mR h x0 11) x6.toNatClampNeg + (mI h (mR h x0 5) x6.toNatClampNeg * 16)) + 1) → (∃ n64, wX4_learnRoutesTo_L129 K (fun x0_58 x2_59 x3_60 x4_61 x5_62 h63 => c46 x0_58 x2_59 x3_60 x4_61 (x5_62 + 1) h63) n64 x0 x2 x3 x4 x5 x6 v33 0 h)
def wX4_learnRoutesTo_L46 (K : AH → Prop)   : Nat → Nat → Nat → Nat → Int32 → Int32 → AH → Prop
  | 0 => fun _ _ _ _ _ _ => False
  | n + 1 => fun x0 x2 x3 x4 x5 h =>
  (isO h x0 2) ∧ ((mI h x0 0 ≤ x5 → K h) ∧ (¬ mI h x0 0 ≤ x5 → wX4_nearestBlock x0 x4 h (fun r23 h22 => ((¬ r23 = (-1) → (isA h22 x2 0) ∧ (vp_in r23 (ln h22 x2)) ∧ ((mI h22 x2 r23.toNatClampNeg = (-1) → (wX4_learnRoutesTo_J104 K (wX4_learnRoutesTo_L46 K   n) x0 x2 x3 (x4 ||| (1 <<< (r23 &&& 31))) x5 r23 h22)) ∧ (¬ mI h22 x2 r23.toNatClampNeg = (-1) → (isA h22 x3 0) ∧ (vp_in (mI h22 x2 r23.toNatClampNeg) (ln h22 x3)) ∧ (nZ ≤ x3) ∧ (vp_in r23 (ln h22 x3)) ∧ ∀ h69, h69 = uI h22 x3 r23.toNatClampNeg (mI h22 x3 (mI h22 x2 r23.toNatClampNeg).toNatClampNeg ||| (1 <<< (mI h22 x2 r23.toNatClampNeg &&& 31))) → (wX4_learnRoutesTo_J104 K (wX4_learnRoutesTo_L46 K   n) x0 x2 x3 (x4 ||| (1 <<< (r23 &&& 31))) x5 r23 h69)))) ∧ (r23 = (-1) → K h22)))))
def wX4_learnRoutesTo (a0 : Nat) (a1 : Int32) (h : AH) (K : AH → Prop) : Prop :=
  (isO h a0 2) ∧ (isA h (mR h a0 9) 8) ∧ (nZ ≤ (mR h a0 9)) ∧ (vp_in a1 (ln h (mR h a0 9))) ∧ (isA h (mR h a0 10) 8) ∧ (nZ ≤ (mR h a0 10)) ∧ (vp_in a1 (ln h (mR h a0 10))) ∧ wJ7_fill_53178 (mR h (mR h a0 9) a1.toNatClampNeg) (-1) h (fun h8 => wJ7_fill_53178 (mR h (mR h a0 10) a1.toNatClampNeg) 0 h8 (fun h10 => (isO h10 a0 2) ∧ wJ7_fill_53178 (mR h10 a0 11) 1000000 h10 (fun h13 => (isO h13 a0 2) ∧ (isA h13 (mR h13 a0 11) 0) ∧ (nZ ≤ (mR h13 a0 11)) ∧ (vp_in a1 (ln h13 (mR h13 a0 11))) ∧ ∀ h19, h19 = uI h13 (mR h13 a0 11) a1.toNatClampNeg 0 → (∃ n70, wX4_learnRoutesTo_L46 K  n70 a0 (mR h (mR h a0 9) a1.toNatClampNeg) (mR h (mR h a0 10) a1.toNatClampNeg) 0 0 h19))))
def wX4_learnRoutes_L2 (K : AH → Prop)   : Nat → Nat → Int32 → AH → Prop
  | 0 => fun _ _ _ => False
  | n + 1 => fun x0 x1 h =>
  (isO h x0 2) ∧ ((mI h x0 0 ≤ x1 → K h) ∧ (¬ mI h x0 0 ≤ x1 → wX4_learnRoutesTo x0 x1 h (fun h3 => wX4_learnRoutes_L2 K   n x0 (x1 + 1) h3)))
def wX4_learnRoutes (a0 : Nat) (h : AH) (K : AH → Prop) : Prop :=
  (∃ n5, wX4_learnRoutes_L2 K  n5 a0 0 h)
def wX4_makeBlock (a0 : Nat) (a1 : Int32) (h : AH) (K : Int32 → AH → Prop) : Prop :=
  ((a1 < 1 → K (-2) h) ∧ (¬ a1 < 1 → ((a1 ≤ 9 → (isO h a0 2) ∧ ((mI h a0 0 < 12 → (isA h (mR h a0 5) 0) ∧ (nZ ≤ (mR h a0 5)) ∧ (vp_in (mI h a0 0) (ln h (mR h a0 5))) ∧ ∀ h8, h8 = uI h (mR h a0 5) (mI h a0 0).toNatClampNeg a1 → (isA h (mR h a0 6) 0) ∧ (nZ ≤ (mR h a0 6)) ∧ (vp_in (mI h8 a0 0) (ln h (mR h a0 6))) ∧ ∀ h12, h12 = uI h8 (mR h a0 6) (mI h8 a0 0).toNatClampNeg (-1) → (isA h (mR h a0 7) 0) ∧ (nZ ≤ (mR h a0 7)) ∧ (vp_in (mI h12 a0 0) (ln h (mR h a0 7))) ∧ ∀ h16, h16 = uI h12 (mR h a0 7) (mI h12 a0 0).toNatClampNeg (-1) → ∀ h17, h17 = uI h16 a0 0 (mI h16 a0 0 + 1) → wX4_learnRoutes a0 h17 (fun h18 => (isO h18 a0 2) ∧ K (mI h18 a0 0 - 1) h18)) ∧ (¬ mI h a0 0 < 12 → K (-3) h))) ∧ (¬ a1 ≤ 9 → K (-2) h))))
def wX9_throwFor (a0 : Int32) (h : AH) (K : AH → Prop) (T : String → AH → Prop) : Prop :=
  ((¬ a0 = (-1) → ((¬ a0 = (-2) → ((¬ a0 = (-4) → ((¬ a0 = (-5) → T "java/lang/IllegalStateException" h) ∧ (a0 = (-5) → T "java/lang/UnsupportedOperationException" h))) ∧ (a0 = (-4) → T "java/util/NoSuchElementException" h))) ∧ (a0 = (-2) → T "java/lang/IllegalArgumentException" h))) ∧ (a0 = (-1) → T "java/lang/IndexOutOfBoundsException" h))
def wX2_commit (a0 : Nat) (h : AH) (K : AH → Prop) : Prop :=
  (isO h a0 1) ∧ ∀ h2, h2 = uI h a0 1 ((mI h a0 1 + 1) - (mI h a0 1 + 1) / 9 * 9) → ∀ h3, h3 = uI h2 a0 2 (if 8 < (mI h2 a0 2 + 1) then 8 else (mI h2 a0 2 + 1)) → K h3
def wX9_settle_J8 (K : Int32 → AH → Prop) (T : String → AH → Prop)  (x0 : Nat) (x1 : Int32) (h : AH) : Prop :=
  (isO h x0 0) ∧ (isO h (mR h x0 3) 1) ∧ wX2_commit (mR h x0 3) h (fun h3 => K x1 h3)
def wX9_settle (a0 : Nat) (a1 : Int32) (h : AH) (K : Int32 → AH → Prop) (T : String → AH → Prop) : Prop :=
  ((0 ≤ a1 → (wX9_settle_J8 K T a0 a1 h)) ∧ (¬ 0 ≤ a1 → wX9_throwFor a1 h (fun h6 => (wX9_settle_J8 K T a0 a1 h6)) T))
def wX9_addBlock (a0 : Nat) (a1 : Int32) (h : AH) (K : Int32 → AH → Prop) (T : String → AH → Prop) : Prop :=
  (isO h a0 0) ∧ (isO h (mR h a0 3) 1) ∧ wX2_keep (mR h a0 3) (mR h a0 0) h (fun h2 => (isO h2 a0 0) ∧ (isO h2 (mR h2 a0 0) 5) ∧ (isO h2 (mR h2 (mR h2 a0 0) 0) 2) ∧ wX4_makeBlock (mR h2 (mR h2 a0 0) 0) a1 h2 (fun r7 h6 => (isO h6 a0 0) ∧ wX9_settle a0 r7 h6 (fun r9 h8 => K r9 h8) T))
def wX4_hasExit (a0 : Nat) (a1 : Int32) (h : AH) (K : Int32 → AH → Prop) : Prop :=
  (isO h a0 2) ∧ wX4_has a0 a1 h (fun r2 h1 => ((r2 = 0 → K 0 h1) ∧ (¬ r2 = 0 → (isO h1 a0 2) ∧ (isA h1 (mR h1 a0 6) 0) ∧ (vp_in a1 (ln h1 (mR h1 a0 6))) ∧ ((mI h1 (mR h1 a0 6) a1.toNatClampNeg = (-1) → K 0 h1) ∧ (¬ mI h1 (mR h1 a0 6) a1.toNatClampNeg = (-1) → K 1 h1)))))
def wX4_makePoint (a0 : Nat) (a1 : Int32) (a2 : Int32) (a3 : Int32) (h : AH) (K : Int32 → AH → Prop) : Prop :=
  (isO h a0 2) ∧ wX4_has a0 a1 h (fun r2 h1 => ((r2 = 0 → K (-1) h1) ∧ (¬ r2 = 0 → (isO h1 a0 2) ∧ wX4_has a0 a2 h1 (fun r5 h4 => ((r5 = 0 → K (-1) h4) ∧ (¬ r5 = 0 → (isO h4 a0 2) ∧ wX4_has a0 a3 h4 (fun r8 h7 => ((¬ r8 = 0 → ((a1 = a2 → K (-2) h7) ∧ (¬ a1 = a2 → ((a1 = a3 → K (-2) h7) ∧ (¬ a1 = a3 → ((¬ a2 = a3 → (isO h7 a0 2) ∧ ((8 ≤ mI h7 a0 1 → K (-3) h7) ∧ (¬ 8 ≤ mI h7 a0 1 → wX4_hasExit a0 a1 h7 (fun r16 h15 => ((r16 = 0 → (isO h15 a0 2) ∧ (isA h15 (mR h15 a0 6) 0) ∧ (nZ ≤ (mR h15 a0 6)) ∧ (vp_in a1 (ln h15 (mR h15 a0 6))) ∧ ∀ h22, h22 = uI h15 (mR h15 a0 6) a1.toNatClampNeg a2 → (isA h15 (mR h15 a0 7) 0) ∧ (nZ ≤ (mR h15 a0 7)) ∧ (vp_in a1 (ln h15 (mR h15 a0 7))) ∧ ∀ h26, h26 = uI h22 (mR h15 a0 7) a1.toNatClampNeg a3 → (isA h15 (mR h15 a0 8) 0) ∧ (nZ ≤ (mR h15 a0 8)) ∧ (vp_in (mI h26 a0 1) (ln h15 (mR h15 a0 8))) ∧ ∀ h30, h30 = uI h26 (mR h15 a0 8) (mI h26 a0 1).toNatClampNeg a1 → ∀ h31, h31 = uI h30 a0 1 (mI h30 a0 1 + 1) → wX4_learnRoutes a0 h31 (fun h32 => (isO h32 a0 2) ∧ K (mI h32 a0 1 - 1) h32)) ∧ (¬ r16 = 0 → K (-3) h15)))))) ∧ (a2 = a3 → K (-2) h7))))))) ∧ (r8 = 0 → K (-1) h7)))))))))
def wX9_addPoint (a0 : Nat) (a1 : Int32) (a2 : Int32) (a3 : Int32) (h : AH) (K : Int32 → AH → Prop) (T : String → AH → Prop) : Prop :=
  (isO h a0 0) ∧ (isO h (mR h a0 3) 1) ∧ wX2_keep (mR h a0 3) (mR h a0 0) h (fun h2 => (isO h2 a0 0) ∧ (isO h2 (mR h2 a0 0) 5) ∧ (isO h2 (mR h2 (mR h2 a0 0) 0) 2) ∧ wX4_makePoint (mR h2 (mR h2 a0 0) 0) a1 a2 a3 h2 (fun r7 h6 => (isO h6 a0 0) ∧ wX9_settle a0 r7 h6 (fun r9 h8 => K r9 h8) T))
def wX4_makeLink (a0 : Nat) (a1 : Int32) (a2 : Int32) (h : AH) (K : Int32 → AH → Prop) : Prop :=
  (isO h a0 2) ∧ wX4_has a0 a1 h (fun r2 h1 => ((r2 = 0 → K (-1) h1) ∧ (¬ r2 = 0 → (isO h1 a0 2) ∧ wX4_has a0 a2 h1 (fun r5 h4 => ((¬ r5 = 0 → ((¬ a1 = a2 → (isO h4 a0 2) ∧ wX4_hasExit a0 a1 h4 (fun r9 h8 => ((r9 = 0 → (isO h8 a0 2) ∧ (isA h8 (mR h8 a0 6) 0) ∧ (nZ ≤ (mR h8 a0 6)) ∧ (vp_in a1 (ln h8 (mR h8 a0 6))) ∧ ∀ h15, h15 = uI h8 (mR h8 a0 6) a1.toNatClampNeg a2 → (isA h8 (mR h8 a0 7) 0) ∧ (nZ ≤ (mR h8 a0 7)) ∧ (vp_in a1 (ln h8 (mR h8 a0 7))) ∧ ∀ h19, h19 = uI h15 (mR h8 a0 7) a1.toNatClampNeg a2 → ∀ h20, h20 = uI h19 a0 2 (mI h19 a0 2 + 1) → wX4_learnRoutes a0 h20 (fun h21 => (isO h21 a0 2) ∧ K (mI h21 a0 2) h21)) ∧ (¬ r9 = 0 → K (-3) h8)))) ∧ (a1 = a2 → K (-2) h4))) ∧ (r5 = 0 → K (-1) h4))))))
def wX9_addLink (a0 : Nat) (a1 : Int32) (a2 : Int32) (h : AH) (K : Int32 → AH → Prop) (T : String → AH → Prop) : Prop :=
  (isO h a0 0) ∧ (isO h (mR h a0 3) 1) ∧ wX2_keep (mR h a0 3) (mR h a0 0) h (fun h2 => (isO h2 a0 0) ∧ (isO h2 (mR h2 a0 0) 5) ∧ (isO h2 (mR h2 (mR h2 a0 0) 0) 2) ∧ wX4_makeLink (mR h2 (mR h2 a0 0) 0) a1 a2 h2 (fun r7 h6 => (isO h6 a0 0) ∧ wX9_settle a0 r7 h6 (fun r9 h8 => K r9 h8) T))
def wX7_isReserved_L2 (K : Int32 → AH → Prop)   : Nat → Nat → Int32 → Int32 → AH → Prop
  | 0 => fun _ _ _ _ => False
  | n + 1 => fun x0 x1 x2 h =>
  (isO h x0 5) ∧ ((mI h x0 3 ≤ x2 → K 0 h) ∧ (¬ mI h x0 3 ≤ x2 → (isA h (mR h x0 1) 6) ∧ (vp_in x2 (ln h (mR h x0 1))) ∧ (isO h (mR h (mR h x0 1) x2.toNatClampNeg) 6) ∧ wX9_contains (mI h (mR h (mR h x0 1) x2.toNatClampNeg) 3) x1 h (fun r7 h6 => ((r7 = 0 → wX7_isReserved_L2 K   n x0 x1 (x2 + 1) h6) ∧ (¬ r7 = 0 → K 1 h6)))))
def wX7_isReserved (a0 : Nat) (a1 : Int32) (h : AH) (K : Int32 → AH → Prop) : Prop :=
  (∃ n9, wX7_isReserved_L2 K  n9 a0 a1 0 h)
def wJ6_bitCount_0f7a4 (a0 : Int32) (h : AH) (K : Int32 → AH → Prop) : Prop :=
  ∀ v1 : Int32, v1 = (a0 - ((a0.toUInt32 >>> (1.toUInt32 &&& Int32.toUInt32 31)).toInt32 &&& 1431655765)) → ∀ v3 : Int32, v3 = ((v1 &&& 858993459) + ((v1.toUInt32 >>> (2.toUInt32 &&& Int32.toUInt32 31)).toInt32 &&& 858993459)) → ∀ v5 : Int32, v5 = ((v3 + (v3.toUInt32 >>> (4.toUInt32 &&& Int32.toUInt32 31)).toInt32) &&& 252645135) → ∀ v7 : Int32, v7 = (v5 + (v5.toUInt32 >>> (8.toUInt32 &&& Int32.toUInt32 31)).toInt32) → ∀ v9 : Int32, v9 = (v7 + (v7.toUInt32 >>> (16.toUInt32 &&& Int32.toUInt32 31)).toInt32) → K (v9 &&& 63) h
def wX7_shutBlock (a0 : Nat) (a1 : Int32) (h : AH) (K : Int32 → AH → Prop) : Prop :=
  (isO h a0 5) ∧ (isO h (mR h a0 0) 2) ∧ wX4_has (mR h a0 0) a1 h (fun r3 h2 => ((¬ r3 = 0 → (isO h2 a0 5) ∧ (isO h2 (mR h2 a0 0) 2) ∧ wX9_contains (mI h2 (mR h2 a0 0) 3) a1 h2 (fun r8 h7 => ((¬ r8 = 0 → K (-3) h7) ∧ (r8 = 0 → (isO h7 a0 5) ∧ wX7_isReserved a0 a1 h7 (fun r11 h10 => ((r11 = 0 → (isO h10 a0 5) ∧ (isO h10 (mR h10 a0 0) 2) ∧ ∀ h15, h15 = uI h10 (mR h10 a0 0) 3 (mI h10 (mR h10 a0 0) 3 ||| (1 <<< (a1 &&& 31))) → wJ6_bitCount_0f7a4 (mI h15 (mR h10 a0 0) 3) h15 (fun r17 h16 => K r17 h16)) ∧ (¬ r11 = 0 → K (-3) h10))))))) ∧ (r3 = 0 → K (-1) h2)))
def wX9_shut (a0 : Nat) (a1 : Int32) (h : AH) (K : Int32 → AH → Prop) (T : String → AH → Prop) : Prop :=
  (isO h a0 0) ∧ (isO h (mR h a0 3) 1) ∧ wX2_keep (mR h a0 3) (mR h a0 0) h (fun h2 => (isO h2 a0 0) ∧ (isO h2 (mR h2 a0 0) 5) ∧ wX7_shutBlock (mR h2 a0 0) a1 h2 (fun r6 h5 => (isO h5 a0 0) ∧ wX9_settle a0 r6 h5 (fun r8 h7 => K r8 h7) T))
def wX7_openBlock (a0 : Nat) (a1 : Int32) (h : AH) (K : Int32 → AH → Prop) : Prop :=
  (isO h a0 5) ∧ (isO h (mR h a0 0) 2) ∧ wX4_has (mR h a0 0) a1 h (fun r3 h2 => ((¬ r3 = 0 → (isO h2 a0 5) ∧ (isO h2 (mR h2 a0 0) 2) ∧ wX9_contains (mI h2 (mR h2 a0 0) 3) a1 h2 (fun r8 h7 => ((¬ r8 = 0 → (isO h7 a0 5) ∧ (isO h7 (mR h7 a0 0) 2) ∧ ∀ h12, h12 = uI h7 (mR h7 a0 0) 3 (mI h7 (mR h7 a0 0) 3 &&& ((1 <<< (a1 &&& 31)) ^^^ (-1))) → wJ6_bitCount_0f7a4 (mI h12 (mR h7 a0 0) 3) h12 (fun r14 h13 => K r14 h13)) ∧ (r8 = 0 → K (-3) h7)))) ∧ (r3 = 0 → K (-1) h2)))
def wX9_open (a0 : Nat) (a1 : Int32) (h : AH) (K : Int32 → AH → Prop) (T : String → AH → Prop) : Prop :=
  (isO h a0 0) ∧ (isO h (mR h a0 3) 1) ∧ wX2_keep (mR h a0 3) (mR h a0 0) h (fun h2 => (isO h2 a0 0) ∧ (isO h2 (mR h2 a0 0) 5) ∧ wX7_openBlock (mR h2 a0 0) a1 h2 (fun r6 h5 => (isO h5 a0 0) ∧ wX9_settle a0 r6 h5 (fun r8 h7 => K r8 h7) T))
def wX4_hasPoint (a0 : Nat) (a1 : Int32) (h : AH) (K : Int32 → AH → Prop) : Prop :=
  ((a1 < 0 → K 0 h) ∧ (¬ a1 < 0 → (isO h a0 2) ∧ ((mI h a0 1 ≤ a1 → K 0 h) ∧ (¬ mI h a0 1 ≤ a1 → K 1 h))))
def wX4_stemOf (a0 : Nat) (a1 : Int32) (h : AH) (K : Int32 → AH → Prop) : Prop :=
  (isO h a0 2) ∧ wX4_hasPoint a0 a1 h (fun r2 h1 => ((r2 = 0 → K (-1) h1) ∧ (¬ r2 = 0 → (isO h1 a0 2) ∧ (isA h1 (mR h1 a0 8) 0) ∧ (vp_in a1 (ln h1 (mR h1 a0 8))) ∧ K (mI h1 (mR h1 a0 8) a1.toNatClampNeg) h1)))
def wX8_isRouted (a0 : Nat) (h : AH) (K : Int32 → AH → Prop) : Prop :=
  (isO h a0 6) ∧ ((mI h a0 3 = 0 → K 0 h) ∧ (¬ mI h a0 3 = 0 → K 1 h))
def wX8_held (a0 : Nat) (h : AH) (K : Int32 → AH → Prop) : Prop :=
  (isO h a0 6) ∧ K (mI h a0 3 ||| (1 <<< (mI h a0 1 &&& 31))) h
def wX8_locks (a0 : Nat) (a1 : Int32) (h : AH) (K : Int32 → AH → Prop) : Prop :=
  (isO h a0 6) ∧ wX8_isRouted a0 h (fun r2 h1 => ((r2 = 0 → K 0 h1) ∧ (¬ r2 = 0 → (isO h1 a0 6) ∧ ((a1 = mI h1 a0 2 → K 0 h1) ∧ (¬ a1 = mI h1 a0 2 → wX8_held a0 h1 (fun r7 h6 => wX9_contains r7 a1 h6 (fun r9 h8 => ((r9 = 0 → K 0 h8) ∧ (¬ r9 = 0 → K 1 h8)))))))))
def wX7_lockerOf_L11 (K : Int32 → AH → Prop)   : Nat → Nat → Int32 → Int32 → AH → Prop
  | 0 => fun _ _ _ _ => False
  | n + 1 => fun x0 x2 x3 h =>
  (isO h x0 5) ∧ ((mI h x0 3 ≤ x3 → K (-1) h) ∧ (¬ mI h x0 3 ≤ x3 → (isA h (mR h x0 1) 6) ∧ (vp_in x3 (ln h (mR h x0 1))) ∧ (isO h (mR h (mR h x0 1) x3.toNatClampNeg) 6) ∧ wX8_locks (mR h (mR h x0 1) x3.toNatClampNeg) x2 h (fun r9 h8 => ((r9 = 0 → wX7_lockerOf_L11 K   n x0 x2 (x3 + 1) h8) ∧ (¬ r9 = 0 → (isO h8 x0 5) ∧ (isA h8 (mR h8 x0 1) 6) ∧ (vp_in x3 (ln h8 (mR h8 x0 1))) ∧ (isO h8 (mR h8 (mR h8 x0 1) x3.toNatClampNeg) 6) ∧ K (mI h8 (mR h8 (mR h8 x0 1) x3.toNatClampNeg) 0) h8)))))
def wX7_lockerOf (a0 : Nat) (a1 : Int32) (h : AH) (K : Int32 → AH → Prop) : Prop :=
  (isO h a0 5) ∧ (isO h (mR h a0 0) 2) ∧ wX4_stemOf (mR h a0 0) a1 h (fun r3 h2 => (∃ n16, wX7_lockerOf_L11 K  n16 a0 r3 0 h2))
def wX4_turn (a0 : Nat) (a1 : Int32) (h : AH) (K : AH → Prop) : Prop :=
  (isO h a0 2) ∧ wX4_hasPoint a0 a1 h (fun r2 h1 => ((r2 = 0 → K h1) ∧ (¬ r2 = 0 → (isO h1 a0 2) ∧ wX4_stemOf a0 a1 h1 (fun r6 h5 => (isO h5 a0 2) ∧ ∀ h8, h8 = uI h5 a0 4 (mI h1 a0 4 ^^^ (1 <<< (r6 &&& 31))) → K h8))))
def wX4_pointsLeft (a0 : Nat) (a1 : Int32) (h : AH) (K : Int32 → AH → Prop) : Prop :=
  (isO h a0 2) ∧ wX4_stemOf a0 a1 h (fun r3 h2 => wX9_contains (mI h a0 4) r3 h2 (fun r5 h4 => ((¬ r5 = 0 → K 0 h4) ∧ (r5 = 0 → K 1 h4))))
def wX7_movePoint (a0 : Nat) (a1 : Int32) (h : AH) (K : Int32 → AH → Prop) : Prop :=
  (isO h a0 5) ∧ (isO h (mR h a0 0) 2) ∧ wX4_hasPoint (mR h a0 0) a1 h (fun r3 h2 => ((¬ r3 = 0 → (isO h2 a0 5) ∧ wX7_lockerOf a0 a1 h2 (fun r6 h5 => ((r6 = (-1) → (isO h5 a0 5) ∧ (isO h5 (mR h5 a0 0) 2) ∧ wX4_turn (mR h5 a0 0) a1 h5 (fun h9 => (isO h9 a0 5) ∧ (isO h9 (mR h9 a0 0) 2) ∧ wX4_pointsLeft (mR h9 a0 0) a1 h9 (fun r13 h12 => ((r13 = 0 → K 0 h12) ∧ (¬ r13 = 0 → K 1 h12))))) ∧ (¬ r6 = (-1) → K (-3) h5)))) ∧ (r3 = 0 → K (-1) h2)))
def wX9_throwPoint (a0 : Nat) (a1 : Int32) (h : AH) (K : Int32 → AH → Prop) (T : String → AH → Prop) : Prop :=
  (isO h a0 0) ∧ (isO h (mR h a0 3) 1) ∧ wX2_keep (mR h a0 3) (mR h a0 0) h (fun h2 => (isO h2 a0 0) ∧ (isO h2 (mR h2 a0 0) 5) ∧ wX7_movePoint (mR h2 a0 0) a1 h2 (fun r6 h5 => (isO h5 a0 0) ∧ wX9_settle a0 r6 h5 (fun r8 h7 => ((¬ r8 = 1 → K 0 h7) ∧ (r8 = 1 → K 1 h7))) T))
def wX7_held_L4 (K : Int32 → AH → Prop)   : Nat → Nat → Int32 → Int32 → AH → Prop
  | 0 => fun _ _ _ _ => False
  | n + 1 => fun x0 x1 x2 h =>
  (isO h x0 5) ∧ ((mI h x0 3 ≤ x2 → K x1 h) ∧ (¬ mI h x0 3 ≤ x2 → (isA h (mR h x0 1) 6) ∧ (vp_in x2 (ln h (mR h x0 1))) ∧ (isO h (mR h (mR h x0 1) x2.toNatClampNeg) 6) ∧ wX8_held (mR h (mR h x0 1) x2.toNatClampNeg) h (fun r6 h5 => wX7_held_L4 K   n x0 (x1 ||| r6) (x2 + 1) h5)))
def wX7_held (a0 : Nat) (h : AH) (K : Int32 → AH → Prop) : Prop :=
  (∃ n8, wX7_held_L4 K  n8 a0 0 0 h)
def wX8_begin (a0 : Nat) (a1 : Int32) (a2 : Int32) (a3 : Int32) (h : AH) (K : AH → Prop) : Prop :=
  (isO h a0 6) ∧ ∀ h2, h2 = uI h a0 0 a1 → ∀ h3, h3 = uI h2 a0 1 a2 → ∀ h4, h4 = uI h3 a0 2 a3 → ∀ h5, h5 = uI h4 a0 3 0 → ∀ h6, h6 = uI h5 a0 4 0 → ∀ h7, h7 = uI h6 a0 5 0 → K h7
def wX7_joinQueue (a0 : Nat) (a1 : Int32) (h : AH) (K : AH → Prop) : Prop :=
  (isO h a0 5) ∧ ((8 ≤ mI h a0 4 → K h) ∧ (¬ 8 ≤ mI h a0 4 → (isA h (mR h a0 2) 0) ∧ (nZ ≤ (mR h a0 2)) ∧ (vp_in (mI h a0 4) (ln h (mR h a0 2))) ∧ ∀ h6, h6 = uI h (mR h a0 2) (mI h a0 4).toNatClampNeg a1 → ∀ h7, h7 = uI h6 a0 4 (mI h6 a0 4 + 1) → K h7))
def wX7_bringTrain (a0 : Nat) (a1 : Int32) (a2 : Int32) (h : AH) (K : Int32 → AH → Prop) : Prop :=
  (isO h a0 5) ∧ (isO h (mR h a0 0) 2) ∧ wX4_has (mR h a0 0) a1 h (fun r3 h2 => ((r3 = 0 → K (-1) h2) ∧ (¬ r3 = 0 → (isO h2 a0 5) ∧ (isO h2 (mR h2 a0 0) 2) ∧ wX4_has (mR h2 a0 0) a2 h2 (fun r7 h6 => ((¬ r7 = 0 → ((¬ a1 = a2 → (isO h6 a0 5) ∧ ((8 ≤ mI h6 a0 3 → K (-3) h6) ∧ (¬ 8 ≤ mI h6 a0 3 → (isO h6 (mR h6 a0 0) 2) ∧ wX7_held a0 h6 (fun r14 h13 => wX9_contains (mI h6 (mR h6 a0 0) 3 ||| r14) a1 h13 (fun r16 h15 => ((r16 = 0 → (isO h15 a0 5) ∧ (isA h15 (mR h15 a0 1) 6) ∧ (vp_in (mI h15 a0 3) (ln h15 (mR h15 a0 1))) ∧ (isO h15 (mR h15 (mR h15 a0 1) (mI h15 a0 3).toNatClampNeg) 6) ∧ wX8_begin (mR h15 (mR h15 a0 1) (mI h15 a0 3).toNatClampNeg) (mI h15 a0 5) a1 a2 h15 (fun h21 => (isO h21 a0 5) ∧ ∀ h24, h24 = uI h21 a0 3 (mI h21 a0 3 + 1) → ∀ h25, h25 = uI h24 a0 5 (mI h24 a0 5 + 1) → wX7_joinQueue a0 (mI h15 a0 5) h25 (fun h26 => K (mI h15 a0 5) h26))) ∧ (¬ r16 = 0 → K (-3) h15))))))) ∧ (a1 = a2 → K (-2) h6))) ∧ (r7 = 0 → K (-1) h6))))))
def wX9_addTrain (a0 : Nat) (a1 : Int32) (a2 : Int32) (h : AH) (K : Int32 → AH → Prop) (T : String → AH → Prop) : Prop :=
  (isO h a0 0) ∧ (isO h (mR h a0 3) 1) ∧ wX2_keep (mR h a0 3) (mR h a0 0) h (fun h2 => (isO h2 a0 0) ∧ (isO h2 (mR h2 a0 0) 5) ∧ wX7_bringTrain (mR h2 a0 0) a1 a2 h2 (fun r6 h5 => (isO h5 a0 0) ∧ wX9_settle a0 r6 h5 (fun r8 h7 => K r8 h7) T))
def wX7_find_L2 (K : Nat → AH → Prop)   : Nat → Nat → Int32 → Int32 → AH → Prop
  | 0 => fun _ _ _ _ => False
  | n + 1 => fun x0 x1 x2 h =>
  (isO h x0 5) ∧ ((mI h x0 3 ≤ x2 → K 0 h) ∧ (¬ mI h x0 3 ≤ x2 → (isA h (mR h x0 1) 6) ∧ (vp_in x2 (ln h (mR h x0 1))) ∧ (isO h (mR h (mR h x0 1) x2.toNatClampNeg) 6) ∧ ((¬ mI h (mR h (mR h x0 1) x2.toNatClampNeg) 0 = x1 → wX7_find_L2 K   n x0 x1 (x2 + 1) h) ∧ (mI h (mR h (mR h x0 1) x2.toNatClampNeg) 0 = x1 → K (mR h (mR h x0 1) x2.toNatClampNeg) h))))
def wX7_find (a0 : Nat) (a1 : Int32) (h : AH) (K : Nat → AH → Prop) : Prop :=
  (∃ n7, wX7_find_L2 K  n7 a0 a1 0 h)
def wX4_routeBlocks (a0 : Nat) (a1 : Int32) (a2 : Int32) (h : AH) (K : Int32 → AH → Prop) : Prop :=
  (isO h a0 2) ∧ wX4_has a0 a1 h (fun r2 h1 => ((r2 = 0 → K 0 h1) ∧ (¬ r2 = 0 → (isO h1 a0 2) ∧ wX4_has a0 a2 h1 (fun r5 h4 => ((r5 = 0 → K 0 h4) ∧ (¬ r5 = 0 → (isO h4 a0 2) ∧ (isA h4 (mR h4 a0 10) 8) ∧ (nZ ≤ (mR h4 a0 10)) ∧ (vp_in a2 (ln h4 (mR h4 a0 10))) ∧ (isA h4 (mR h4 (mR h4 a0 10) a2.toNatClampNeg) 0) ∧ (vp_in a1 (ln h4 (mR h4 (mR h4 a0 10) a2.toNatClampNeg))) ∧ K (mI h4 (mR h4 (mR h4 a0 10) a2.toNatClampNeg) a1.toNatClampNeg) h4))))))
def wX7_canSet (a0 : Nat) (a1 : Nat) (h : AH) (K : Int32 → AH → Prop) : Prop :=
  (isO h a0 5) ∧ (isO h a1 6) ∧ (isO h (mR h a0 0) 2) ∧ wX4_routeBlocks (mR h a0 0) (mI h a1 1) (mI h a1 2) h (fun r4 h3 => (isO h3 a1 6) ∧ wX8_isRouted a1 h3 (fun r6 h5 => ((¬ r6 = 0 → K 0 h5) ∧ (r6 = 0 → ((r4 = 0 → K 0 h5) ∧ (¬ r4 = 0 → (isO h5 a0 5) ∧ (isO h5 (mR h5 a0 0) 2) ∧ wX7_held a0 h5 (fun r12 h11 => ((¬ (r4 &&& (mI h5 (mR h5 a0 0) 3 ||| r12)) = 0 → K 0 h11) ∧ ((r4 &&& (mI h5 (mR h5 a0 0) 3 ||| r12)) = 0 → K 1 h11)))))))))
def wX7_leaveQueue_L4 (K : AH → Prop)   : Nat → Nat → Int32 → Int32 → Int32 → AH → Prop
  | 0 => fun _ _ _ _ _ => False
  | n + 1 => fun x0 x1 x2 x3 h =>
  (isO h x0 5) ∧ ((mI h x0 4 ≤ x3 → ∀ h3, h3 = uI h x0 4 x2 → K h3) ∧ (¬ mI h x0 4 ≤ x3 → (isA h (mR h x0 2) 0) ∧ (vp_in x3 (ln h (mR h x0 2))) ∧ ((mI h (mR h x0 2) x3.toNatClampNeg = x1 → wX7_leaveQueue_L4 K   n x0 x1 x2 (x3 + 1) h) ∧ (¬ mI h (mR h x0 2) x3.toNatClampNeg = x1 → (nZ ≤ (mR h x0 2)) ∧ (vp_in x2 (ln h (mR h x0 2))) ∧ ∀ h9, h9 = uI h (mR h x0 2) x2.toNatClampNeg (mI h (mR h x0 2) x3.toNatClampNeg) → wX7_leaveQueue_L4 K   n x0 x1 (x2 + 1) (x3 + 1) h9))))
def wX7_leaveQueue (a0 : Nat) (a1 : Int32) (h : AH) (K : AH → Prop) : Prop :=
  (∃ n10, wX7_leaveQueue_L4 K  n10 a0 a1 0 0 h)
def wX4_turnForRoute_L5 (K : AH → Prop)   : Nat → Nat → Int32 → Int32 → Int32 → AH → Prop
  | 0 => fun _ _ _ _ _ => False
  | n + 1 => fun x0 x2 x3 x4 h =>
  ((12 ≤ x4 → K h) ∧ (¬ 12 ≤ x4 → (isO h x0 2) ∧ wX4_has x0 x3 h (fun r3 h2 => ((r3 = 0 → K h2) ∧ (¬ r3 = 0 → (isO h2 x0 2) ∧ wX4_has x0 x2 h2 (fun r6 h5 => ((r6 = 0 → K h5) ∧ (¬ r6 = 0 → ((x3 = x2 → K h5) ∧ (¬ x3 = x2 → (isO h5 x0 2) ∧ (isA h5 (mR h5 x0 9) 8) ∧ (nZ ≤ (mR h5 x0 9)) ∧ (vp_in x2 (ln h5 (mR h5 x0 9))) ∧ (isA h5 (mR h5 (mR h5 x0 9) x2.toNatClampNeg) 0) ∧ (vp_in x3 (ln h5 (mR h5 (mR h5 x0 9) x2.toNatClampNeg))) ∧ ∀ v15 : Int32, v15 = mI h5 (mR h5 (mR h5 x0 9) x2.toNatClampNeg) x3.toNatClampNeg → (isA h5 (mR h5 x0 6) 0) ∧ (vp_in x3 (ln h5 (mR h5 x0 6))) ∧ ((¬ mI h5 (mR h5 x0 6) x3.toNatClampNeg = v15 → (isA h5 (mR h5 x0 7) 0) ∧ (vp_in x3 (ln h5 (mR h5 x0 7))) ∧ ((¬ mI h5 (mR h5 x0 7) x3.toNatClampNeg = v15 → wX4_turnForRoute_L5 K   n x0 x2 v15 (x4 + 1) h5) ∧ (mI h5 (mR h5 x0 7) x3.toNatClampNeg = v15 → ∀ h23, h23 = uI h5 x0 4 (mI h5 x0 4 ||| (1 <<< (x3 &&& 31))) → wX4_turnForRoute_L5 K   n x0 x2 v15 (x4 + 1) h23))) ∧ (mI h5 (mR h5 x0 6) x3.toNatClampNeg = v15 → ∀ h24, h24 = uI h5 x0 4 (mI h5 x0 4 &&& ((1 <<< (x3 &&& 31)) ^^^ (-1))) → wX4_turnForRoute_L5 K   n x0 x2 v15 (x4 + 1) h24))))))))))))
def wX4_turnForRoute (a0 : Nat) (a1 : Int32) (a2 : Int32) (h : AH) (K : AH → Prop) : Prop :=
  (∃ n27, wX4_turnForRoute_L5 K  n27 a0 a2 a1 0 h)
def wX4_exitOf (a0 : Nat) (a1 : Int32) (h : AH) (K : Int32 → AH → Prop) : Prop :=
  (isO h a0 2) ∧ wX4_has a0 a1 h (fun r2 h1 => ((¬ r2 = 0 → (isO h1 a0 2) ∧ wX9_contains (mI h1 a0 4) a1 h1 (fun r6 h5 => ((r6 = 0 → (isO h5 a0 2) ∧ (isA h5 (mR h5 a0 6) 0) ∧ (vp_in a1 (ln h5 (mR h5 a0 6))) ∧ K (mI h5 (mR h5 a0 6) a1.toNatClampNeg) h5) ∧ (¬ r6 = 0 → (isO h5 a0 2) ∧ (isA h5 (mR h5 a0 7) 0) ∧ (vp_in a1 (ln h5 (mR h5 a0 7))) ∧ K (mI h5 (mR h5 a0 7) a1.toNatClampNeg) h5)))) ∧ (r2 = 0 → K (-1) h1)))
def wX4_lengthOf (a0 : Nat) (a1 : Int32) (h : AH) (K : Int32 → AH → Prop) : Prop :=
  (isO h a0 2) ∧ wX4_has a0 a1 h (fun r2 h1 => ((r2 = 0 → K 0 h1) ∧ (¬ r2 = 0 → (isO h1 a0 2) ∧ (isA h1 (mR h1 a0 5) 0) ∧ (vp_in a1 (ln h1 (mR h1 a0 5))) ∧ K (mI h1 (mR h1 a0 5) a1.toNatClampNeg) h1)))
def wX7_reserveRoute (a0 : Nat) (a1 : Nat) (h : AH) (K : AH → Prop) : Prop :=
  (isO h a0 5) ∧ (isO h a1 6) ∧ (isO h (mR h a0 0) 2) ∧ wX4_turnForRoute (mR h a0 0) (mI h a1 1) (mI h a1 2) h (fun h3 => (isO h3 a0 5) ∧ (isO h3 a1 6) ∧ (isO h3 (mR h3 a0 0) 2) ∧ wX4_routeBlocks (mR h3 a0 0) (mI h3 a1 1) (mI h3 a1 2) h3 (fun r8 h7 => (isO h7 a1 6) ∧ ∀ h10, h10 = uI h7 a1 3 r8 → (isO h7 a0 5) ∧ (isO h7 (mR h7 a0 0) 2) ∧ wX4_exitOf (mR h7 a0 0) (mI h10 a1 1) h10 (fun r13 h12 => (isO h12 (mR h7 a0 0) 2) ∧ wX4_lengthOf (mR h7 a0 0) r13 h12 (fun r15 h14 => (isO h14 a1 6) ∧ ∀ h17, h17 = uI h14 a1 4 (mI h10 a0 7 + r15) → K h17))))
def wX4_totalLength_L4 (K : Int32 → AH → Prop)   : Nat → Nat → Int32 → Int32 → Int32 → AH → Prop
  | 0 => fun _ _ _ _ _ => False
  | n + 1 => fun x0 x1 x2 x3 h =>
  (isO h x0 2) ∧ ((mI h x0 0 ≤ x3 → K x2 h) ∧ (¬ mI h x0 0 ≤ x3 → wX9_contains x1 x3 h (fun r4 h3 => ((r4 = 0 → wX4_totalLength_L4 K   n x0 x1 x2 (x3 + 1) h3) ∧ (¬ r4 = 0 → (isO h3 x0 2) ∧ (isA h3 (mR h3 x0 5) 0) ∧ (vp_in x3 (ln h3 (mR h3 x0 5))) ∧ ∀ v9 : Int32, v9 = (x2 + mI h3 (mR h3 x0 5) x3.toNatClampNeg) → wX4_totalLength_L4 K   n x0 x1 v9 (x3 + 1) h3)))))
def wX4_totalLength (a0 : Nat) (a1 : Int32) (h : AH) (K : Int32 → AH → Prop) : Prop :=
  (∃ n11, wX4_totalLength_L4 K  n11 a0 a1 0 0 h)
def wX7_grantRoute (a0 : Nat) (a1 : Int32) (h : AH) (K : Int32 → AH → Prop) : Prop :=
  (isO h a0 5) ∧ wX7_find a0 a1 h (fun r2 h1 => ((r2 = 0 → K (-4) h1) ∧ (¬ r2 = 0 → (isO h1 r2 6) ∧ wX8_isRouted r2 h1 (fun r5 h4 => ((r5 = 0 → (isO h4 a0 5) ∧ wX7_canSet a0 r2 h4 (fun r8 h7 => ((¬ r8 = 0 → (isO h7 a0 5) ∧ wX7_leaveQueue a0 a1 h7 (fun h10 => (isO h10 a0 5) ∧ wX7_reserveRoute a0 r2 h10 (fun h12 => (isO h12 a0 5) ∧ (isO h12 r2 6) ∧ (isO h12 (mR h12 a0 0) 2) ∧ wX4_totalLength (mR h12 a0 0) (mI h12 r2 3) h12 (fun r17 h16 => K r17 h16)))) ∧ (r8 = 0 → K (-5) h7)))) ∧ (¬ r5 = 0 → K (-3) h4))))))
def wX4_nextOnRoute (a0 : Nat) (a1 : Int32) (a2 : Int32) (h : AH) (K : Int32 → AH → Prop) : Prop :=
  (isO h a0 2) ∧ wX4_has a0 a1 h (fun r2 h1 => ((r2 = 0 → K (-1) h1) ∧ (¬ r2 = 0 → (isO h1 a0 2) ∧ wX4_has a0 a2 h1 (fun r5 h4 => ((r5 = 0 → K (-1) h4) ∧ (¬ r5 = 0 → (isO h4 a0 2) ∧ (isA h4 (mR h4 a0 9) 8) ∧ (nZ ≤ (mR h4 a0 9)) ∧ (vp_in a2 (ln h4 (mR h4 a0 9))) ∧ (isA h4 (mR h4 (mR h4 a0 9) a2.toNatClampNeg) 0) ∧ (vp_in a1 (ln h4 (mR h4 (mR h4 a0 9) a2.toNatClampNeg))) ∧ K (mI h4 (mR h4 (mR h4 a0 9) a2.toNatClampNeg) a1.toNatClampNeg) h4))))))
def wX7_firstNotFree_L32 (K : Int32 → AH → Prop)   : Nat → Nat → Nat → Int32 → Int32 → Int32 → AH → Prop
  | 0 => fun _ _ _ _ _ _ => False
  | n + 1 => fun x0 x1 x2 x3 x4 h =>
  ((12 ≤ x4 → K (-1) h) ∧ (¬ 12 ≤ x4 → ((x3 = (-1) → K (-1) h) ∧ (¬ x3 = (-1) → wX9_contains x2 x3 h (fun r12 h11 => ((r12 = 0 → (isO h11 x0 5) ∧ (isO h11 x1 6) ∧ (isO h11 (mR h11 x0 0) 2) ∧ wX4_nextOnRoute (mR h11 x0 0) x3 (mI h11 x1 2) h11 (fun r17 h16 => wX7_firstNotFree_L32 K   n x0 x1 x2 r17 (x4 + 1) h16)) ∧ (¬ r12 = 0 → K x3 h11)))))))
def wX7_firstNotFree (a0 : Nat) (a1 : Nat) (h : AH) (K : Int32 → AH → Prop) : Prop :=
  (isO h a0 5) ∧ (isO h (mR h a0 0) 2) ∧ wX7_held a0 h (fun r4 h3 => (isO h3 a0 5) ∧ (isO h3 a1 6) ∧ (isO h3 (mR h3 a0 0) 2) ∧ wX4_nextOnRoute (mR h3 a0 0) (mI h3 a1 1) (mI h3 a1 2) h3 (fun r8 h7 => (∃ n19, wX7_firstNotFree_L32 K  n19 a0 a1 (mI h (mR h a0 0) 3 ||| r4) r8 0 h7)))
def wX7_stateOf (a0 : Nat) (a1 : Int32) (h : AH) (K : Int32 → AH → Prop) : Prop :=
  (isO h a0 5) ∧ (isO h (mR h a0 0) 2) ∧ wX9_contains (mI h (mR h a0 0) 3) a1 h (fun r4 h3 => ((r4 = 0 → (isO h3 a0 5) ∧ wX7_isReserved a0 a1 h3 (fun r7 h6 => ((r7 = 0 → (isO h6 a0 5) ∧ wX7_held a0 h6 (fun r10 h9 => wX9_contains r10 a1 h9 (fun r12 h11 => ((r12 = 0 → K 102 h11) ∧ (¬ r12 = 0 → K 111 h11))))) ∧ (¬ r7 = 0 → K 114 h6)))) ∧ (¬ r4 = 0 → K 115 h3)))
def wX9_recordRefusal_J41 (K : AH → Prop)  (y0 : Nat) (y1 : Int32) (h : AH) : Prop :=
  (isO h y0 0) ∧ (narrow .char (.int y1) = .int y1) ∧ (fits .char (.int y1) = true) ∧ ∀ h11, h11 = uI h y0 8 y1 → K h11
def wX9_recordRefusal (a0 : Nat) (a1 : Nat) (h : AH) (K : AH → Prop) : Prop :=
  ((a1 = 0 → K h) ∧ (¬ a1 = 0 → (isO h a0 0) ∧ (isO h (mR h a0 0) 5) ∧ wX7_firstNotFree (mR h a0 0) a1 h (fun r4 h3 => (isO h3 a0 0) ∧ ∀ h6, h6 = uI h3 a0 9 r4 → ((¬ mI h6 a0 9 = (-1) → (isO h3 (mR h3 a0 0) 5) ∧ wX7_stateOf (mR h3 a0 0) (mI h6 a0 9) h6 (fun r9 h8 => (wX9_recordRefusal_J41 K a0 r9 h8))) ∧ (mI h6 a0 9 = (-1) → (wX9_recordRefusal_J41 K a0 110 h6))))))
def wX9_grantOrRecord (a0 : Nat) (a1 : Int32) (h : AH) (K : Int32 → AH → Prop) : Prop :=
  (isO h a0 0) ∧ (isO h (mR h a0 0) 5) ∧ wX7_grantRoute (mR h a0 0) a1 h (fun r3 h2 => ((¬ r3 = (-5) → K r3 h2) ∧ (r3 = (-5) → (isO h2 a0 0) ∧ (isO h2 (mR h2 a0 0) 5) ∧ wX7_find (mR h2 a0 0) a1 h2 (fun r7 h6 => (isO h6 a0 0) ∧ wX9_recordRefusal a0 r7 h6 (fun h8 => K r3 h8)))))
def wX9_setRoute (a0 : Nat) (a1 : Int32) (h : AH) (K : Int32 → AH → Prop) (T : String → AH → Prop) : Prop :=
  (isO h a0 0) ∧ (isO h (mR h a0 3) 1) ∧ wX2_keep (mR h a0 3) (mR h a0 0) h (fun h2 => (isO h2 a0 0) ∧ wX9_grantOrRecord a0 a1 h2 (fun r5 h4 => (isO h4 a0 0) ∧ wX9_settle a0 r5 h4 (fun r7 h6 => K r7 h6) T))
def wX7_withdrawRoute (a0 : Nat) (a1 : Int32) (h : AH) (K : Int32 → AH → Prop) : Prop :=
  (isO h a0 5) ∧ wX7_find a0 a1 h (fun r2 h1 => ((r2 = 0 → K (-4) h1) ∧ (¬ r2 = 0 → (isO h1 r2 6) ∧ wX8_isRouted r2 h1 (fun r5 h4 => ((¬ r5 = 0 → (isO h4 r2 6) ∧ ∀ h8, h8 = uI h4 r2 3 0 → (isO h4 a0 5) ∧ wX7_joinQueue a0 a1 h8 (fun h9 => (isO h9 a0 5) ∧ K (mI h9 a0 4) h9)) ∧ (r5 = 0 → K (-3) h4))))))
def wX9_releaseRoute (a0 : Nat) (a1 : Int32) (h : AH) (K : Int32 → AH → Prop) (T : String → AH → Prop) : Prop :=
  (isO h a0 0) ∧ (isO h (mR h a0 3) 1) ∧ wX2_keep (mR h a0 3) (mR h a0 0) h (fun h2 => (isO h2 a0 0) ∧ (isO h2 (mR h2 a0 0) 5) ∧ wX7_withdrawRoute (mR h2 a0 0) a1 h2 (fun r6 h5 => (isO h5 a0 0) ∧ wX9_settle a0 r6 h5 (fun r8 h7 => K r8 h7) T))
def wX7_enterNext (a0 : Nat) (a1 : Nat) (h : AH) (K : AH → Prop) : Prop :=
  (isO h a0 5) ∧ (isO h a1 6) ∧ (isO h (mR h a0 0) 2) ∧ wX4_exitOf (mR h a0 0) (mI h a1 1) h (fun r4 h3 => (isO h3 a1 6) ∧ ∀ h6, h6 = uI h3 a1 1 r4 → ∀ h7, h7 = uI h6 a1 3 (mI h6 a1 3 &&& ((1 <<< (r4 &&& 31)) ^^^ (-1))) → (isO h3 a0 5) ∧ (isO h3 (mR h3 a0 0) 2) ∧ wX4_exitOf (mR h3 a0 0) r4 h7 (fun r10 h9 => (isO h9 (mR h3 a0 0) 2) ∧ wX4_lengthOf (mR h3 a0 0) r10 h9 (fun r12 h11 => (isO h11 a1 6) ∧ ∀ h14, h14 = uI h11 a1 4 (mI h7 a0 7 + r12) → K h14)))
def wX7_removeArrived_L4 (K : AH → Prop)   : Nat → Nat → Int32 → Int32 → AH → Prop
  | 0 => fun _ _ _ _ => False
  | n + 1 => fun x0 x1 x2 h =>
  (isO h x0 5) ∧ ((mI h x0 3 ≤ x2 → ∀ h3, h3 = uI h x0 3 x1 → K h3) ∧ (¬ mI h x0 3 ≤ x2 → (isA h (mR h x0 1) 6) ∧ (vp_in x2 (ln h (mR h x0 1))) ∧ (isO h (mR h (mR h x0 1) x2.toNatClampNeg) 6) ∧ ((¬ mI h (mR h (mR h x0 1) x2.toNatClampNeg) 1 = mI h (mR h (mR h x0 1) x2.toNatClampNeg) 2 → (vp_in x1 (ln h (mR h x0 1))) ∧ (isO h (mR h (mR h x0 1) x1.toNatClampNeg) 6) ∧ (nZ ≤ (mR h x0 1)) ∧ ∀ h11, h11 = uR h (mR h x0 1) x2.toNatClampNeg (mR h (mR h x0 1) x1.toNatClampNeg) → (isA h (mR h11 x0 1) 6) ∧ (nZ ≤ (mR h11 x0 1)) ∧ (vp_in x1 (ln h (mR h11 x0 1))) ∧ ∀ h15, h15 = uR h11 (mR h11 x0 1) x1.toNatClampNeg (mR h (mR h x0 1) x2.toNatClampNeg) → wX7_removeArrived_L4 K   n x0 (x1 + 1) (x2 + 1) h15) ∧ (mI h (mR h (mR h x0 1) x2.toNatClampNeg) 1 = mI h (mR h (mR h x0 1) x2.toNatClampNeg) 2 → ∀ h16, h16 = uI h x0 6 (mI h x0 6 + 1) → wX7_removeArrived_L4 K   n x0 x1 (x2 + 1) h16))))
def wX7_removeArrived (a0 : Nat) (h : AH) (K : AH → Prop) : Prop :=
  (∃ n17, wX7_removeArrived_L4 K  n17 a0 0 0 h)
def wX7_considerQueue_J43 (K : AH → Prop) (c4 : Nat → Int32 → Int32 → AH → Prop) (x0 : Nat) (x1 : Int32) (x2 : Int32) (x3 : Nat) (h : AH) : Prop :=
  ((x3 = 0 → c4 x0 x1 (x2 + 1) h) ∧ (¬ x3 = 0 → (isO h x3 6) ∧ ∀ h11, h11 = uI h x3 5 (mI h x3 5 + 1) → (isO h x0 5) ∧ ∀ h13, h13 = uL h11 x0 8 (mL h11 x0 8 + 1) → (isA h (mR h x0 2) 0) ∧ (nZ ≤ (mR h x0 2)) ∧ (vp_in x1 (ln h (mR h x0 2))) ∧ ∀ h17, h17 = uI h13 (mR h x0 2) x1.toNatClampNeg (mI h13 x3 0) → c4 x0 (x1 + 1) (x2 + 1) h17))
def wX7_considerQueue_L4 (K : AH → Prop)   : Nat → Nat → Int32 → Int32 → AH → Prop
  | 0 => fun _ _ _ _ => False
  | n + 1 => fun x0 x1 x2 h =>
  (isO h x0 5) ∧ ((mI h x0 4 ≤ x2 → ∀ h3, h3 = uI h x0 4 x1 → K h3) ∧ (¬ mI h x0 4 ≤ x2 → (isA h (mR h x0 2) 0) ∧ (vp_in x2 (ln h (mR h x0 2))) ∧ wX7_find x0 (mI h (mR h x0 2) x2.toNatClampNeg) h (fun r7 h6 => ((r7 = 0 → (wX7_considerQueue_J43 K (wX7_considerQueue_L4 K   n) x0 x1 x2 r7 h6)) ∧ (¬ r7 = 0 → (isO h6 x0 5) ∧ wX7_canSet x0 r7 h6 (fun r19 h18 => ((r19 = 0 → (wX7_considerQueue_J43 K (wX7_considerQueue_L4 K   n) x0 x1 x2 r7 h18)) ∧ (¬ r19 = 0 → (isO h18 x0 5) ∧ wX7_reserveRoute x0 r7 h18 (fun h21 => wX7_considerQueue_L4 K   n x0 x1 (x2 + 1) h21)))))))))
def wX7_considerQueue (a0 : Nat) (h : AH) (K : AH → Prop) : Prop :=
  (∃ n25, wX7_considerQueue_L4 K  n25 a0 0 0 h)
def wX7_passMinute_L12 (K : AH → Prop)   : Nat → Nat → Int32 → AH → Prop
  | 0 => fun _ _ _ => False
  | n + 1 => fun x0 x1 h =>
  (isO h x0 5) ∧ ((mI h x0 3 ≤ x1 → wX7_removeArrived x0 h (fun h5 => (isO h5 x0 5) ∧ wX7_considerQueue x0 h5 (fun h7 => K h7))) ∧ (¬ mI h x0 3 ≤ x1 → (isA h (mR h x0 1) 6) ∧ (vp_in x1 (ln h (mR h x0 1))) ∧ (isO h (mR h (mR h x0 1) x1.toNatClampNeg) 6) ∧ wX8_isRouted (mR h (mR h x0 1) x1.toNatClampNeg) h (fun r13 h12 => ((r13 = 0 → wX7_passMinute_L12 K   n x0 (x1 + 1) h12) ∧ (¬ r13 = 0 → (isO h12 x0 5) ∧ (isA h12 (mR h12 x0 1) 6) ∧ (vp_in x1 (ln h12 (mR h12 x0 1))) ∧ (isO h12 (mR h12 (mR h12 x0 1) x1.toNatClampNeg) 6) ∧ ((¬ mI h12 (mR h12 (mR h12 x0 1) x1.toNatClampNeg) 4 = mI h12 x0 7 → wX7_passMinute_L12 K   n x0 (x1 + 1) h12) ∧ (mI h12 (mR h12 (mR h12 x0 1) x1.toNatClampNeg) 4 = mI h12 x0 7 → wX7_enterNext x0 (mR h12 (mR h12 x0 1) x1.toNatClampNeg) h12 (fun h20 => wX7_passMinute_L12 K   n x0 (x1 + 1) h20))))))))
def wX7_passMinute (a0 : Nat) (h : AH) (K : AH → Prop) : Prop :=
  (isO h a0 5) ∧ ∀ h2, h2 = uI h a0 7 (mI h a0 7 + 1) → (∃ n23, wX7_passMinute_L12 K  n23 a0 0 h2)
def wX7_letPass_L22 (K : Int32 → AH → Prop)   : Nat → Nat → Int32 → Int32 → Int32 → AH → Prop
  | 0 => fun _ _ _ _ _ => False
  | n + 1 => fun x0 x1 x2 x3 h =>
  ((x1 ≤ x3 → (isO h x0 5) ∧ K (mI h x0 6 - x2) h) ∧ (¬ x1 ≤ x3 → (isO h x0 5) ∧ wX7_passMinute x0 h (fun h6 => wX7_letPass_L22 K   n x0 x1 x2 (x3 + 1) h6)))
def wX7_letPass (a0 : Nat) (a1 : Int32) (h : AH) (K : Int32 → AH → Prop) : Prop :=
  ((a1 < 1 → K (-2) h) ∧ (¬ a1 < 1 → ((a1 ≤ 240 → (isO h a0 5) ∧ (∃ n9, wX7_letPass_L22 K  n9 a0 a1 (mI h a0 6) 0 h)) ∧ (¬ a1 ≤ 240 → K (-2) h))))
def wX9_pass (a0 : Nat) (a1 : Int32) (h : AH) (K : Int32 → AH → Prop) (T : String → AH → Prop) : Prop :=
  (isO h a0 0) ∧ (isO h (mR h a0 3) 1) ∧ wX2_keep (mR h a0 3) (mR h a0 0) h (fun h2 => (isO h2 a0 0) ∧ (isO h2 (mR h2 a0 0) 5) ∧ wX7_letPass (mR h2 a0 0) a1 h2 (fun r6 h5 => (isO h5 a0 0) ∧ wX9_settle a0 r6 h5 (fun r8 h7 => K r8 h7) T))
def wX9_blocks (a0 : Nat) (h : AH) (K : Int32 → AH → Prop) : Prop :=
  (isO h a0 0) ∧ (isO h (mR h a0 0) 5) ∧ (isO h (mR h (mR h a0 0) 0) 2) ∧ K (mI h (mR h (mR h a0 0) 0) 0) h
def wX9_checkBlock (a0 : Nat) (a1 : Int32) (h : AH) (K : AH → Prop) (T : String → AH → Prop) : Prop :=
  (isO h a0 0) ∧ (isO h (mR h a0 0) 5) ∧ (isO h (mR h (mR h a0 0) 0) 2) ∧ wX4_has (mR h (mR h a0 0) 0) a1 h (fun r4 h3 => ((¬ r4 = 0 → K h3) ∧ (r4 = 0 → T "java/lang/IndexOutOfBoundsException" h3)))
def wX9_blockLength (a0 : Nat) (a1 : Int32) (h : AH) (K : Int32 → AH → Prop) (T : String → AH → Prop) : Prop :=
  (isO h a0 0) ∧ wX9_checkBlock a0 a1 h (fun h1 => (isO h1 a0 0) ∧ (isO h1 (mR h1 a0 0) 5) ∧ (isO h1 (mR h1 (mR h1 a0 0) 0) 2) ∧ wX4_lengthOf (mR h1 (mR h1 a0 0) 0) a1 h1 (fun r6 h5 => K r6 h5)) T
def wX9_blockState (a0 : Nat) (a1 : Int32) (h : AH) (K : Int32 → AH → Prop) (T : String → AH → Prop) : Prop :=
  (isO h a0 0) ∧ wX9_checkBlock a0 a1 h (fun h1 => (isO h1 a0 0) ∧ (isO h1 (mR h1 a0 0) 5) ∧ wX7_stateOf (mR h1 a0 0) a1 h1 (fun r5 h4 => (narrow .char (.int r5) = .int r5) ∧ K r5 h4)) T
def wX7_holderOf_L2 (K : Int32 → AH → Prop)   : Nat → Nat → Int32 → Int32 → AH → Prop
  | 0 => fun _ _ _ _ => False
  | n + 1 => fun x0 x1 x2 h =>
  (isO h x0 5) ∧ ((mI h x0 3 ≤ x2 → K (-1) h) ∧ (¬ mI h x0 3 ≤ x2 → (isA h (mR h x0 1) 6) ∧ (vp_in x2 (ln h (mR h x0 1))) ∧ (isO h (mR h (mR h x0 1) x2.toNatClampNeg) 6) ∧ wX8_held (mR h (mR h x0 1) x2.toNatClampNeg) h (fun r6 h5 => wX9_contains r6 x1 h5 (fun r8 h7 => ((r8 = 0 → wX7_holderOf_L2 K   n x0 x1 (x2 + 1) h7) ∧ (¬ r8 = 0 → (isO h7 x0 5) ∧ (isA h7 (mR h7 x0 1) 6) ∧ (vp_in x2 (ln h7 (mR h7 x0 1))) ∧ (isO h7 (mR h7 (mR h7 x0 1) x2.toNatClampNeg) 6) ∧ K (mI h7 (mR h7 (mR h7 x0 1) x2.toNatClampNeg) 0) h7))))))
def wX7_holderOf (a0 : Nat) (a1 : Int32) (h : AH) (K : Int32 → AH → Prop) : Prop :=
  (∃ n15, wX7_holderOf_L2 K  n15 a0 a1 0 h)
def wX9_trainAt (a0 : Nat) (a1 : Int32) (h : AH) (K : Int32 → AH → Prop) (T : String → AH → Prop) : Prop :=
  (isO h a0 0) ∧ wX9_checkBlock a0 a1 h (fun h1 => (isO h1 a0 0) ∧ (isO h1 (mR h1 a0 0) 5) ∧ wX7_holderOf (mR h1 a0 0) a1 h1 (fun r5 h4 => ((¬ r5 = (-1) → K r5 h4) ∧ (r5 = (-1) → T "java/util/NoSuchElementException" h4)))) T
def wX9_checkPoint (a0 : Nat) (a1 : Int32) (h : AH) (K : AH → Prop) (T : String → AH → Prop) : Prop :=
  (isO h a0 0) ∧ (isO h (mR h a0 0) 5) ∧ (isO h (mR h (mR h a0 0) 0) 2) ∧ wX4_hasPoint (mR h (mR h a0 0) 0) a1 h (fun r4 h3 => ((¬ r4 = 0 → K h3) ∧ (r4 = 0 → T "java/lang/IndexOutOfBoundsException" h3)))
def wX9_liesLeft (a0 : Nat) (a1 : Int32) (h : AH) (K : Int32 → AH → Prop) (T : String → AH → Prop) : Prop :=
  (isO h a0 0) ∧ wX9_checkPoint a0 a1 h (fun h1 => (isO h1 a0 0) ∧ (isO h1 (mR h1 a0 0) 5) ∧ (isO h1 (mR h1 (mR h1 a0 0) 0) 2) ∧ wX4_pointsLeft (mR h1 (mR h1 a0 0) 0) a1 h1 (fun r6 h5 => (narrow .boolean (.int r6) = .int r6) ∧ K r6 h5)) T
def wX9_lockedBy (a0 : Nat) (a1 : Int32) (h : AH) (K : Int32 → AH → Prop) (T : String → AH → Prop) : Prop :=
  (isO h a0 0) ∧ wX9_checkPoint a0 a1 h (fun h1 => (isO h1 a0 0) ∧ (isO h1 (mR h1 a0 0) 5) ∧ wX7_lockerOf (mR h1 a0 0) a1 h1 (fun r5 h4 => ((¬ r5 = (-1) → K r5 h4) ∧ (r5 = (-1) → T "java/util/NoSuchElementException" h4)))) T
def wX9_checkRoute (a0 : Nat) (a1 : Int32) (a2 : Int32) (h : AH) (K : AH → Prop) (T : String → AH → Prop) : Prop :=
  (isO h a0 0) ∧ wX9_checkBlock a0 a1 h (fun h1 => (isO h1 a0 0) ∧ wX9_checkBlock a0 a2 h1 (fun h3 => ((a1 = a2 → K h3) ∧ (¬ a1 = a2 → (isO h3 a0 0) ∧ (isO h3 (mR h3 a0 0) 5) ∧ (isO h3 (mR h3 (mR h3 a0 0) 0) 2) ∧ wX4_routeBlocks (mR h3 (mR h3 a0 0) 0) a1 a2 h3 (fun r9 h8 => ((¬ r9 = 0 → K h8) ∧ (r9 = 0 → T "java/util/NoSuchElementException" h8)))))) T) T
def wX9_routeLength (a0 : Nat) (a1 : Int32) (a2 : Int32) (h : AH) (K : Int32 → AH → Prop) (T : String → AH → Prop) : Prop :=
  (isO h a0 0) ∧ wX9_checkRoute a0 a1 a2 h (fun h1 => (isO h1 a0 0) ∧ (isO h1 (mR h1 a0 0) 5) ∧ (isO h1 (mR h1 (mR h1 a0 0) 0) 2) ∧ wX4_routeBlocks (mR h1 (mR h1 a0 0) 0) a1 a2 h1 (fun r6 h5 => (isO h5 (mR h1 (mR h1 a0 0) 0) 2) ∧ wX4_totalLength (mR h1 (mR h1 a0 0) 0) r6 h5 (fun r8 h7 => K r8 h7))) T
def wX4_tryPaths_b (rec : Nat → Int32 → Int32 → Int32 → Int32 → AH → (Int32 → AH → Prop) → Prop) (a0 : Nat) (a1 : Int32) (a2 : Int32) (a3 : Int32) (a4 : Int32) (h : AH) (K : Int32 → AH → Prop) : Prop :=
  ((¬ a1 = a2 → ((12 ≤ a4 → K 1000000 h) ∧ (¬ 12 ≤ a4 → (isO h a0 2) ∧ wX4_hasExit a0 a1 h (fun r4 h3 => ((r4 = 0 → K 1000000 h3) ∧ (¬ r4 = 0 → wX9_contains a3 a1 h3 (fun r7 h6 => ((r7 = 0 → (isO h6 a0 2) ∧ (isA h6 (mR h6 a0 6) 0) ∧ (vp_in a1 (ln h6 (mR h6 a0 6))) ∧ (isA h6 (mR h6 a0 7) 0) ∧ (vp_in a1 (ln h6 (mR h6 a0 7))) ∧ rec a0 (mI h6 (mR h6 a0 6) a1.toNatClampNeg) a2 (a3 ||| (1 <<< (a1 &&& 31))) (a4 + 1) h6 (fun r15 h14 => (isO h14 a0 2) ∧ wX4_lengthOf a0 (mI h6 (mR h6 a0 6) a1.toNatClampNeg) h14 (fun r17 h16 => ((¬ mI h6 (mR h6 a0 6) a1.toNatClampNeg = mI h6 (mR h6 a0 7) a1.toNatClampNeg → rec a0 (mI h6 (mR h6 a0 7) a1.toNatClampNeg) a2 (a3 ||| (1 <<< (a1 &&& 31))) (a4 + 1) h16 (fun r20 h19 => (isO h19 a0 2) ∧ wX4_lengthOf a0 (mI h6 (mR h6 a0 7) a1.toNatClampNeg) h19 (fun r22 h21 => K (if (r20 + r22) < (r15 + r17) then (r20 + r22) else (r15 + r17)) h21))) ∧ (mI h6 (mR h6 a0 6) a1.toNatClampNeg = mI h6 (mR h6 a0 7) a1.toNatClampNeg → K (r15 + r17) h16))))) ∧ (¬ r7 = 0 → K 1000000 h6))))))))) ∧ (a1 = a2 → K 0 h))
def wX4_tryPaths : Nat → Nat → Int32 → Int32 → Int32 → Int32 → AH → (Int32 → AH → Prop) → Prop
  | 0 => fun _ _ _ _ _ _ _ => False
  | d + 1 => wX4_tryPaths_b (wX4_tryPaths d)
def wX4_shortestPath (a0 : Nat) (a1 : Int32) (a2 : Int32) (h : AH) (K : Int32 → AH → Prop) : Prop :=
  wX4_tryPaths 14 a0 a1 a2 0 0 h (fun r2 h1 => ((r2 < 1000000 → K r2 h1) ∧ (¬ r2 < 1000000 → K (-1) h1)))
def wX9_routeLengthByPaths (a0 : Nat) (a1 : Int32) (a2 : Int32) (h : AH) (K : Int32 → AH → Prop) (T : String → AH → Prop) : Prop :=
  (isO h a0 0) ∧ wX9_checkBlock a0 a1 h (fun h1 => (isO h1 a0 0) ∧ wX9_checkBlock a0 a2 h1 (fun h3 => (isO h3 a0 0) ∧ (isO h3 (mR h3 a0 0) 5) ∧ (isO h3 (mR h3 (mR h3 a0 0) 0) 2) ∧ wX4_shortestPath (mR h3 (mR h3 a0 0) 0) a1 a2 h3 (fun r8 h7 => ((¬ r8 = (-1) → K r8 h7) ∧ (r8 = (-1) → T "java/util/NoSuchElementException" h7)))) T) T
def wX4_blockOnRoute_L18 (K : Int32 → AH → Prop)   : Nat → Nat → Int32 → Int32 → Int32 → Int32 → AH → Prop
  | 0 => fun _ _ _ _ _ _ => False
  | n + 1 => fun x0 x2 x3 x4 x5 h =>
  ((x3 ≤ x5 → K x4 h) ∧ (¬ x3 ≤ x5 → (isO h x0 2) ∧ wX4_nextOnRoute x0 x4 x2 h (fun r5 h4 => wX4_blockOnRoute_L18 K   n x0 x2 x3 r5 (x5 + 1) h4)))
def wX4_blockOnRoute (a0 : Nat) (a1 : Int32) (a2 : Int32) (a3 : Int32) (h : AH) (K : Int32 → AH → Prop) : Prop :=
  ((a3 < 0 → K (-1) h) ∧ (¬ a3 < 0 → ((a3 < 12 → (∃ n7, wX4_blockOnRoute_L18 K  n7 a0 a2 a3 a1 0 h)) ∧ (¬ a3 < 12 → K (-1) h))))
def wX9_routeBlock (a0 : Nat) (a1 : Int32) (a2 : Int32) (a3 : Int32) (h : AH) (K : Int32 → AH → Prop) (T : String → AH → Prop) : Prop :=
  (isO h a0 0) ∧ wX9_checkRoute a0 a1 a2 h (fun h1 => (isO h1 a0 0) ∧ (isO h1 (mR h1 a0 0) 5) ∧ (isO h1 (mR h1 (mR h1 a0 0) 0) 2) ∧ wX4_blockOnRoute (mR h1 (mR h1 a0 0) 0) a1 a2 a3 h1 (fun r6 h5 => ((¬ r6 = (-1) → K r6 h5) ∧ (r6 = (-1) → T "java/util/NoSuchElementException" h5)))) T
def wX4_isStem (a0 : Nat) (a1 : Int32) (h : AH) (K : Int32 → AH → Prop) : Prop :=
  (isO h a0 2) ∧ wX4_has a0 a1 h (fun r2 h1 => ((r2 = 0 → K 0 h1) ∧ (¬ r2 = 0 → (isO h1 a0 2) ∧ (isA h1 (mR h1 a0 6) 0) ∧ (vp_in a1 (ln h1 (mR h1 a0 6))) ∧ (isA h1 (mR h1 a0 7) 0) ∧ (vp_in a1 (ln h1 (mR h1 a0 7))) ∧ ((mI h1 (mR h1 a0 6) a1.toNatClampNeg = mI h1 (mR h1 a0 7) a1.toNatClampNeg → K 0 h1) ∧ (¬ mI h1 (mR h1 a0 6) a1.toNatClampNeg = mI h1 (mR h1 a0 7) a1.toNatClampNeg → K 1 h1)))))
def wX4_countPaths_b (rec : Nat → Int32 → Int32 → Int32 → Int32 → AH → (Int32 → AH → Prop) → Prop) (a0 : Nat) (a1 : Int32) (a2 : Int32) (a3 : Int32) (a4 : Int32) (h : AH) (K : Int32 → AH → Prop) : Prop :=
  ((¬ a1 = a2 → ((12 ≤ a4 → K 0 h) ∧ (¬ 12 ≤ a4 → (isO h a0 2) ∧ wX4_hasExit a0 a1 h (fun r4 h3 => ((r4 = 0 → K 0 h3) ∧ (¬ r4 = 0 → wX9_contains a3 a1 h3 (fun r7 h6 => ((r7 = 0 → (isO h6 a0 2) ∧ (isA h6 (mR h6 a0 6) 0) ∧ (vp_in a1 (ln h6 (mR h6 a0 6))) ∧ rec a0 (mI h6 (mR h6 a0 6) a1.toNatClampNeg) a2 (a3 ||| (1 <<< (a1 &&& 31))) (a4 + 1) h6 (fun r13 h12 => (isO h12 a0 2) ∧ wX4_isStem a0 a1 h12 (fun r15 h14 => ((r15 = 0 → K r13 h14) ∧ (¬ r15 = 0 → (isO h14 a0 2) ∧ (isA h14 (mR h14 a0 7) 0) ∧ (vp_in a1 (ln h14 (mR h14 a0 7))) ∧ rec a0 (mI h14 (mR h14 a0 7) a1.toNatClampNeg) a2 (a3 ||| (1 <<< (a1 &&& 31))) (a4 + 1) h14 (fun r21 h20 => K (r13 + r21) h20)))))) ∧ (¬ r7 = 0 → K 0 h6))))))))) ∧ (a1 = a2 → K 1 h))
def wX4_countPaths : Nat → Nat → Int32 → Int32 → Int32 → Int32 → AH → (Int32 → AH → Prop) → Prop
  | 0 => fun _ _ _ _ _ _ _ => False
  | d + 1 => wX4_countPaths_b (wX4_countPaths d)
def wX4_numberOfPaths (a0 : Nat) (a1 : Int32) (a2 : Int32) (h : AH) (K : Int32 → AH → Prop) : Prop :=
  wX4_countPaths 14 a0 a1 a2 0 0 h (fun r2 h1 => K r2 h1)
def wX9_paths (a0 : Nat) (a1 : Int32) (a2 : Int32) (h : AH) (K : Int32 → AH → Prop) (T : String → AH → Prop) : Prop :=
  (isO h a0 0) ∧ wX9_checkBlock a0 a1 h (fun h1 => (isO h1 a0 0) ∧ wX9_checkBlock a0 a2 h1 (fun h3 => (isO h3 a0 0) ∧ (isO h3 (mR h3 a0 0) 5) ∧ (isO h3 (mR h3 (mR h3 a0 0) 0) 2) ∧ wX4_numberOfPaths (mR h3 (mR h3 a0 0) 0) a1 a2 h3 (fun r8 h7 => K r8 h7)) T) T
def wX9_trains (a0 : Nat) (h : AH) (K : Int32 → AH → Prop) : Prop :=
  (isO h a0 0) ∧ (isO h (mR h a0 0) 5) ∧ K (mI h (mR h a0 0) 3) h
def wX9_isPresent (a0 : Nat) (a1 : Int32) (h : AH) (K : Int32 → AH → Prop) : Prop :=
  (isO h a0 0) ∧ (isO h (mR h a0 0) 5) ∧ wX7_find (mR h a0 0) a1 h (fun r3 h2 => ((r3 = 0 → K 0 h2) ∧ (¬ r3 = 0 → K 1 h2)))
def wX9_presentTrain (a0 : Nat) (a1 : Int32) (h : AH) (K : Nat → AH → Prop) (T : String → AH → Prop) : Prop :=
  (isO h a0 0) ∧ (isO h (mR h a0 0) 5) ∧ wX7_find (mR h a0 0) a1 h (fun r3 h2 => ((r3 = 0 → T "java/util/NoSuchElementException" h2) ∧ (¬ r3 = 0 → K r3 h2)))
def wX9_blockOf (a0 : Nat) (a1 : Int32) (h : AH) (K : Int32 → AH → Prop) (T : String → AH → Prop) : Prop :=
  (isO h a0 0) ∧ wX9_presentTrain a0 a1 h (fun r2 h1 => (isO h1 r2 6) ∧ K (mI h1 r2 1) h1) T
def wX9_destination (a0 : Nat) (a1 : Int32) (h : AH) (K : Int32 → AH → Prop) (T : String → AH → Prop) : Prop :=
  (isO h a0 0) ∧ wX9_presentTrain a0 a1 h (fun r2 h1 => (isO h1 r2 6) ∧ K (mI h1 r2 2) h1) T
def wX9_hasRoute (a0 : Nat) (a1 : Int32) (h : AH) (K : Int32 → AH → Prop) (T : String → AH → Prop) : Prop :=
  (isO h a0 0) ∧ wX9_presentTrain a0 a1 h (fun r2 h1 => (isO h1 r2 6) ∧ wX8_isRouted r2 h1 (fun r4 h3 => (narrow .boolean (.int r4) = .int r4) ∧ K r4 h3)) T
def wX9_isClear (a0 : Nat) (a1 : Int32) (h : AH) (K : Int32 → AH → Prop) (T : String → AH → Prop) : Prop :=
  (isO h a0 0) ∧ wX9_presentTrain a0 a1 h (fun r3 h2 => (isO h2 (mR h a0 0) 5) ∧ wX7_canSet (mR h a0 0) r3 h2 (fun r5 h4 => (narrow .boolean (.int r5) = .int r5) ∧ K r5 h4)) T
def wX9_routedTrain (a0 : Nat) (a1 : Int32) (h : AH) (K : Nat → AH → Prop) (T : String → AH → Prop) : Prop :=
  (isO h a0 0) ∧ wX9_presentTrain a0 a1 h (fun r2 h1 => (isO h1 r2 6) ∧ wX8_isRouted r2 h1 (fun r4 h3 => ((¬ r4 = 0 → K r2 h3) ∧ (r4 = 0 → T "java/util/NoSuchElementException" h3)))) T
def wX9_minutesUntilNext (a0 : Nat) (a1 : Int32) (h : AH) (K : Int32 → AH → Prop) (T : String → AH → Prop) : Prop :=
  (isO h a0 0) ∧ wX9_routedTrain a0 a1 h (fun r2 h1 => (isO h1 r2 6) ∧ (isO h1 a0 0) ∧ (isO h1 (mR h1 a0 0) 5) ∧ K (mI h1 r2 4 - mI h1 (mR h1 a0 0) 7) h1) T
def wX7_minutesToGo (a0 : Nat) (a1 : Nat) (h : AH) (K : Int32 → AH → Prop) : Prop :=
  (isO h a1 6) ∧ (isO h a0 5) ∧ (isO h (mR h a0 0) 2) ∧ wX4_exitOf (mR h a0 0) (mI h a1 1) h (fun r4 h3 => (isO h3 (mR h a0 0) 2) ∧ wX4_lengthOf (mR h a0 0) r4 h3 (fun r6 h5 => (isO h5 a0 5) ∧ (isO h5 a1 6) ∧ (isO h5 (mR h5 a0 0) 2) ∧ wX4_totalLength (mR h5 a0 0) (mI h5 a1 3) h5 (fun r10 h9 => K (((mI h a1 4 - mI h a0 7) + r10) - r6) h9)))
def wX9_minutesUntilArrival (a0 : Nat) (a1 : Int32) (h : AH) (K : Int32 → AH → Prop) (T : String → AH → Prop) : Prop :=
  (isO h a0 0) ∧ wX9_routedTrain a0 a1 h (fun r3 h2 => (isO h2 (mR h a0 0) 5) ∧ wX7_minutesToGo (mR h a0 0) r3 h2 (fun r5 h4 => K r5 h4)) T
def wX9_minutesUntilArrivalByPassing_L25 (K : Int32 → AH → Prop) (T : String → AH → Prop)   : Nat → Nat → Int32 → Int32 → Int32 → AH → Prop
  | 0 => fun _ _ _ _ _ => False
  | n + 1 => fun x0 x2 x3 x4 h =>
  ((108 ≤ x4 → K x3 h) ∧ (¬ 108 ≤ x4 → (isO h x0 0) ∧ (isO h (mR h x0 2) 5) ∧ wX7_find (mR h x0 2) x2 h (fun r10 h9 => ((r10 = 0 → K x3 h9) ∧ (¬ r10 = 0 → (isO h9 x0 0) ∧ (isO h9 (mR h9 x0 2) 5) ∧ wX7_passMinute (mR h9 x0 2) h9 (fun h13 => wX9_minutesUntilArrivalByPassing_L25 K T   n x0 x2 (x3 + 1) (x4 + 1) h13))))))
def wX9_minutesUntilArrivalByPassing (a0 : Nat) (a1 : Int32) (h : AH) (K : Int32 → AH → Prop) (T : String → AH → Prop) : Prop :=
  (isO h a0 0) ∧ wX9_routedTrain a0 a1 h (fun r2 h1 => (isO h1 r2 6) ∧ (isO h1 a0 0) ∧ (isO h1 (mR h1 a0 2) 5) ∧ wX7_copyFrom (mR h1 a0 2) (mR h1 a0 0) h1 (fun h5 => (∃ n17, wX9_minutesUntilArrivalByPassing_L25 K T  n17 a0 (mI h1 r2 0) 0 0 h5))) T
def wX9_delay (a0 : Nat) (a1 : Int32) (h : AH) (K : Int32 → AH → Prop) (T : String → AH → Prop) : Prop :=
  (isO h a0 0) ∧ wX9_presentTrain a0 a1 h (fun r2 h1 => (isO h1 r2 6) ∧ K (mI h1 r2 5) h1) T
def wX7_inQueue (a0 : Nat) (a1 : Int32) (h : AH) (K : Int32 → AH → Prop) : Prop :=
  ((a1 < 0 → K (-1) h) ∧ (¬ a1 < 0 → (isO h a0 5) ∧ ((mI h a0 4 ≤ a1 → K (-1) h) ∧ (¬ mI h a0 4 ≤ a1 → (isA h (mR h a0 2) 0) ∧ (vp_in a1 (ln h (mR h a0 2))) ∧ K (mI h (mR h a0 2) a1.toNatClampNeg) h))))
def wX9_queued (a0 : Nat) (a1 : Int32) (h : AH) (K : Int32 → AH → Prop) (T : String → AH → Prop) : Prop :=
  (isO h a0 0) ∧ (isO h (mR h a0 0) 5) ∧ wX7_inQueue (mR h a0 0) a1 h (fun r3 h2 => ((¬ r3 = (-1) → K r3 h2) ∧ (r3 = (-1) → T "java/util/NoSuchElementException" h2)))
def wX7_routeOf (a0 : Nat) (a1 : Nat) (h : AH) (K : Int32 → AH → Prop) : Prop :=
  (isO h a0 5) ∧ (isO h a1 6) ∧ (isO h (mR h a0 0) 2) ∧ wX4_routeBlocks (mR h a0 0) (mI h a1 1) (mI h a1 2) h (fun r4 h3 => K r4 h3)
def wX7_waits (a0 : Nat) (a1 : Nat) (a2 : Nat) (h : AH) (K : Int32 → AH → Prop) : Prop :=
  (isO h a1 6) ∧ wX8_isRouted a1 h (fun r2 h1 => ((¬ r2 = 0 → K 0 h1) ∧ (r2 = 0 → (isO h1 a0 5) ∧ wX7_routeOf a0 a1 h1 (fun r5 h4 => (isO h4 a2 6) ∧ wX8_held a2 h4 (fun r7 h6 => (((r5 &&& r7) = 0 → K 0 h6) ∧ (¬ (r5 &&& r7) = 0 → K 1 h6)))))))
def wX9_waitsFor (a0 : Nat) (a1 : Int32) (a2 : Int32) (h : AH) (K : Int32 → AH → Prop) (T : String → AH → Prop) : Prop :=
  (isO h a0 0) ∧ wX9_presentTrain a0 a1 h (fun r2 h1 => (isO h1 a0 0) ∧ wX9_presentTrain a0 a2 h1 (fun r4 h3 => ((a1 = a2 → K 0 h3) ∧ (¬ a1 = a2 → (isO h3 a0 0) ∧ (isO h3 (mR h3 a0 0) 5) ∧ wX7_waits (mR h3 a0 0) r2 r4 h3 (fun r8 h7 => ((r8 = 0 → K 0 h7) ∧ (¬ r8 = 0 → K 1 h7)))))) T) T
def wX6_begin (a0 : Nat) (a1 : Int32) (h : AH) (K : AH → Prop) : Prop :=
  (isO h a0 4) ∧ ∀ h2, h2 = uI h a0 0 (if 0 < (if 8 < a1 then 8 else a1) then (if 8 < a1 then 8 else a1) else 0) → wJ7_fill_53178 (mR h a0 1) 0 h2 (fun h3 => K h3)
def wX6_relate (a0 : Nat) (a1 : Int32) (a2 : Int32) (h : AH) (K : AH → Prop) : Prop :=
  ((a1 < 0 → K h) ∧ (¬ a1 < 0 → (isO h a0 4) ∧ ((mI h a0 0 ≤ a1 → K h) ∧ (¬ mI h a0 0 ≤ a1 → (isA h (mR h a0 1) 0) ∧ (vp_in a1 (ln h (mR h a0 1))) ∧ (nZ ≤ (mR h a0 1)) ∧ ∀ h7, h7 = uI h (mR h a0 1) a1.toNatClampNeg (mI h (mR h a0 1) a1.toNatClampNeg ||| (1 <<< (a2 &&& 31))) → K h7))))
def wX7_relateWaiting_L20 (K : AH → Prop) (c64 : Nat → Nat → Int32 → AH → Prop)  : Nat → Nat → Nat → Int32 → Int32 → AH → Prop
  | 0 => fun _ _ _ _ _ => False
  | n + 1 => fun x0 x1 x2 x3 h =>
  (isO h x0 5) ∧ ((mI h x0 3 ≤ x3 → c64 x0 x1 x2 h) ∧ (¬ mI h x0 3 ≤ x3 → ((x2 = x3 → wX7_relateWaiting_L20 K c64  n x0 x1 x2 (x3 + 1) h) ∧ (¬ x2 = x3 → (isA h (mR h x0 1) 6) ∧ (vp_in x2 (ln h (mR h x0 1))) ∧ (vp_in x3 (ln h (mR h x0 1))) ∧ wX7_waits x0 (mR h (mR h x0 1) x2.toNatClampNeg) (mR h (mR h x0 1) x3.toNatClampNeg) h (fun r13 h12 => ((r13 = 0 → wX7_relateWaiting_L20 K c64  n x0 x1 x2 (x3 + 1) h12) ∧ (¬ r13 = 0 → (isO h12 x1 4) ∧ wX6_relate x1 x2 x3 h12 (fun h15 => wX7_relateWaiting_L20 K c64  n x0 x1 x2 (x3 + 1) h15))))))))
def wX7_relateWaiting_L10 (K : AH → Prop)   : Nat → Nat → Nat → Int32 → AH → Prop
  | 0 => fun _ _ _ _ => False
  | n + 1 => fun x0 x1 x2 h =>
  (isO h x0 5) ∧ ((mI h x0 3 ≤ x2 → K h) ∧ (¬ mI h x0 3 ≤ x2 → (∃ n22, wX7_relateWaiting_L20 K (fun x0_18 x1_19 x2_20 h21 => wX7_relateWaiting_L10 K   n x0_18 x1_19 (x2_20 + 1) h21) n22 x0 x1 x2 0 h)))
def wX7_relateWaiting (a0 : Nat) (a1 : Nat) (h : AH) (K : AH → Prop) : Prop :=
  (isO h a0 5) ∧ (isO h a1 4) ∧ wX6_begin a1 (mI h a0 3) h (fun h2 => (∃ n23, wX7_relateWaiting_L10 K  n23 a0 a1 0 h2))
def wX6_enter (a0 : Nat) (a1 : Int32) (h : AH) (K : AH → Prop) : Prop :=
  (isO h a0 4) ∧ ∀ h2, h2 = uI h a0 4 (mI h a0 4 + 1) → (isA h (mR h a0 2) 0) ∧ (nZ ≤ (mR h a0 2)) ∧ (vp_in a1 (ln h (mR h a0 2))) ∧ ∀ h6, h6 = uI h2 (mR h a0 2) a1.toNatClampNeg (mI h2 a0 4) → (isA h (mR h a0 3) 0) ∧ (nZ ≤ (mR h a0 3)) ∧ (vp_in a1 (ln h (mR h a0 3))) ∧ ∀ h10, h10 = uI h6 (mR h a0 3) a1.toNatClampNeg (mI h6 a0 4) → ∀ h11, h11 = uI h10 a0 5 (mI h10 a0 5 ||| (1 <<< (a1 &&& 31))) → K h11
def wX6_closeSet_L4 (K : AH → Prop)   : Nat → Nat → Int32 → Int32 → Int32 → AH → Prop
  | 0 => fun _ _ _ _ _ => False
  | n + 1 => fun x0 x1 x2 x3 h =>
  (isO h x0 4) ∧ ((mI h x0 0 ≤ x3 → ((x2 ≤ 1 → K h) ∧ (¬ x2 ≤ 1 → ∀ h4, h4 = uI h x0 6 (mI h x0 6 + x2) → K h4))) ∧ (¬ mI h x0 0 ≤ x3 → wX9_contains (mI h x0 5) x3 h (fun r6 h5 => ((r6 = 0 → wX6_closeSet_L4 K   n x0 x1 x2 (x3 + 1) h5) ∧ (¬ r6 = 0 → (isO h5 x0 4) ∧ (isA h5 (mR h5 x0 2) 0) ∧ (vp_in x3 (ln h5 (mR h5 x0 2))) ∧ ((mI h5 (mR h5 x0 2) x3.toNatClampNeg < x1 → wX6_closeSet_L4 K   n x0 x1 x2 (x3 + 1) h5) ∧ (¬ mI h5 (mR h5 x0 2) x3.toNatClampNeg < x1 → ∀ h12, h12 = uI h5 x0 5 (mI h5 x0 5 &&& ((1 <<< (x3 &&& 31)) ^^^ (-1))) → wX6_closeSet_L4 K   n x0 x1 (x2 + 1) (x3 + 1) h12)))))))
def wX6_closeSet (a0 : Nat) (a1 : Int32) (h : AH) (K : AH → Prop) : Prop :=
  (∃ n13, wX6_closeSet_L4 K  n13 a0 a1 0 0 h)
def wX6_search_L30 (rec : Nat → Int32 → Int32 → AH → (AH → Prop) → Prop) (K : AH → Prop)   : Nat → Nat → Int32 → Int32 → Int32 → Int32 → AH → Prop
  | 0 => fun _ _ _ _ _ _ => False
  | n + 1 => fun x0 x1 x2 x3 x4 h =>
  (isO h x0 4) ∧ ((mI h x0 0 ≤ x4 → (isA h (mR h x0 3) 0) ∧ (nZ ≤ (mR h x0 3)) ∧ (vp_in x1 (ln h (mR h x0 3))) ∧ ∀ h14, h14 = uI h (mR h x0 3) x1.toNatClampNeg x3 → (isA h (mR h x0 2) 0) ∧ (vp_in x1 (ln h (mR h x0 2))) ∧ ((¬ x3 = mI h14 (mR h x0 2) x1.toNatClampNeg → K h14) ∧ (x3 = mI h14 (mR h x0 2) x1.toNatClampNeg → wX6_closeSet x0 x3 h14 (fun h18 => K h18)))) ∧ (¬ mI h x0 0 ≤ x4 → (isA h (mR h x0 1) 0) ∧ (vp_in x1 (ln h (mR h x0 1))) ∧ wX9_contains (mI h (mR h x0 1) x1.toNatClampNeg) x4 h (fun r23 h22 => ((r23 = 0 → wX6_search_L30 rec K   n x0 x1 x2 x3 (x4 + 1) h22) ∧ (¬ r23 = 0 → (isO h22 x0 4) ∧ (isA h22 (mR h22 x0 2) 0) ∧ (vp_in x4 (ln h22 (mR h22 x0 2))) ∧ ((¬ mI h22 (mR h22 x0 2) x4.toNatClampNeg = 0 → wX9_contains (mI h22 x0 5) x4 h22 (fun r30 h29 => ((r30 = 0 → wX6_search_L30 rec K   n x0 x1 x2 x3 (x4 + 1) h29) ∧ (¬ r30 = 0 → (isO h29 x0 4) ∧ (isA h29 (mR h29 x0 2) 0) ∧ (vp_in x4 (ln h29 (mR h29 x0 2))) ∧ ∀ v35 : Int32, v35 = (if mI h29 (mR h29 x0 2) x4.toNatClampNeg < x3 then mI h29 (mR h29 x0 2) x4.toNatClampNeg else x3) → wX6_search_L30 rec K   n x0 x1 x2 v35 (x4 + 1) h29)))) ∧ (mI h22 (mR h22 x0 2) x4.toNatClampNeg = 0 → rec x0 x4 (x2 + 1) h22 (fun h37 => (isO h37 x0 4) ∧ (isA h37 (mR h37 x0 3) 0) ∧ (vp_in x4 (ln h37 (mR h37 x0 3))) ∧ ∀ v42 : Int32, v42 = (if mI h37 (mR h37 x0 3) x4.toNatClampNeg < x3 then mI h37 (mR h37 x0 3) x4.toNatClampNeg else x3) → wX6_search_L30 rec K   n x0 x1 x2 v42 (x4 + 1) h37))))))))
def wX6_search_b (rec : Nat → Int32 → Int32 → AH → (AH → Prop) → Prop) (a0 : Nat) (a1 : Int32) (a2 : Int32) (h : AH) (K : AH → Prop) : Prop :=
  ((8 ≤ a2 → K h) ∧ (¬ 8 ≤ a2 → (isO h a0 4) ∧ ((a1 < mI h a0 0 → wX6_enter a0 a1 h (fun h4 => (isO h4 a0 4) ∧ (isA h4 (mR h4 a0 2) 0) ∧ (vp_in a1 (ln h4 (mR h4 a0 2))) ∧ (∃ n44, wX6_search_L30 rec K  n44 a0 a1 a2 (mI h4 (mR h4 a0 2) a1.toNatClampNeg) 0 h4))) ∧ (¬ a1 < mI h a0 0 → K h))))
def wX6_search : Nat → Nat → Int32 → Int32 → AH → (AH → Prop) → Prop
  | 0 => fun _ _ _ _ _ => False
  | d + 1 => wX6_search_b (wX6_search d)
def wX6_inCircles_L25 (K : Int32 → AH → Prop)   : Nat → Nat → Int32 → AH → Prop
  | 0 => fun _ _ _ => False
  | n + 1 => fun x0 x1 h =>
  (isO h x0 4) ∧ ((mI h x0 0 ≤ x1 → K (mI h x0 6) h) ∧ (¬ mI h x0 0 ≤ x1 → (isA h (mR h x0 2) 0) ∧ (vp_in x1 (ln h (mR h x0 2))) ∧ ((¬ mI h (mR h x0 2) x1.toNatClampNeg = 0 → wX6_inCircles_L25 K   n x0 (x1 + 1) h) ∧ (mI h (mR h x0 2) x1.toNatClampNeg = 0 → wX6_search 10 x0 x1 0 h (fun h13 => wX6_inCircles_L25 K   n x0 (x1 + 1) h13)))))
def wX6_inCircles (a0 : Nat) (h : AH) (K : Int32 → AH → Prop) : Prop :=
  (isO h a0 4) ∧ wJ7_fill_53178 (mR h a0 2) 0 h (fun h2 => (isO h2 a0 4) ∧ ∀ h5, h5 = uI h2 a0 4 0 → ∀ h6, h6 = uI h5 a0 5 0 → ∀ h7, h7 = uI h6 a0 6 0 → (∃ n15, wX6_inCircles_L25 K  n15 a0 0 h7))
def wX9_deadlocked (a0 : Nat) (h : AH) (K : Int32 → AH → Prop) : Prop :=
  (isO h a0 0) ∧ (isO h (mR h a0 0) 5) ∧ wX7_relateWaiting (mR h a0 0) (mR h a0 4) h (fun h2 => (isO h2 a0 0) ∧ (isO h2 (mR h2 a0 4) 4) ∧ wX6_inCircles (mR h2 a0 4) h2 (fun r6 h5 => K r6 h5))
def wX6_inCirclesByPairs_L12 (K : Int32 → AH → Prop) (c54 : Nat → Int32 → AH → Prop)  : Nat → Nat → Int32 → Int32 → AH → Prop
  | 0 => fun _ _ _ _ => False
  | n + 1 => fun x0 x1 x2 h =>
  (isO h x0 4) ∧ ((mI h x0 0 ≤ x2 → c54 x0 x1 h) ∧ (¬ mI h x0 0 ≤ x2 → (isA h (mR h x0 1) 0) ∧ (vp_in x2 (ln h (mR h x0 1))) ∧ wX9_contains (mI h (mR h x0 1) x2.toNatClampNeg) x1 h (fun r8 h7 => ((r8 = 0 → wX6_inCirclesByPairs_L12 K c54  n x0 x1 (x2 + 1) h7) ∧ (¬ r8 = 0 → (isO h7 x0 4) ∧ (isA h7 (mR h7 x0 1) 0) ∧ (vp_in x2 (ln h7 (mR h7 x0 1))) ∧ (vp_in x1 (ln h7 (mR h7 x0 1))) ∧ (nZ ≤ (mR h7 x0 1)) ∧ ∀ h15, h15 = uI h7 (mR h7 x0 1) x2.toNatClampNeg (mI h7 (mR h7 x0 1) x2.toNatClampNeg ||| mI h7 (mR h7 x0 1) x1.toNatClampNeg) → wX6_inCirclesByPairs_L12 K c54  n x0 x1 (x2 + 1) h15)))))
def wX6_inCirclesByPairs_L2 (K : Int32 → AH → Prop) (c60 : Nat → AH → Prop)  : Nat → Nat → Int32 → AH → Prop
  | 0 => fun _ _ _ => False
  | n + 1 => fun x0 x1 h =>
  (isO h x0 4) ∧ ((mI h x0 0 ≤ x1 → c60 x0 h) ∧ (¬ mI h x0 0 ≤ x1 → (∃ n19, wX6_inCirclesByPairs_L12 K (fun x0_16 x1_17 h18 => wX6_inCirclesByPairs_L2 K c60  n x0_16 (x1_17 + 1) h18) n19 x0 x1 0 h)))
def wX6_inCirclesByPairs_L64 (K : Int32 → AH → Prop)   : Nat → Nat → Int32 → Int32 → AH → Prop
  | 0 => fun _ _ _ _ => False
  | n + 1 => fun x0 x1 x2 h =>
  (isO h x0 4) ∧ ((mI h x0 0 ≤ x2 → K x1 h) ∧ (¬ mI h x0 0 ≤ x2 → (isA h (mR h x0 1) 0) ∧ (vp_in x2 (ln h (mR h x0 1))) ∧ wX9_contains (mI h (mR h x0 1) x2.toNatClampNeg) x2 h (fun r27 h26 => ((r27 = 0 → wX6_inCirclesByPairs_L64 K   n x0 x1 (x2 + 1) h26) ∧ (¬ r27 = 0 → wX6_inCirclesByPairs_L64 K   n x0 (x1 + 1) (x2 + 1) h26)))))
def wX6_inCirclesByPairs (a0 : Nat) (h : AH) (K : Int32 → AH → Prop) : Prop :=
  (∃ n30, wX6_inCirclesByPairs_L2 K (fun x0_20 h21 => (∃ n29, wX6_inCirclesByPairs_L64 K  n29 x0_20 0 0 h21)) n30 a0 0 h)
def wX9_deadlockedByPairs (a0 : Nat) (h : AH) (K : Int32 → AH → Prop) : Prop :=
  (isO h a0 0) ∧ (isO h (mR h a0 0) 5) ∧ wX7_relateWaiting (mR h a0 0) (mR h a0 4) h (fun h2 => (isO h2 a0 0) ∧ (isO h2 (mR h2 a0 4) 4) ∧ wX6_inCirclesByPairs (mR h2 a0 4) h2 (fun r6 h5 => K r6 h5))
def wX7_routesMeet (a0 : Nat) (a1 : Nat) (a2 : Nat) (h : AH) (K : Int32 → AH → Prop) : Prop :=
  (isO h a0 5) ∧ wX7_routeOf a0 a1 h (fun r2 h1 => (isO h1 a0 5) ∧ wX7_routeOf a0 a2 h1 (fun r4 h3 => (((r2 &&& r4) = 0 → K 0 h3) ∧ (¬ (r2 &&& r4) = 0 → K 1 h3))))
def wX9_conflict (a0 : Nat) (a1 : Int32) (a2 : Int32) (h : AH) (K : Int32 → AH → Prop) (T : String → AH → Prop) : Prop :=
  (isO h a0 0) ∧ wX9_presentTrain a0 a1 h (fun r2 h1 => (isO h1 a0 0) ∧ wX9_presentTrain a0 a2 h1 (fun r4 h3 => ((¬ a1 = a2 → (isO h3 a0 0) ∧ (isO h3 (mR h3 a0 0) 5) ∧ wX7_routesMeet (mR h3 a0 0) r2 r4 h3 (fun r8 h7 => (narrow .boolean (.int r8) = .int r8) ∧ K r8 h7)) ∧ (a1 = a2 → T "java/lang/IllegalArgumentException" h3))) T) T
def wX7_relateConflicts_L20 (K : AH → Prop) (c64 : Nat → Nat → Int32 → AH → Prop)  : Nat → Nat → Nat → Int32 → Int32 → AH → Prop
  | 0 => fun _ _ _ _ _ => False
  | n + 1 => fun x0 x1 x2 x3 h =>
  (isO h x0 5) ∧ ((mI h x0 3 ≤ x3 → c64 x0 x1 x2 h) ∧ (¬ mI h x0 3 ≤ x3 → ((x2 = x3 → wX7_relateConflicts_L20 K c64  n x0 x1 x2 (x3 + 1) h) ∧ (¬ x2 = x3 → (isA h (mR h x0 1) 6) ∧ (vp_in x2 (ln h (mR h x0 1))) ∧ (vp_in x3 (ln h (mR h x0 1))) ∧ wX7_routesMeet x0 (mR h (mR h x0 1) x2.toNatClampNeg) (mR h (mR h x0 1) x3.toNatClampNeg) h (fun r13 h12 => ((r13 = 0 → wX7_relateConflicts_L20 K c64  n x0 x1 x2 (x3 + 1) h12) ∧ (¬ r13 = 0 → (isO h12 x1 4) ∧ wX6_relate x1 x2 x3 h12 (fun h15 => wX7_relateConflicts_L20 K c64  n x0 x1 x2 (x3 + 1) h15))))))))
def wX7_relateConflicts_L10 (K : AH → Prop)   : Nat → Nat → Nat → Int32 → AH → Prop
  | 0 => fun _ _ _ _ => False
  | n + 1 => fun x0 x1 x2 h =>
  (isO h x0 5) ∧ ((mI h x0 3 ≤ x2 → K h) ∧ (¬ mI h x0 3 ≤ x2 → (∃ n22, wX7_relateConflicts_L20 K (fun x0_18 x1_19 x2_20 h21 => wX7_relateConflicts_L10 K   n x0_18 x1_19 (x2_20 + 1) h21) n22 x0 x1 x2 0 h)))
def wX7_relateConflicts (a0 : Nat) (a1 : Nat) (h : AH) (K : AH → Prop) : Prop :=
  (isO h a0 5) ∧ (isO h a1 4) ∧ wX6_begin a1 (mI h a0 3) h (fun h2 => (∃ n23, wX7_relateConflicts_L10 K  n23 a0 a1 0 h2))
def wX6_takeOrLeave_b (rec : Nat → Int32 → Int32 → AH → (Int32 → AH → Prop) → Prop) (a0 : Nat) (a1 : Int32) (a2 : Int32) (h : AH) (K : Int32 → AH → Prop) : Prop :=
  (isO h a0 4) ∧ ((a1 < mI h a0 0 → rec a0 (a1 + 1) a2 h (fun r4 h3 => (isO h3 a0 4) ∧ (isA h3 (mR h3 a0 1) 0) ∧ (vp_in a1 (ln h3 (mR h3 a0 1))) ∧ ((¬ (mI h3 (mR h3 a0 1) a1.toNatClampNeg &&& a2) = 0 → K r4 h3) ∧ ((mI h3 (mR h3 a0 1) a1.toNatClampNeg &&& a2) = 0 → rec a0 (a1 + 1) (a2 ||| (1 <<< (a1 &&& 31))) h3 (fun r10 h9 => ∀ v11 : Int32, v11 = (if r4 < (1 + r10) then (1 + r10) else r4) → K v11 h9))))) ∧ (¬ a1 < mI h a0 0 → K 0 h))
def wX6_takeOrLeave : Nat → Nat → Int32 → Int32 → AH → (Int32 → AH → Prop) → Prop
  | 0 => fun _ _ _ _ _ => False
  | d + 1 => wX6_takeOrLeave_b (wX6_takeOrLeave d)
def wX6_mostUnrelated (a0 : Nat) (h : AH) (K : Int32 → AH → Prop) : Prop :=
  wX6_takeOrLeave 10 a0 0 0 h (fun r2 h1 => K r2 h1)
def wX9_mostWithoutConflict (a0 : Nat) (h : AH) (K : Int32 → AH → Prop) : Prop :=
  (isO h a0 0) ∧ (isO h (mR h a0 0) 5) ∧ wX7_relateConflicts (mR h a0 0) (mR h a0 4) h (fun h2 => (isO h2 a0 0) ∧ (isO h2 (mR h2 a0 4) 4) ∧ wX6_mostUnrelated (mR h2 a0 4) h2 (fun r6 h5 => K r6 h5))
def wX6_isUnrelated_L2 (K : Int32 → AH → Prop)   : Nat → Nat → Int32 → Int32 → AH → Prop
  | 0 => fun _ _ _ _ => False
  | n + 1 => fun x0 x1 x2 h =>
  (isO h x0 4) ∧ ((mI h x0 0 ≤ x2 → K 1 h) ∧ (¬ mI h x0 0 ≤ x2 → wX9_contains x1 x2 h (fun r4 h3 => ((r4 = 0 → wX6_isUnrelated_L2 K   n x0 x1 (x2 + 1) h3) ∧ (¬ r4 = 0 → (isO h3 x0 4) ∧ (isA h3 (mR h3 x0 1) 0) ∧ (vp_in x2 (ln h3 (mR h3 x0 1))) ∧ (((mI h3 (mR h3 x0 1) x2.toNatClampNeg &&& x1) = 0 → wX6_isUnrelated_L2 K   n x0 x1 (x2 + 1) h3) ∧ (¬ (mI h3 (mR h3 x0 1) x2.toNatClampNeg &&& x1) = 0 → K 0 h3)))))))
def wX6_isUnrelated (a0 : Nat) (a1 : Int32) (h : AH) (K : Int32 → AH → Prop) : Prop :=
  (∃ n10, wX6_isUnrelated_L2 K  n10 a0 a1 0 h)
def wX6_mostUnrelatedBySets_L4 (K : Int32 → AH → Prop)   : Nat → Nat → Int32 → Int32 → AH → Prop
  | 0 => fun _ _ _ _ => False
  | n + 1 => fun x0 x1 x2 h =>
  (isO h x0 4) ∧ (((1 <<< (mI h x0 0 &&& 31)) ≤ x2 → K x1 h) ∧ (¬ (1 <<< (mI h x0 0 &&& 31)) ≤ x2 → wX6_isUnrelated x0 x2 h (fun r4 h3 => ((r4 = 0 → wX6_mostUnrelatedBySets_L4 K   n x0 x1 (x2 + 1) h3) ∧ (¬ r4 = 0 → wJ6_bitCount_0f7a4 x2 h3 (fun r7 h6 => wX6_mostUnrelatedBySets_L4 K   n x0 (if x1 < r7 then r7 else x1) (x2 + 1) h6))))))
def wX6_mostUnrelatedBySets (a0 : Nat) (h : AH) (K : Int32 → AH → Prop) : Prop :=
  (∃ n8, wX6_mostUnrelatedBySets_L4 K  n8 a0 0 0 h)
def wX9_mostWithoutConflictBySets (a0 : Nat) (h : AH) (K : Int32 → AH → Prop) : Prop :=
  (isO h a0 0) ∧ (isO h (mR h a0 0) 5) ∧ wX7_relateConflicts (mR h a0 0) (mR h a0 4) h (fun h2 => (isO h2 a0 0) ∧ (isO h2 (mR h2 a0 4) 4) ∧ wX6_mostUnrelatedBySets (mR h2 a0 4) h2 (fun r6 h5 => K r6 h5))
def wX9_refusalReason (a0 : Nat) (h : AH) (K : Int32 → AH → Prop) (T : String → AH → Prop) : Prop :=
  (isO h a0 0) ∧ ((¬ mI h a0 8 = 0 → (narrow .char (.int (mI h a0 8)) = .int (mI h a0 8)) ∧ K (mI h a0 8) h) ∧ (mI h a0 8 = 0 → T "java/util/NoSuchElementException" h))
def wX9_refusalBlock (a0 : Nat) (h : AH) (K : Int32 → AH → Prop) (T : String → AH → Prop) : Prop :=
  (isO h a0 0) ∧ ((¬ mI h a0 9 = (-1) → K (mI h a0 9) h) ∧ (mI h a0 9 = (-1) → T "java/util/NoSuchElementException" h))
def wX9_time (a0 : Nat) (h : AH) (K : Int32 → AH → Prop) : Prop :=
  (isO h a0 0) ∧ (isO h (mR h a0 0) 5) ∧ K (mI h (mR h a0 0) 7) h
def wX9_arrived (a0 : Nat) (h : AH) (K : Int32 → AH → Prop) : Prop :=
  (isO h a0 0) ∧ (isO h (mR h a0 0) 5) ∧ K (mI h (mR h a0 0) 6) h
def wX9_totalDelay (a0 : Nat) (h : AH) (K : Int64 → AH → Prop) : Prop :=
  (isO h a0 0) ∧ (isO h (mR h a0 0) 5) ∧ K (mL h (mR h a0 0) 8) h
def wX9_meanDelay (a0 : Nat) (h : AH) (K : UInt64 → AH → Prop) (T : String → AH → Prop) : Prop :=
  (isO h a0 0) ∧ (isO h (mR h a0 0) 5) ∧ ((¬ mI h (mR h a0 0) 5 = 0 → (vf_n64 (FP.ddiv (FP.l2d (mL h (mR h a0 0) 8)) (FP.i2d (mI h (mR h a0 0) 5)))) ∧ K (FP.ddiv (FP.l2d (mL h (mR h a0 0) 8)) (FP.i2d (mI h (mR h a0 0) 5))) h) ∧ (mI h (mR h a0 0) 5 = 0 → T "java/lang/ArithmeticException" h))
def wX9_usedShare (a0 : Nat) (h : AH) (K : UInt32 → AH → Prop) (T : String → AH → Prop) : Prop :=
  (isO h a0 0) ∧ (isO h (mR h a0 0) 5) ∧ (isO h (mR h (mR h a0 0) 0) 2) ∧ ((¬ mI h (mR h (mR h a0 0) 0) 0 = 0 → wX7_held (mR h a0 0) h (fun r6 h5 => wJ6_bitCount_0f7a4 r6 h5 (fun r8 h7 => (isO h7 a0 0) ∧ (isO h7 (mR h7 a0 0) 5) ∧ (isO h7 (mR h7 (mR h7 a0 0) 0) 2) ∧ (vf_n32 (FP.fdiv (FP.i2f r8) (FP.i2f (mI h7 (mR h7 (mR h7 a0 0) 0) 0)))) ∧ K (FP.fdiv (FP.i2f r8) (FP.i2f (mI h7 (mR h7 (mR h7 a0 0) 0) 0))) h7))) ∧ (mI h (mR h (mR h a0 0) 0) 0 = 0 → T "java/lang/ArithmeticException" h))
def wX3_lineIsSound_L4 (K : Int32 → AH → Prop) (c66 : Nat → Int32 → AH → Prop)  : Nat → Nat → Int32 → Int32 → AH → Prop
  | 0 => fun _ _ _ _ => False
  | n + 1 => fun x0 x1 x2 h =>
  (isO h x0 2) ∧ ((mI h x0 0 ≤ x2 → c66 x0 x1 h) ∧ (¬ mI h x0 0 ≤ x2 → wX4_leadsTo x0 x2 x2 h (fun r4 h3 => (isO h3 x0 2) ∧ wX4_lengthOf x0 x2 h3 (fun r6 h5 => ((r6 < 1 → K 0 h5) ∧ (¬ r6 < 1 → (isO h5 x0 2) ∧ wX4_lengthOf x0 x2 h5 (fun r9 h8 => ((9 < r9 → K 0 h8) ∧ (¬ 9 < r9 → ((r4 = 0 → (isO h8 x0 2) ∧ wX4_hasExit x0 x2 h8 (fun r13 h12 => ((r13 = 0 → wX3_lineIsSound_L4 K c66  n x0 (x1 + 0) (x2 + 1) h12) ∧ (¬ r13 = 0 → wX3_lineIsSound_L4 K c66  n x0 (x1 + 1) (x2 + 1) h12)))) ∧ (¬ r4 = 0 → K 0 h8)))))))))))
def wX3_lineIsSound_L70 (K : Int32 → AH → Prop)   : Nat → Nat → Int32 → Int32 → Int32 → AH → Prop
  | 0 => fun _ _ _ _ _ => False
  | n + 1 => fun x0 x1 x2 x3 h =>
  (isO h x0 2) ∧ ((mI h x0 1 ≤ x3 → ((¬ x1 = (mI h x0 1 + mI h x0 2) → K 0 h) ∧ (x1 = (mI h x0 1 + mI h x0 2) → ((¬ (mI h x0 4 &&& (x2 ^^^ (-1))) = 0 → K 0 h) ∧ ((mI h x0 4 &&& (x2 ^^^ (-1))) = 0 → ((¬ (mI h x0 3 &&& (((1 <<< (mI h x0 0 &&& 31)) - 1) ^^^ (-1))) = 0 → K 0 h) ∧ ((mI h x0 3 &&& (((1 <<< (mI h x0 0 &&& 31)) - 1) ^^^ (-1))) = 0 → K 1 h))))))) ∧ (¬ mI h x0 1 ≤ x3 → wX4_stemOf x0 x3 h (fun r27 h26 => (isO h26 x0 2) ∧ wX4_isStem x0 r27 h26 (fun r29 h28 => ((r29 = 0 → K 0 h28) ∧ (¬ r29 = 0 → wX9_contains x2 r27 h28 (fun r32 h31 => ((r32 = 0 → wX3_lineIsSound_L70 K   n x0 x1 (x2 ||| (1 <<< (r27 &&& 31))) (x3 + 1) h31) ∧ (¬ r32 = 0 → K 0 h31)))))))))
def wX3_lineIsSound (a0 : Nat) (h : AH) (K : Int32 → AH → Prop) : Prop :=
  (∃ n36, wX3_lineIsSound_L4 K (fun x0_18 x1_19 h20 => (∃ n35, wX3_lineIsSound_L70 K  n35 x0_18 x1_19 0 0 h20)) n36 a0 0 0 h)
def wX3_trainsAreSound_J73 (K : Int32 → AH → Prop) (c7 : Nat → Int64 → Int32 → Int32 → AH → Prop) (x0 : Nat) (x1 : Int64) (x3 : Int32) (x4 : Int32) (x5 : Nat) (y0 : Int32) (h : AH) : Prop :=
  ((y0 = 0 → K 0 h) ∧ (¬ y0 = 0 → (isO h x5 6) ∧ ((mI h x5 0 ≤ x3 → K 0 h) ∧ (¬ mI h x5 0 ≤ x3 → ((0 ≤ mI h x5 5 → c7 x0 (x1 + (mI h x5 5).toInt64) (mI h x5 0) (x4 + 1) h) ∧ (¬ 0 ≤ mI h x5 5 → K 0 h))))))
def wX3_trainsAreSound_J72 (K : Int32 → AH → Prop) (c7 : Nat → Int64 → Int32 → Int32 → AH → Prop) (x0 : Nat) (x1 : Int64) (x3 : Int32) (x4 : Int32) (x5 : Nat) (h : AH) : Prop :=
  (wX3_trainsAreSound_J73 K c7 x0 x1 x3 x4 x5 0 h)
def wX3_trainsAreSound_L7 (K : Int32 → AH → Prop)   : Nat → Nat → Int64 → Int32 → Int32 → AH → Prop
  | 0 => fun _ _ _ _ _ => False
  | n + 1 => fun x0 x1 x3 x4 h =>
  (isO h x0 5) ∧ ((mI h x0 3 ≤ x4 → ((mI h x0 5 ≤ x3 → K 0 h) ∧ (¬ mI h x0 5 ≤ x3 → ((¬ (mI h x0 3 + mI h x0 6) = mI h x0 5 → K 0 h) ∧ ((mI h x0 3 + mI h x0 6) = mI h x0 5 → ((0 < (lg_cmp x1 (mL h x0 8)) → K 0 h) ∧ (¬ 0 < (lg_cmp x1 (mL h x0 8)) → K 1 h))))))) ∧ (¬ mI h x0 3 ≤ x4 → (isA h (mR h x0 1) 6) ∧ (vp_in x4 (ln h (mR h x0 1))) ∧ (isO h (mR h (mR h x0 1) x4.toNatClampNeg) 6) ∧ (isO h (mR h x0 0) 2) ∧ wX4_has (mR h x0 0) (mI h (mR h (mR h x0 1) x4.toNatClampNeg) 1) h (fun r10 h9 => ((r10 = 0 → (wX3_trainsAreSound_J72 K (wX3_trainsAreSound_L7 K   n) x0 x1 x3 x4 (mR h (mR h x0 1) x4.toNatClampNeg) h9)) ∧ (¬ r10 = 0 → (isO h9 x0 5) ∧ (isO h9 (mR h (mR h x0 1) x4.toNatClampNeg) 6) ∧ (isO h9 (mR h9 x0 0) 2) ∧ wX4_has (mR h9 x0 0) (mI h9 (mR h (mR h x0 1) x4.toNatClampNeg) 2) h9 (fun r19 h18 => ((r19 = 0 → (wX3_trainsAreSound_J72 K (wX3_trainsAreSound_L7 K   n) x0 x1 x3 x4 (mR h (mR h x0 1) x4.toNatClampNeg) h18)) ∧ (¬ r19 = 0 → (isO h18 (mR h (mR h x0 1) x4.toNatClampNeg) 6) ∧ ((mI h18 (mR h (mR h x0 1) x4.toNatClampNeg) 1 = mI h18 (mR h (mR h x0 1) x4.toNatClampNeg) 2 → (wX3_trainsAreSound_J72 K (wX3_trainsAreSound_L7 K   n) x0 x1 x3 x4 (mR h (mR h x0 1) x4.toNatClampNeg) h18)) ∧ (¬ mI h18 (mR h (mR h x0 1) x4.toNatClampNeg) 1 = mI h18 (mR h (mR h x0 1) x4.toNatClampNeg) 2 → (wX3_trainsAreSound_J73 K (wX3_trainsAreSound_L7 K   n) x0 x1 x3 x4 (mR h (mR h x0 1) x4.toNatClampNeg) 1 h18)))))))))))
def wX3_trainsAreSound (a0 : Nat) (h : AH) (K : Int32 → AH → Prop) : Prop :=
  (∃ n25, wX3_trainsAreSound_L7 K  n25 a0 0 (-1) 0 h)
def wX3_blocksAreHeldOnce_L4 (K : Int32 → AH → Prop)   : Nat → Nat → Int32 → Int32 → AH → Prop
  | 0 => fun _ _ _ _ => False
  | n + 1 => fun x0 x1 x2 h =>
  (isO h x0 5) ∧ ((mI h x0 3 ≤ x2 → K 1 h) ∧ (¬ mI h x0 3 ≤ x2 → (isA h (mR h x0 1) 6) ∧ (vp_in x2 (ln h (mR h x0 1))) ∧ (isO h (mR h (mR h x0 1) x2.toNatClampNeg) 6) ∧ wX9_contains (mI h (mR h (mR h x0 1) x2.toNatClampNeg) 3) (mI h (mR h (mR h x0 1) x2.toNatClampNeg) 1) h (fun r7 h6 => (isO h6 (mR h (mR h x0 1) x2.toNatClampNeg) 6) ∧ wX8_held (mR h (mR h x0 1) x2.toNatClampNeg) h6 (fun r9 h8 => ((¬ (x1 &&& r9) = 0 → K 0 h8) ∧ ((x1 &&& r9) = 0 → (isO h8 x0 5) ∧ (isO h8 (mR h8 x0 0) 2) ∧ (isO h8 (mR h (mR h x0 1) x2.toNatClampNeg) 6) ∧ ((¬ (mI h8 (mR h8 x0 0) 3 &&& mI h8 (mR h (mR h x0 1) x2.toNatClampNeg) 3) = 0 → K 0 h8) ∧ ((mI h8 (mR h8 x0 0) 3 &&& mI h8 (mR h (mR h x0 1) x2.toNatClampNeg) 3) = 0 → ((r7 = 0 → wX8_held (mR h (mR h x0 1) x2.toNatClampNeg) h8 (fun r17 h16 => wX3_blocksAreHeldOnce_L4 K   n x0 (x1 ||| r17) (x2 + 1) h16)) ∧ (¬ r7 = 0 → K 0 h8))))))))))
def wX3_blocksAreHeldOnce (a0 : Nat) (h : AH) (K : Int32 → AH → Prop) : Prop :=
  (∃ n19, wX3_blocksAreHeldOnce_L4 K  n19 a0 0 0 h)
def wX3_blocksAhead_L10 (K : Int32 → AH → Prop)   : Nat → Nat → Nat → Int32 → Int32 → Int32 → AH → Prop
  | 0 => fun _ _ _ _ _ _ => False
  | n + 1 => fun x0 x1 x2 x3 x4 h =>
  ((12 ≤ x4 → K x2 h) ∧ (¬ 12 ≤ x4 → (isO h x0 2) ∧ wX4_has x0 x3 h (fun r4 h3 => ((r4 = 0 → K x2 h3) ∧ (¬ r4 = 0 → (isO h3 x1 6) ∧ ((x3 = mI h3 x1 2 → K x2 h3) ∧ (¬ x3 = mI h3 x1 2 → (isO h3 x0 2) ∧ wX4_exitOf x0 x3 h3 (fun r9 h8 => wX3_blocksAhead_L10 K   n x0 x1 (x2 ||| (1 <<< (r9 &&& 31))) r9 (x4 + 1) h8))))))))
def wX3_blocksAhead (a0 : Nat) (a1 : Nat) (h : AH) (K : Int32 → AH → Prop) : Prop :=
  (isO h a1 6) ∧ (∃ n12, wX3_blocksAhead_L10 K  n12 a0 a1 0 (mI h a1 1) 0 h)
def wX3_routesAreSound_J67 (K : Int32 → AH → Prop) (c2 : Nat → Int32 → AH → Prop) (x0 : Nat) (x1 : Int32) (x2 : Nat) (x3 : Int32) (x4 : Int32) (y0 : Int32) (h : AH) : Prop :=
  (isO h x2 6) ∧ wX8_isRouted x2 h (fun r18 h17 => ((r18 = 0 → c2 x0 (x1 + 1) h17) ∧ (¬ r18 = 0 → ((y0 = 0 → K 0 h17) ∧ (¬ y0 = 0 → ((x3 < 1 → K 0 h17) ∧ (¬ x3 < 1 → ((x3 ≤ x4 → c2 x0 (x1 + 1) h17) ∧ (¬ x3 ≤ x4 → K 0 h17)))))))))
def wX3_routesAreSound_L2 (K : Int32 → AH → Prop)   : Nat → Nat → Int32 → AH → Prop
  | 0 => fun _ _ _ => False
  | n + 1 => fun x0 x1 h =>
  (isO h x0 5) ∧ ((mI h x0 3 ≤ x1 → K 1 h) ∧ (¬ mI h x0 3 ≤ x1 → (isA h (mR h x0 1) 6) ∧ (vp_in x1 (ln h (mR h x0 1))) ∧ (isO h (mR h (mR h x0 1) x1.toNatClampNeg) 6) ∧ ∀ v6 : Int32, v6 = (mI h (mR h (mR h x0 1) x1.toNatClampNeg) 4 - mI h x0 7) → (isO h (mR h x0 0) 2) ∧ wX4_exitOf (mR h x0 0) (mI h (mR h (mR h x0 1) x1.toNatClampNeg) 1) h (fun r9 h8 => (isO h8 (mR h x0 0) 2) ∧ wX4_lengthOf (mR h x0 0) r9 h8 (fun r11 h10 => (isO h10 x0 5) ∧ wX3_blocksAhead (mR h10 x0 0) (mR h (mR h x0 1) x1.toNatClampNeg) h10 (fun r14 h13 => (isO h13 (mR h (mR h x0 1) x1.toNatClampNeg) 6) ∧ ((¬ r14 = mI h13 (mR h (mR h x0 1) x1.toNatClampNeg) 3 → (wX3_routesAreSound_J67 K (wX3_routesAreSound_L2 K   n) x0 x1 (mR h (mR h x0 1) x1.toNatClampNeg) v6 r11 0 h13)) ∧ (r14 = mI h13 (mR h (mR h x0 1) x1.toNatClampNeg) 3 → (wX3_routesAreSound_J67 K (wX3_routesAreSound_L2 K   n) x0 x1 (mR h (mR h x0 1) x1.toNatClampNeg) v6 r11 1 h13))))))))
def wX3_routesAreSound (a0 : Nat) (h : AH) (K : Int32 → AH → Prop) : Prop :=
  (∃ n26, wX3_routesAreSound_L2 K  n26 a0 0 h)
def wX3_queueIsSound_L4 (K : Int32 → AH → Prop) (c38 : Nat → Int32 → AH → Prop)  : Nat → Nat → Int32 → Int32 → AH → Prop
  | 0 => fun _ _ _ _ => False
  | n + 1 => fun x0 x1 x2 h =>
  (isO h x0 5) ∧ ((mI h x0 3 ≤ x2 → c38 x0 x1 h) ∧ (¬ mI h x0 3 ≤ x2 → (isA h (mR h x0 1) 6) ∧ (vp_in x2 (ln h (mR h x0 1))) ∧ (isO h (mR h (mR h x0 1) x2.toNatClampNeg) 6) ∧ wX8_isRouted (mR h (mR h x0 1) x2.toNatClampNeg) h (fun r6 h5 => ((r6 = 0 → wX3_queueIsSound_L4 K c38  n x0 (x1 + 0) (x2 + 1) h5) ∧ (¬ r6 = 0 → wX3_queueIsSound_L4 K c38  n x0 (x1 + 1) (x2 + 1) h5)))))
def wX3_queueIsSound_L74 (K : Int32 → AH → Prop) (c102 : Nat → Int32 → Int32 → AH → Prop)  : Nat → Nat → Int32 → Int32 → Int32 → AH → Prop
  | 0 => fun _ _ _ _ _ => False
  | n + 1 => fun x0 x1 x2 x4 h =>
  ((x2 ≤ x4 → c102 x0 x1 x2 h) ∧ (¬ x2 ≤ x4 → (isO h x0 5) ∧ wX7_inQueue x0 x4 h (fun r25 h24 => (isO h24 x0 5) ∧ wX7_inQueue x0 x2 h24 (fun r27 h26 => ((¬ r25 = r27 → wX3_queueIsSound_L74 K c102  n x0 x1 x2 (x4 + 1) h26) ∧ (r25 = r27 → K 0 h26))))))
def wX3_queueIsSound_L40 (K : Int32 → AH → Prop)   : Nat → Nat → Int32 → Int32 → AH → Prop
  | 0 => fun _ _ _ _ => False
  | n + 1 => fun x0 x1 x2 h =>
  (isO h x0 5) ∧ ((mI h x0 4 ≤ x2 → ((¬ (x1 + mI h x0 4) = mI h x0 3 → K 0 h) ∧ ((x1 + mI h x0 4) = mI h x0 3 → K 1 h))) ∧ (¬ mI h x0 4 ≤ x2 → wX7_inQueue x0 x2 h (fun r16 h15 => (isO h15 x0 5) ∧ wX7_find x0 r16 h15 (fun r18 h17 => ((r18 = 0 → K 0 h17) ∧ (¬ r18 = 0 → (isO h17 r18 6) ∧ wX8_isRouted r18 h17 (fun r21 h20 => ((r21 = 0 → (∃ n35, wX3_queueIsSound_L74 K (fun x0_31 x1_32 x2_33 h34 => wX3_queueIsSound_L40 K   n x0_31 x1_32 (x2_33 + 1) h34) n35 x0 x1 x2 0 h20)) ∧ (¬ r21 = 0 → K 0 h20)))))))))
def wX3_queueIsSound (a0 : Nat) (h : AH) (K : Int32 → AH → Prop) : Prop :=
  (∃ n39, wX3_queueIsSound_L4 K (fun x0_9 x1_10 h11 => (∃ n38, wX3_queueIsSound_L40 K  n38 x0_9 x1_10 0 h11)) n39 a0 0 0 h)
def wX3_hold (a0 : Nat) (h : AH) (K : Int32 → AH → Prop) : Prop :=
  (isO h a0 5) ∧ wX3_lineIsSound (mR h a0 0) h (fun r3 h2 => ((r3 = 0 → K 0 h2) ∧ (¬ r3 = 0 → wX3_trainsAreSound a0 h2 (fun r6 h5 => ((r6 = 0 → K 0 h5) ∧ (¬ r6 = 0 → wX3_blocksAreHeldOnce a0 h5 (fun r9 h8 => ((r9 = 0 → K 0 h8) ∧ (¬ r9 = 0 → wX3_routesAreSound a0 h8 (fun r12 h11 => ((r12 = 0 → K 0 h11) ∧ (¬ r12 = 0 → wX3_queueIsSound a0 h11 (fun r15 h14 => ((r15 = 0 → K 0 h14) ∧ (¬ r15 = 0 → K 1 h14)))))))))))))))
def wX9_isConsistent (a0 : Nat) (h : AH) (K : Int32 → AH → Prop) : Prop :=
  (isO h a0 0) ∧ wX3_hold (mR h a0 0) h (fun r3 h2 => (narrow .boolean (.int r3) = .int r3) ∧ K r3 h2)
def wJ8_newLength_cabcc_J21 (K : Int32 → AH → Prop)  (x0 : Int32) (x1 : Int32) (h : AH) : Prop :=
  False
def wJ8_newLength_cabcc (a0 : Int32) (a1 : Int32) (a2 : Int32) (h : AH) (K : Int32 → AH → Prop) : Prop :=
  (((a0 + (if a1 < a2 then a2 else a1)) ≤ 0 → (wJ8_newLength_cabcc_J21 K a0 a1 h)) ∧ (¬ (a0 + (if a1 < a2 then a2 else a1)) ≤ 0 → ((2147483639 < (a0 + (if a1 < a2 then a2 else a1)) → (wJ8_newLength_cabcc_J21 K a0 a1 h)) ∧ (¬ 2147483639 < (a0 + (if a1 < a2 then a2 else a1)) → K (a0 + (if a1 < a2 then a2 else a1)) h))))
def wJ5_newCapacity_0f7a4 (a0 : Nat) (a1 : Int32) (h : AH) (K : Int32 → AH → Prop) : Prop :=
  (isO h a0 8) ∧ (isA h (mR h a0 0) 3) ∧ ∀ v3 : Int32, v3 = ((a1 <<< (mI h a0 1 &&& 31)) - nI (ln h (mR h a0 0))) → wJ8_newLength_cabcc (nI (ln h (mR h a0 0))) v3 (nI (ln h (mR h a0 0)) + (2 <<< (mI h a0 1 &&& 31))) h (fun r6 h5 => ((¬ r6 = 2147483647 → (isO h5 a0 8) ∧ K (r6 >>> (mI h5 a0 1 &&& 31)) h5) ∧ (r6 = 2147483647 → False)))
def wJ7_copyOf_9075b (a0 : Nat) (a1 : Int32) (h : AH) (K : Nat → AH → Prop) : Prop :=
  (isA h a0 3) ∧ ((¬ a1 = nI (ln h a0) → (¬ a1 < 0) ∧ (a1.toNatClampNeg ≤ 256) ∧ ∀ h5, h5 = nw h 103 a1.toNatClampNeg → (isA h5 a0 3) ∧ (isA h5 (mN h) 3) ∧ (nZ ≤ a0) ∧ (nZ ≤ (mN h)) ∧ (¬ (if a1 < nI (ln h5 a0) then a1 else nI (ln h5 a0)) < 0) ∧ ((0 : Int32).toNatClampNeg + (if a1 < nI (ln h5 a0) then a1 else nI (ln h5 a0)).toNatClampNeg ≤ ln h5 a0) ∧ ((0 : Int32).toNatClampNeg + (if a1 < nI (ln h5 a0) then a1 else nI (ln h5 a0)).toNatClampNeg ≤ ln h5 (mN h)) ∧ (∀ i, i < (if a1 < nI (ln h5 a0) then a1 else nI (ln h5 a0)).toNatClampNeg → fits .byte (.int (mI h5 a0 ((0 : Int32).toNatClampNeg + i))) = true) ∧ ∀ h14, h14 = uA h5 (mN h) (va_cpy (mI h5 a0) (mI h5 (mN h)) (0 : Int32).toNatClampNeg (0 : Int32).toNatClampNeg (if a1 < nI (ln h5 a0) then a1 else nI (ln h5 a0)).toNatClampNeg) → K (mN h) h14) ∧ (a1 = nI (ln h a0) → False))
def wJ5_ensureCapacityInternal_d00df (a0 : Nat) (a1 : Int32) (h : AH) (K : AH → Prop) : Prop :=
  (isO h a0 8) ∧ (isA h (mR h a0 0) 3) ∧ ∀ v3 : Int32, v3 = (nI (ln h (mR h a0 0)) >>> (mI h a0 1 &&& 31)) → (((a1 - v3) ≤ 0 → K h) ∧ (¬ (a1 - v3) ≤ 0 → wJ5_newCapacity_0f7a4 a0 a1 h (fun r7 h6 => (isO h6 a0 8) ∧ wJ7_copyOf_9075b (mR h a0 0) (r7 <<< (mI h6 a0 1 &&& 31)) h6 (fun r10 h9 => (isO h9 a0 8) ∧ ∀ h12, h12 = uR h9 a0 0 r10 → K h12))))
def wJ5_isLatin1_aae02 (a0 : Nat) (h : AH) (K : Int32 → AH → Prop) : Prop :=
  ((1 = 0 → K 0 h) ∧ (¬ 1 = 0 → (isO h a0 8) ∧ ((¬ mI h a0 1 = 0 → K 0 h) ∧ (mI h a0 1 = 0 → K 1 h))))
def wJ5_setLength_d00df_J76 (K : AH → Prop) (T : String → AH → Prop)  (x0 : Nat) (x1 : Int32) (h : AH) : Prop :=
  (isO h x0 8) ∧ ∀ h8, h8 = uI h x0 3 x1 → K h8
def wJ5_setLength_d00df (a0 : Nat) (a1 : Int32) (h : AH) (K : AH → Prop) (T : String → AH → Prop) : Prop :=
  ((0 ≤ a1 → (isO h a0 8) ∧ wJ5_ensureCapacityInternal_d00df a0 a1 h (fun h2 => (isO h2 a0 8) ∧ ((a1 ≤ mI h2 a0 3 → ((mI h2 a0 3 ≤ a1 → (wJ5_setLength_d00df_J76 K T a0 a1 h2)) ∧ (¬ mI h2 a0 3 ≤ a1 → ∀ h9, h9 = uI h2 a0 2 1 → (wJ5_setLength_d00df_J76 K T a0 a1 h9)))) ∧ (¬ a1 ≤ mI h2 a0 3 → wJ5_isLatin1_aae02 a0 h2 (fun r11 h10 => ((r11 = 0 → False) ∧ (¬ r11 = 0 → False))))))) ∧ (¬ 0 ≤ a1 → False))
def wJ4_setLength_d00df (a0 : Nat) (a1 : Int32) (h : AH) (K : AH → Prop) (T : String → AH → Prop) : Prop :=
  (isO h a0 8) ∧ wJ5_setLength_d00df a0 a1 h (fun h1 => K h1) T
def wJ1_canEncode_fc78d (a0 : Int32) (h : AH) (K : Int32 → AH → Prop) : Prop :=
  ((255 < a0 → K 0 h) ∧ (¬ 255 < a0 → K 1 h))
def wJ5_append_3fe6f_J56 (K : Nat → AH → Prop)  (x0 : Nat) (x1 : Int32) (h : AH) : Prop :=
  False
def wJ5_append_3fe6f_J45 (K : Nat → AH → Prop)  (x0 : Nat) (x1 : Int32) (h : AH) : Prop :=
  (isO h x0 8) ∧ wJ5_isLatin1_aae02 x0 h (fun r8 h7 => ((r8 = 0 → (wJ5_append_3fe6f_J56 K x0 x1 h7)) ∧ (¬ r8 = 0 → False)))
def wJ5_append_3fe6f (a0 : Nat) (a1 : Int32) (h : AH) (K : Nat → AH → Prop) : Prop :=
  (isO h a0 8) ∧ wJ5_ensureCapacityInternal_d00df a0 (mI h a0 3 + 1) h (fun h2 => (isO h2 a0 8) ∧ wJ5_isLatin1_aae02 a0 h2 (fun r5 h4 => ((r5 = 0 → (wJ5_append_3fe6f_J45 K a0 a1 h4)) ∧ (¬ r5 = 0 → wJ1_canEncode_fc78d a1 h4 (fun r14 h13 => ((r14 = 0 → (wJ5_append_3fe6f_J45 K a0 a1 h13)) ∧ (¬ r14 = 0 → (isO h13 a0 8) ∧ ∀ h17, h17 = uI h13 a0 3 (mI h13 a0 3 + 1) → (isA h13 (mR h13 a0 0) 3) ∧ (nZ ≤ (mR h13 a0 0)) ∧ (vp_in (mI h13 a0 3) (ln h13 (mR h13 a0 0))) ∧ ∀ h21, h21 = uI h17 (mR h13 a0 0) (mI h13 a0 3).toNatClampNeg (vp_nar .byte a1.toInt8.toInt32) → K a0 h21)))))))
def wJ4_append_cf468 (a0 : Nat) (a1 : Int32) (h : AH) (K : Nat → AH → Prop) : Prop :=
  (isO h a0 8) ∧ wJ5_append_3fe6f a0 a1 h (fun r2 h1 => K a0 h1)
def wJ6_stringSize_0f7a4_L16 (K : Int32 → AH → Prop)   : Nat → Int32 → Int32 → Int32 → Int32 → AH → Prop
  | 0 => fun _ _ _ _ _ => False
  | n + 1 => fun x0 x1 x2 x3 h =>
  ((10 ≤ x3 → K (10 + x1) h) ∧ (¬ 10 ≤ x3 → ((x0 ≤ x2 → wJ6_stringSize_0f7a4_L16 K   n x0 x1 (10 * x2) (x3 + 1) h) ∧ (¬ x0 ≤ x2 → K (x3 + x1) h))))
def wJ6_stringSize_0f7a4 (a0 : Int32) (h : AH) (K : Int32 → AH → Prop) : Prop :=
  ((a0 < 0 → (∃ n4, wJ6_stringSize_0f7a4_L16 K  n4 a0 1 (-10) 1 h)) ∧ (¬ a0 < 0 → (∃ n5, wJ6_stringSize_0f7a4_L16 K  n5 (-a0) 0 (-10) 1 h)))
def wJ6_getChars_ba4f3_L22 (K : Int32 → AH → Prop) (c72 : Int32 → Nat → Int32 → Int32 → AH → Prop)  : Nat → Int32 → Nat → Int32 → Int32 → AH → Prop
  | 0 => fun _ _ _ _ _ => False
  | n + 1 => fun x0 x2 x5 x6 h =>
  (((-100) < x0 → c72 x0 x2 x5 x6 h) ∧ (¬ (-100) < x0 → (isA h 15 3) ∧ (vp_in (((x0 / 100) * 100) - x0) (ln h 15)) ∧ (isA h x2 3) ∧ (nZ ≤ x2) ∧ (vp_in (x5 + (-1)) (ln h x2)) ∧ ∀ h9, h9 = uI h x2 (x5 + (-1)).toNatClampNeg (vp_nar .byte (mI h 15 (((x0 / 100) * 100) - x0).toNatClampNeg)) → (isA h 14 3) ∧ (vp_in (((x0 / 100) * 100) - x0) (ln h 14)) ∧ (vp_in ((x5 + (-1)) + (-1)) (ln h x2)) ∧ ∀ h13, h13 = uI h9 x2 ((x5 + (-1)) + (-1)).toNatClampNeg (vp_nar .byte (mI h9 14 (((x0 / 100) * 100) - x0).toNatClampNeg)) → wJ6_getChars_ba4f3_L22 K c72  n (x0 / 100) x2 ((x5 + (-1)) + (-1)) x6 h13))
def wJ6_getChars_ba4f3_J104 (K : Int32 → AH → Prop)  (x2 : Nat) (x5 : Int32) (x6 : Int32) (h : AH) : Prop :=
  ((x6 = 0 → K x5 h) ∧ (¬ x6 = 0 → (isA h x2 3) ∧ (nZ ≤ x2) ∧ (vp_in (x5 + (-1)) (ln h x2)) ∧ ∀ h30, h30 = uI h x2 (x5 + (-1)).toNatClampNeg (vp_nar .byte 45) → K (x5 + (-1)) h30))
def wJ6_getChars_ba4f3_J12 (K : Int32 → AH → Prop)  (x0 : Int32) (x2 : Nat) (x5 : Int32) (y0 : Int32) (h : AH) : Prop :=
  ((¬ y0 = 0 → (∃ n35, wJ6_getChars_ba4f3_L22 K (fun x0_14 x2_15 x5_16 x6_17 h18 => (isA h18 15 3) ∧ (vp_in (-x0_14) (ln h18 15)) ∧ (isA h18 x2_15 3) ∧ (nZ ≤ x2_15) ∧ (vp_in (x5_16 + (-1)) (ln h18 x2_15)) ∧ ∀ h24, h24 = uI h18 x2_15 (x5_16 + (-1)).toNatClampNeg (vp_nar .byte (mI h18 15 (-x0_14).toNatClampNeg)) → (((-9) ≤ x0_14 → (wJ6_getChars_ba4f3_J104 K x2_15 (x5_16 + (-1)) x6_17 h24)) ∧ (¬ (-9) ≤ x0_14 → (isA h18 14 3) ∧ (vp_in (-x0_14) (ln h18 14)) ∧ (vp_in ((x5_16 + (-1)) + (-1)) (ln h18 x2_15)) ∧ ∀ h34, h34 = uI h24 x2_15 ((x5_16 + (-1)) + (-1)).toNatClampNeg (vp_nar .byte (mI h24 14 (-x0_14).toNatClampNeg)) → (wJ6_getChars_ba4f3_J104 K x2_15 ((x5_16 + (-1)) + (-1)) x6_17 h34)))) n35 x0 x2 x5 y0 h)) ∧ (y0 = 0 → (∃ n52, wJ6_getChars_ba4f3_L22 K (fun x0_36 x2_37 x5_38 x6_39 h40 => (isA h40 15 3) ∧ (vp_in (-x0_36) (ln h40 15)) ∧ (isA h40 x2_37 3) ∧ (nZ ≤ x2_37) ∧ (vp_in (x5_38 + (-1)) (ln h40 x2_37)) ∧ ∀ h46, h46 = uI h40 x2_37 (x5_38 + (-1)).toNatClampNeg (vp_nar .byte (mI h40 15 (-x0_36).toNatClampNeg)) → (((-9) ≤ x0_36 → (wJ6_getChars_ba4f3_J104 K x2_37 (x5_38 + (-1)) x6_39 h46)) ∧ (¬ (-9) ≤ x0_36 → (isA h40 14 3) ∧ (vp_in (-x0_36) (ln h40 14)) ∧ (vp_in ((x5_38 + (-1)) + (-1)) (ln h40 x2_37)) ∧ ∀ h51, h51 = uI h46 x2_37 ((x5_38 + (-1)) + (-1)).toNatClampNeg (vp_nar .byte (mI h46 14 (-x0_36).toNatClampNeg)) → (wJ6_getChars_ba4f3_J104 K x2_37 ((x5_38 + (-1)) + (-1)) x6_39 h51)))) n52 (-x0) x2 x5 y0 h)))
def wJ6_getChars_ba4f3 (a0 : Int32) (a1 : Int32) (a2 : Nat) (h : AH) (K : Int32 → AH → Prop) : Prop :=
  ((0 ≤ a0 → (wJ6_getChars_ba4f3_J12 K a0 a2 a1 0 h)) ∧ (¬ 0 ≤ a0 → (wJ6_getChars_ba4f3_J12 K a0 a2 a1 1 h)))
def wJ5_append_c97b9_J48 (K : Nat → AH → Prop)  (x0 : Nat) (x3 : Int32) (h : AH) : Prop :=
  (isO h x0 8) ∧ ∀ h14, h14 = uI h x0 3 x3 → K x0 h14
def wJ5_append_c97b9 (a0 : Nat) (a1 : Int32) (h : AH) (K : Nat → AH → Prop) : Prop :=
  (isO h a0 8) ∧ wJ6_stringSize_0f7a4 a1 h (fun r3 h2 => (isO h2 a0 8) ∧ wJ5_ensureCapacityInternal_d00df a0 (mI h a0 3 + r3) h2 (fun h4 => (isO h4 a0 8) ∧ wJ5_isLatin1_aae02 a0 h4 (fun r7 h6 => ((r7 = 0 → False) ∧ (¬ r7 = 0 → (isO h6 a0 8) ∧ wJ6_getChars_ba4f3 a1 (mI h a0 3 + r3) (mR h6 a0 0) h6 (fun r12 h11 => (wJ5_append_c97b9_J48 K a0 (mI h a0 3 + r3) h11)))))))
def wJ4_append_bf812 (a0 : Nat) (a1 : Int32) (h : AH) (K : Nat → AH → Prop) : Prop :=
  (isO h a0 8) ∧ wJ5_append_c97b9 a0 a1 h (fun r2 h1 => K a0 h1)
def wJ5_length_8abf5 (a0 : Nat) (h : AH) (K : Int32 → AH → Prop) : Prop :=
  (isO h a0 8) ∧ K (mI h a0 3) h
def wJ4_length_8abf5 (a0 : Nat) (h : AH) (K : Int32 → AH → Prop) : Prop :=
  (isO h a0 8) ∧ wJ5_length_8abf5 a0 h (fun r2 h1 => K r2 h1)
def wX9_writeBlocks_J54 (K : Int32 → AH → Prop) (T : String → AH → Prop) (c10 : Nat → Int32 → AH → Prop) (x0 : Nat) (x1 : Int32) (h : AH) : Prop :=
  (isO h x0 0) ∧ (isO h (mR h x0 0) 5) ∧ wX7_holderOf (mR h x0 0) x1 h (fun r19 h18 => (isO h18 (mR h x0 6) 8) ∧ wJ4_append_bf812 (mR h x0 6) r19 h18 (fun r21 h20 => c10 x0 (x1 + 1) h20))
def wX9_writeBlocks_L10 (K : Int32 → AH → Prop) (T : String → AH → Prop)   : Nat → Nat → Int32 → AH → Prop
  | 0 => fun _ _ _ => False
  | n + 1 => fun x0 x1 h =>
  (isO h x0 0) ∧ (isO h (mR h x0 0) 5) ∧ (isO h (mR h (mR h x0 0) 0) 2) ∧ ((mI h (mR h (mR h x0 0) 0) 0 ≤ x1 → (isO h (mR h x0 6) 8) ∧ wJ4_length_8abf5 (mR h x0 6) h (fun r9 h8 => K r9 h8)) ∧ (¬ mI h (mR h (mR h x0 0) 0) 0 ≤ x1 → wX7_stateOf (mR h x0 0) x1 h (fun r12 h11 => (isO h11 x0 0) ∧ (isO h11 (mR h11 x0 6) 8) ∧ wJ4_append_cf468 (mR h11 x0 6) r12 h11 (fun r15 h14 => ((r12 = 111 → (wX9_writeBlocks_J54 K T (wX9_writeBlocks_L10 K T   n) x0 x1 h14)) ∧ (¬ r12 = 111 → ((¬ r12 = 114 → wX9_writeBlocks_L10 K T   n x0 (x1 + 1) h14) ∧ (r12 = 114 → (wX9_writeBlocks_J54 K T (wX9_writeBlocks_L10 K T   n) x0 x1 h14)))))))))
def wX9_writeBlocks (a0 : Nat) (h : AH) (K : Int32 → AH → Prop) (T : String → AH → Prop) : Prop :=
  (isO h a0 0) ∧ (isO h (mR h a0 6) 8) ∧ wJ4_setLength_d00df (mR h a0 6) 0 h (fun h2 => (∃ n26, n26 ≤ 13 ∧ wX9_writeBlocks_L10 K T  n26 a0 0 h2)) T
def wX9_writeRestOfRoute_L7 (K : AH → Prop)   : Nat → Nat → Nat → Int32 → Int32 → AH → Prop
  | 0 => fun _ _ _ _ _ => False
  | n + 1 => fun x0 x1 x2 x3 h =>
  ((12 ≤ x3 → K h) ∧ (¬ 12 ≤ x3 → (isO h x1 6) ∧ ((x2 = mI h x1 2 → K h) ∧ (¬ x2 = mI h x1 2 → (isO h x0 0) ∧ (isO h (mR h x0 0) 5) ∧ (isO h (mR h (mR h x0 0) 0) 2) ∧ wX4_exitOf (mR h (mR h x0 0) 0) x2 h (fun r8 h7 => (isO h7 x0 0) ∧ (isO h7 (mR h7 x0 6) 8) ∧ wJ4_append_cf468 (mR h7 x0 6) 62 h7 (fun r11 h10 => (isO h10 r11 8) ∧ wJ4_append_bf812 r11 r8 h10 (fun r13 h12 => wX9_writeRestOfRoute_L7 K   n x0 x1 r8 (x3 + 1) h12)))))))
def wX9_writeRestOfRoute (a0 : Nat) (a1 : Nat) (h : AH) (K : AH → Prop) : Prop :=
  (isO h a1 6) ∧ (∃ n17, n17 ≤ 13 ∧ wX9_writeRestOfRoute_L7 K  n17 a0 a1 (mI h a1 1) 0 h)
def wX9_writeTrain_J70 (K : Int32 → AH → Prop) (T : String → AH → Prop)  (x0 : Nat) (h : AH) : Prop :=
  (isO h x0 0) ∧ (isO h (mR h x0 6) 8) ∧ wJ4_length_8abf5 (mR h x0 6) h (fun r26 h25 => K r26 h25)
def wX9_writeTrain (a0 : Nat) (a1 : Int32) (h : AH) (K : Int32 → AH → Prop) (T : String → AH → Prop) : Prop :=
  (isO h a0 0) ∧ wX9_presentTrain a0 a1 h (fun r2 h1 => (isO h1 a0 0) ∧ (isO h1 (mR h1 a0 6) 8) ∧ wJ4_setLength_d00df (mR h1 a0 6) 0 h1 (fun h4 => (isO h4 a0 0) ∧ (isO h4 r2 6) ∧ (isO h4 (mR h4 a0 6) 8) ∧ wJ4_append_bf812 (mR h4 a0 6) (mI h4 r2 0) h4 (fun r9 h8 => (isO h8 r9 8) ∧ wJ4_append_cf468 r9 64 h8 (fun r11 h10 => (isO h10 r2 6) ∧ (isO h10 r11 8) ∧ wJ4_append_bf812 r11 (mI h10 r2 1) h10 (fun r14 h13 => (isO h13 r2 6) ∧ wX8_isRouted r2 h13 (fun r16 h15 => ((r16 = 0 → (isO h15 a0 0) ∧ (isO h15 (mR h15 a0 6) 8) ∧ wJ4_append_cf468 (mR h15 a0 6) 63 h15 (fun r20 h19 => (isO h19 r2 6) ∧ (isO h19 r20 8) ∧ wJ4_append_bf812 r20 (mI h19 r2 2) h19 (fun r23 h22 => (wX9_writeTrain_J70 K T a0 h22)))) ∧ (¬ r16 = 0 → (isO h15 a0 0) ∧ wX9_writeRestOfRoute a0 r2 h15 (fun h30 => (wX9_writeTrain_J70 K T a0 h30))))))))) T) T
def wJ3_checkIndex_8e157_J9 (K : Int32 → AH → Prop)  (x0 : Int32) (x1 : Int32) (x2 : Nat) (h : AH) : Prop :=
  False
def wJ3_checkIndex_8e157 (a0 : Int32) (a1 : Int32) (a2 : Nat) (h : AH) (K : Int32 → AH → Prop) : Prop :=
  ((a0 < 0 → (wJ3_checkIndex_8e157_J9 K a0 a1 a2 h)) ∧ (¬ a0 < 0 → ((a0 < a1 → K a0 h) ∧ (¬ a0 < a1 → (wJ3_checkIndex_8e157_J9 K a0 a1 a2 h)))))
def wJ0_checkIndex_df160 (a0 : Int32) (a1 : Int32) (h : AH) (K : AH → Prop) : Prop :=
  ∀ k1 : Nat, k1 = 0 ∨ k1 = 62 → wJ3_checkIndex_8e157 a0 a1 k1 h (fun r3 h2 => K h2)
def wJ5_charAt_5068e (a0 : Nat) (a1 : Int32) (h : AH) (K : Int32 → AH → Prop) : Prop :=
  (isO h a0 8) ∧ (isA h (mR h a0 0) 3) ∧ ∀ v3 : Int32, v3 = (if (nI (ln h (mR h a0 0)) >>> (mI h a0 1 &&& 31)) < mI h a0 3 then (nI (ln h (mR h a0 0)) >>> (mI h a0 1 &&& 31)) else mI h a0 3) → wJ0_checkIndex_df160 a1 v3 h (fun h5 => ((¬ mI h a0 1 = 0 → False) ∧ (mI h a0 1 = 0 → (isA h5 (mR h a0 0) 3) ∧ (vp_in a1 (ln h5 (mR h a0 0))) ∧ (narrow .char (.int (((mI h5 (mR h a0 0) a1.toNatClampNeg &&& 255).toUInt32 % 65536).toInt32)) = .int (((mI h5 (mR h a0 0) a1.toNatClampNeg &&& 255).toUInt32 % 65536).toInt32)) ∧ K (((mI h5 (mR h a0 0) a1.toNatClampNeg &&& 255).toUInt32 % 65536).toInt32) h5)))
def wJ4_charAt_5068e (a0 : Nat) (a1 : Int32) (h : AH) (K : Int32 → AH → Prop) : Prop :=
  (isO h a0 8) ∧ wJ5_charAt_5068e a0 a1 h (fun r2 h1 => (narrow .char (.int r2) = .int r2) ∧ K r2 h1)
def wX9_charAt_J15 (K : Int32 → AH → Prop) (T : String → AH → Prop)   (h : AH) : Prop :=
  T "java/lang/IndexOutOfBoundsException" h
def wX9_charAt (a0 : Nat) (a1 : Int32) (h : AH) (K : Int32 → AH → Prop) (T : String → AH → Prop) : Prop :=
  ((a1 < 0 → (wX9_charAt_J15 K T  h)) ∧ (¬ a1 < 0 → (isO h a0 0) ∧ (isO h (mR h a0 6) 8) ∧ wJ4_length_8abf5 (mR h a0 6) h (fun r4 h3 => ((a1 < r4 → (isO h3 a0 0) ∧ (isO h3 (mR h3 a0 6) 8) ∧ wJ4_charAt_5068e (mR h3 a0 6) a1 h3 (fun r8 h7 => (narrow .char (.int r8) = .int r8) ∧ K r8 h7)) ∧ (¬ a1 < r4 → (wX9_charAt_J15 K T  h3))))))
def wX5_append (a0 : Nat) (a1 : Int32) (h : AH) (K : Int32 → AH → Prop) : Prop :=
  (isO h a0 3) ∧ ((mI h a0 1 < 60 → (isA h (mR h a0 0) 4) ∧ (nZ ≤ (mR h a0 0)) ∧ (vp_in (mI h a0 1) (ln h (mR h a0 0))) ∧ ∀ h6, h6 = uI h (mR h a0 0) (mI h a0 1).toNatClampNeg (vp_nar .char a1) → ∀ h7, h7 = uI h6 a0 1 (mI h6 a0 1 + 1) → K 1 h7) ∧ (¬ mI h a0 1 < 60 → K 0 h))
def wX9_type (a0 : Nat) (a1 : Int32) (h : AH) (K : Int32 → AH → Prop) (T : String → AH → Prop) : Prop :=
  (isO h a0 0) ∧ (isO h (mR h a0 5) 3) ∧ wX5_append (mR h a0 5) a1 h (fun r3 h2 => ((¬ r3 = 0 → (isO h2 a0 0) ∧ (isO h2 (mR h2 a0 5) 3) ∧ K (mI h2 (mR h2 a0 5) 1) h2) ∧ (r3 = 0 → T "java/lang/IllegalStateException" h2)))
def wJ0_coder_7d493 (a0 : Nat) (h : AH) (K : Int32 → AH → Prop) : Prop :=
  ((1 = 0 → K 1 h) ∧ (¬ 1 = 0 → (mS h a0 = (20, 0)) ∧ (a0 < nZ) ∧ (narrow .byte (.int (mI h a0 1)) = .int (mI h a0 1)) ∧ K (mI h a0 1) h))
def wJ0_length_8abf5 (a0 : Nat) (h : AH) (K : Int32 → AH → Prop) : Prop :=
  (mS h a0 = (20, 0)) ∧ (a0 < nZ) ∧ (isA h (mR h a0 0) 3) ∧ wJ0_coder_7d493 a0 h (fun r5 h4 => K (nI (ln h (mR h a0 0)) >>> (r5 &&& 31)) h4)
def wJ0_isLatin1_aae02 (a0 : Nat) (h : AH) (K : Int32 → AH → Prop) : Prop :=
  ((1 = 0 → K 0 h) ∧ (¬ 1 = 0 → (mS h a0 = (20, 0)) ∧ (a0 < nZ) ∧ ((¬ mI h a0 1 = 0 → K 0 h) ∧ (mI h a0 1 = 0 → K 1 h))))
def wJ1_charAt_3b067 (a0 : Nat) (a1 : Int32) (h : AH) (K : Int32 → AH → Prop) : Prop :=
  (isA h a0 3) ∧ wJ0_checkIndex_df160 a1 (nI (ln h a0)) h (fun h2 => (isA h2 a0 3) ∧ (vp_in a1 (ln h2 a0)) ∧ (narrow .char (.int (((mI h2 a0 a1.toNatClampNeg &&& 255).toUInt32 % 65536).toInt32)) = .int (((mI h2 a0 a1.toNatClampNeg &&& 255).toUInt32 % 65536).toInt32)) ∧ K (((mI h2 a0 a1.toNatClampNeg &&& 255).toUInt32 % 65536).toInt32) h2)
def wJ0_charAt_5068e (a0 : Nat) (a1 : Int32) (h : AH) (K : Int32 → AH → Prop) : Prop :=
  (mS h a0 = (20, 0)) ∧ (a0 < nZ) ∧ wJ0_isLatin1_aae02 a0 h (fun r2 h1 => ((r2 = 0 → False) ∧ (¬ r2 = 0 → (mS h1 a0 = (20, 0)) ∧ (a0 < nZ) ∧ wJ1_charAt_3b067 (mR h1 a0 0) a1 h1 (fun r9 h8 => (narrow .char (.int r9) = .int r9) ∧ K r9 h8))))
def wX5_isDigit (a0 : Nat) (a1 : Int32) (h : AH) (K : Int32 → AH → Prop) : Prop :=
  ((a1 < 0 → K 0 h) ∧ (¬ a1 < 0 → (isO h a0 3) ∧ ((mI h a0 1 ≤ a1 → K 0 h) ∧ (¬ mI h a0 1 ≤ a1 → (isA h (mR h a0 0) 4) ∧ (vp_in a1 (ln h (mR h a0 0))) ∧ ((mI h (mR h a0 0) a1.toNatClampNeg < 48 → K 0 h) ∧ (¬ mI h (mR h a0 0) a1.toNatClampNeg < 48 → ((57 < mI h (mR h a0 0) a1.toNatClampNeg → K 0 h) ∧ (¬ 57 < mI h (mR h a0 0) a1.toNatClampNeg → K 1 h))))))))
def wX5_digitsAt_L5 (K : Int32 → AH → Prop)   : Nat → Nat → Int32 → Int32 → Int32 → Int32 → AH → Prop
  | 0 => fun _ _ _ _ _ _ => False
  | n + 1 => fun x0 x1 x2 x3 x4 h =>
  ((x2 ≤ x4 → K x3 h) ∧ (¬ x2 ≤ x4 → (isO h x0 3) ∧ wX5_isDigit x0 (x1 + x4) h (fun r3 h2 => ((r3 = 0 → K x3 h2) ∧ (¬ r3 = 0 → wX5_digitsAt_L5 K   n x0 x1 x2 (x3 + 1) (x4 + 1) h2)))))
def wX5_digitsAt (a0 : Nat) (a1 : Int32) (a2 : Int32) (h : AH) (K : Int32 → AH → Prop) : Prop :=
  (∃ n6, wX5_digitsAt_L5 K  n6 a0 a1 a2 0 0 h)
def wX5_isAt (a0 : Nat) (a1 : Int32) (a2 : Int32) (h : AH) (K : Int32 → AH → Prop) : Prop :=
  ((a1 < 0 → K 0 h) ∧ (¬ a1 < 0 → (isO h a0 3) ∧ ((mI h a0 1 ≤ a1 → K 0 h) ∧ (¬ mI h a0 1 ≤ a1 → (isA h (mR h a0 0) 4) ∧ (vp_in a1 (ln h (mR h a0 0))) ∧ ((¬ mI h (mR h a0 0) a1.toNatClampNeg = a2 → K 0 h) ∧ (mI h (mR h a0 0) a1.toNatClampNeg = a2 → K 1 h))))))
def wX5_noteNumber_L6 (K : AH → Prop) (c49 : Nat → Int32 → Int32 → AH → Prop)  : Nat → Nat → Int32 → Int32 → Int32 → Int32 → Int32 → AH → Prop
  | 0 => fun _ _ _ _ _ _ _ => False
  | n + 1 => fun x0 x1 x2 x3 x4 x5 h =>
  ((x3 ≤ x5 → c49 x0 x1 x4 h) ∧ (¬ x3 ≤ x5 → (isO h x0 3) ∧ wX5_isDigit x0 (x2 + x5) h (fun r3 h2 => ((r3 = 0 → c49 x0 x1 x4 h2) ∧ (¬ r3 = 0 → (isO h2 x0 3) ∧ (isA h2 (mR h2 x0 0) 4) ∧ (vp_in (x2 + x5) (ln h2 (mR h2 x0 0))) ∧ ∀ v8 : Int32, v8 = ((x4 * 10) + (mI h2 (mR h2 x0 0) (x2 + x5).toNatClampNeg - 48)) → wX5_noteNumber_L6 K c49  n x0 x1 x2 x3 v8 (x5 + 1) h2)))))
def wX5_noteNumber (a0 : Nat) (a1 : Int32) (a2 : Int32) (a3 : Int32) (h : AH) (K : AH → Prop) : Prop :=
  (∃ n25, wX5_noteNumber_L6 K (fun x0_11 x1_12 x4_13 h14 => ((3 ≤ x1_12 → K h14) ∧ (¬ 3 ≤ x1_12 → (isO h14 x0_11 3) ∧ ((13 ≤ mI h14 x0_11 4 → K h14) ∧ (¬ 13 ≤ mI h14 x0_11 4 → (isA h14 (mR h14 x0_11 3) 8) ∧ (nZ ≤ (mR h14 x0_11 3)) ∧ (vp_in (mI h14 x0_11 4) (ln h14 (mR h14 x0_11 3))) ∧ (isA h14 (mR h14 (mR h14 x0_11 3) (mI h14 x0_11 4).toNatClampNeg) 0) ∧ (nZ ≤ (mR h14 (mR h14 x0_11 3) (mI h14 x0_11 4).toNatClampNeg)) ∧ (vp_in x1_12 (ln h14 (mR h14 (mR h14 x0_11 3) (mI h14 x0_11 4).toNatClampNeg))) ∧ ∀ h24, h24 = uI h14 (mR h14 (mR h14 x0_11 3) (mI h14 x0_11 4).toNatClampNeg) x1_12.toNatClampNeg x4_13 → K h24))))) n25 a0 a1 a2 a3 0 0 h)
def wX5_match_J100 (K : Int32 → AH → Prop) (c8 : Nat → Nat → Int32 → Int32 → Int32 → AH → Prop) (x0 : Nat) (x1 : Nat) (x3 : Int32) (x4 : Int32) (x5 : Int32) (x7 : Int32) (h : AH) : Prop :=
  (isO h x0 3) ∧ ∀ h15, h15 = uI h x0 5 (if mI h x0 5 < (x3 + x7) then (x3 + x7) else mI h x0 5) → ((¬ x7 = 0 → c8 x0 x1 (x3 + x7) x4 (x5 + 1) h15) ∧ (x7 = 0 → K (-1) h15))
def wX5_match_J88 (K : Int32 → AH → Prop) (c8 : Nat → Nat → Int32 → Int32 → Int32 → AH → Prop) (x0 : Nat) (x1 : Nat) (x3 : Int32) (x4 : Int32) (x5 : Int32) (x7 : Int32) (h : AH) : Prop :=
  (isO h x0 3) ∧ wX5_noteNumber x0 x4 x3 x7 h (fun h12 => (wX5_match_J100 K c8 x0 x1 x3 (x4 + 1) x5 x7 h12))
def wX5_match_J72 (K : Int32 → AH → Prop) (c8 : Nat → Nat → Int32 → Int32 → Int32 → AH → Prop) (x0 : Nat) (x1 : Nat) (x3 : Int32) (x4 : Int32) (x5 : Int32) (x6 : Int32) (y0 : Int32) (h : AH) : Prop :=
  ((x6 = 35 → (wX5_match_J88 K c8 x0 x1 x3 x4 x5 y0 h)) ∧ (¬ x6 = 35 → ((¬ x6 = 42 → (wX5_match_J100 K c8 x0 x1 x3 x4 x5 y0 h)) ∧ (x6 = 42 → (wX5_match_J88 K c8 x0 x1 x3 x4 x5 y0 h)))))
def wX5_match_L8 (K : Int32 → AH → Prop)   : Nat → Nat → Nat → Int32 → Int32 → Int32 → AH → Prop
  | 0 => fun _ _ _ _ _ _ => False
  | n + 1 => fun x0 x1 x3 x4 x5 h =>
  (mS h x1 = (20, 0)) ∧ (x1 < nZ) ∧ wJ0_length_8abf5 x1 h (fun r2 h1 => ((r2 ≤ x5 → K x3 h1) ∧ (¬ r2 ≤ x5 → (mS h1 x1 = (20, 0)) ∧ (x1 < nZ) ∧ wJ0_charAt_5068e x1 x5 h1 (fun r5 h4 => ((¬ r5 = 35 → ((¬ r5 = 42 → (isO h4 x0 3) ∧ wX5_isAt x0 x3 r5 h4 (fun r9 h8 => ((r9 = 0 → (wX5_match_J72 K (wX5_match_L8 K   n) x0 x1 x3 x4 x5 r5 0 h8)) ∧ (¬ r9 = 0 → (wX5_match_J72 K (wX5_match_L8 K   n) x0 x1 x3 x4 x5 r5 1 h8))))) ∧ (r5 = 42 → (isO h4 x0 3) ∧ wX5_digitsAt x0 x3 3 h4 (fun r21 h20 => (wX5_match_J72 K (wX5_match_L8 K   n) x0 x1 x3 x4 x5 r5 r21 h20))))) ∧ (r5 = 35 → (isO h4 x0 3) ∧ wX5_digitsAt x0 x3 1 h4 (fun r24 h23 => (wX5_match_J72 K (wX5_match_L8 K   n) x0 x1 x3 x4 x5 r5 r24 h23))))))))
def wX5_match (a0 : Nat) (a1 : Nat) (a2 : Int32) (h : AH) (K : Int32 → AH → Prop) : Prop :=
  (∃ n30, wX5_match_L8 K  n30 a0 a1 a2 0 0 h)
def wX5_parseCommand_L9 (K : Int32 → AH → Prop)   : Nat → Nat → Int32 → Int32 → Int32 → AH → Prop
  | 0 => fun _ _ _ _ _ => False
  | n + 1 => fun x0 x1 x2 x3 h =>
  (isA h 1 7) ∧ ((nI (ln h 1) ≤ x3 → (isO h x0 3) ∧ ((x2 = mI h x0 1 → K x2 h) ∧ (¬ x2 = mI h x0 1 → wX5_isAt x0 x2 59 h (fun r8 h7 => ((r8 = 0 → K (-1) h7) ∧ (¬ r8 = 0 → K x2 h7)))))) ∧ (¬ nI (ln h 1) ≤ x3 → (vp_in x3 (ln h 1)) ∧ (mS h (mR h 1 x3.toNatClampNeg) = (21, 0)) ∧ ((mR h 1 x3.toNatClampNeg) < nZ) ∧ (isO h x0 3) ∧ wX5_match x0 (mR h (mR h 1 x3.toNatClampNeg) 0) x1 h (fun r14 h13 => ((r14 ≤ x2 → wX5_parseCommand_L9 K   n x0 x1 x2 (x3 + 1) h13) ∧ (¬ r14 ≤ x2 → (isO h13 x0 3) ∧ ((13 ≤ mI h13 x0 4 → wX5_parseCommand_L9 K   n x0 x1 x2 (x3 + 1) h13) ∧ (¬ 13 ≤ mI h13 x0 4 → (isA h13 1 7) ∧ (vp_in x3 (ln h13 1)) ∧ (isA h13 (mR h13 x0 2) 7) ∧ (mS h13 (mR h13 1 x3.toNatClampNeg) = (21, 0)) ∧ ((mR h13 1 x3.toNatClampNeg) < nZ) ∧ (nZ ≤ (mR h13 x0 2)) ∧ (vp_in (mI h13 x0 4) (ln h13 (mR h13 x0 2))) ∧ ∀ h25, h25 = uR h13 (mR h13 x0 2) (mI h13 x0 4).toNatClampNeg (mR h13 1 x3.toNatClampNeg) → wX5_parseCommand_L9 K   n x0 x1 r14 (x3 + 1) h25)))))))
def wX5_parseCommand (a0 : Nat) (a1 : Int32) (h : AH) (K : Int32 → AH → Prop) : Prop :=
  (isO h a0 3) ∧ ∀ h2, h2 = uI h a0 5 a1 → (∃ n27, wX5_parseCommand_L9 K  n27 a0 a1 (-1) 0 h2)
def wX5_parse_L9 (K : Int32 → AH → Prop)   : Nat → Nat → Int32 → Int32 → AH → Prop
  | 0 => fun _ _ _ _ => False
  | n + 1 => fun x0 x1 x2 h =>
  ((13 ≤ x2 → K 0 h) ∧ (¬ 13 ≤ x2 → (isO h x0 3) ∧ wX5_parseCommand x0 x1 h (fun r5 h4 => ((¬ r5 = (-1) → (isO h4 x0 3) ∧ ∀ h8, h8 = uI h4 x0 4 (mI h4 x0 4 + 1) → ((¬ r5 = mI h8 x0 1 → wX5_parse_L9 K   n x0 (r5 + 1) (x2 + 1) h8) ∧ (r5 = mI h8 x0 1 → K 1 h8))) ∧ (r5 = (-1) → K 0 h4)))))
def wX5_parse (a0 : Nat) (h : AH) (K : Int32 → AH → Prop) : Prop :=
  (isO h a0 3) ∧ ∀ h2, h2 = uI h a0 4 0 → (∃ n11, wX5_parse_L9 K  n11 a0 0 0 h2)
def wX5_clear (a0 : Nat) (h : AH) (K : AH → Prop) : Prop :=
  (isO h a0 3) ∧ ∀ h2, h2 = uI h a0 1 0 → K h2
def wX5_number_J26 (K : Int32 → AH → Prop)  (x0 : Nat) (x1 : Int32) (x2 : Int32) (y0 : Int32) (h : AH) : Prop :=
  ((y0 = 0 → K (-1) h) ∧ (¬ y0 = 0 → (isO h x0 3) ∧ (isA h (mR h x0 3) 8) ∧ (nZ ≤ (mR h x0 3)) ∧ (vp_in x1 (ln h (mR h x0 3))) ∧ (isA h (mR h (mR h x0 3) x1.toNatClampNeg) 0) ∧ (vp_in x2 (ln h (mR h (mR h x0 3) x1.toNatClampNeg))) ∧ K (mI h (mR h (mR h x0 3) x1.toNatClampNeg) x2.toNatClampNeg) h))
def wX5_number_J25 (K : Int32 → AH → Prop)  (x0 : Nat) (x1 : Int32) (x2 : Int32) (h : AH) : Prop :=
  (wX5_number_J26 K x0 x1 x2 0 h)
def wX5_number (a0 : Nat) (a1 : Int32) (a2 : Int32) (h : AH) (K : Int32 → AH → Prop) : Prop :=
  ((a1 < 0 → (wX5_number_J25 K a0 a1 a2 h)) ∧ (¬ a1 < 0 → (isO h a0 3) ∧ ((mI h a0 4 ≤ a1 → (wX5_number_J25 K a0 a1 a2 h)) ∧ (¬ mI h a0 4 ≤ a1 → ((a2 < 0 → (wX5_number_J25 K a0 a1 a2 h)) ∧ (¬ a2 < 0 → ((3 ≤ a2 → (wX5_number_J25 K a0 a1 a2 h)) ∧ (¬ 3 ≤ a2 → (wX5_number_J26 K a0 a1 a2 1 h)))))))))
def wX5_command (a0 : Nat) (a1 : Int32) (h : AH) (K : Nat → AH → Prop) : Prop :=
  ((a1 < 0 → K 11 h) ∧ (¬ a1 < 0 → (isO h a0 3) ∧ ((mI h a0 4 ≤ a1 → K 11 h) ∧ (¬ mI h a0 4 ≤ a1 → (isA h (mR h a0 2) 7) ∧ (vp_in a1 (ln h (mR h a0 2))) ∧ K (mR h (mR h a0 2) a1.toNatClampNeg) h))))
def wJord (a0 : Nat) (h : AH) (K : Int32 → AH → Prop) : Prop :=
  (mS h a0 = (21, 0)) ∧ (a0 < nZ) ∧ K (mI h a0 1) h
def wX9_execute (a0 : Nat) (a1 : Int32) (h : AH) (K : Int32 → AH → Prop) : Prop :=
  (isO h a0 0) ∧ (isO h (mR h a0 5) 3) ∧ wX5_number (mR h a0 5) a1 0 h (fun r3 h2 => (isO h2 a0 0) ∧ (isO h2 (mR h2 a0 5) 3) ∧ wX5_number (mR h2 a0 5) a1 1 h2 (fun r6 h5 => (isO h5 a0 0) ∧ (isO h5 (mR h5 a0 5) 3) ∧ wX5_number (mR h5 a0 5) a1 2 h5 (fun r9 h8 => (isO h8 a0 0) ∧ (isO h8 (mR h8 a0 5) 3) ∧ wX5_command (mR h8 a0 5) a1 h8 (fun r12 h11 => (mS h11 r12 = (21, 0)) ∧ (r12 < nZ) ∧ wJord r12 h11 (fun r14 h13 => (isA h13 13 0) ∧ (vp_in r14 (ln h13 13)) ∧ ((mI h13 13 r14.toNatClampNeg = 1 → (isO h13 a0 0) ∧ (isO h13 (mR h13 a0 0) 5) ∧ (isO h13 (mR h13 (mR h13 a0 0) 0) 2) ∧ wX4_makeBlock (mR h13 (mR h13 a0 0) 0) r3 h13 (fun r20 h19 => K r20 h19)) ∧ (mI h13 13 r14.toNatClampNeg = 2 → (isO h13 a0 0) ∧ (isO h13 (mR h13 a0 0) 5) ∧ (isO h13 (mR h13 (mR h13 a0 0) 0) 2) ∧ wX4_makePoint (mR h13 (mR h13 a0 0) 0) r3 r6 r9 h13 (fun r25 h24 => K r25 h24)) ∧ (mI h13 13 r14.toNatClampNeg = 3 → (isO h13 a0 0) ∧ (isO h13 (mR h13 a0 0) 5) ∧ (isO h13 (mR h13 (mR h13 a0 0) 0) 2) ∧ wX4_makeLink (mR h13 (mR h13 a0 0) 0) r3 r6 h13 (fun r30 h29 => K r30 h29)) ∧ (mI h13 13 r14.toNatClampNeg = 4 → (isO h13 a0 0) ∧ (isO h13 (mR h13 a0 0) 5) ∧ wX7_bringTrain (mR h13 a0 0) r3 r6 h13 (fun r34 h33 => K r34 h33)) ∧ (mI h13 13 r14.toNatClampNeg = 5 → (isO h13 a0 0) ∧ wX9_grantOrRecord a0 r3 h13 (fun r37 h36 => K r37 h36)) ∧ (mI h13 13 r14.toNatClampNeg = 6 → (isO h13 a0 0) ∧ (isO h13 (mR h13 a0 0) 5) ∧ wX7_withdrawRoute (mR h13 a0 0) r3 h13 (fun r41 h40 => K r41 h40)) ∧ (mI h13 13 r14.toNatClampNeg = 7 → (isO h13 a0 0) ∧ (isO h13 (mR h13 a0 0) 5) ∧ wX7_shutBlock (mR h13 a0 0) r3 h13 (fun r45 h44 => K r45 h44)) ∧ (mI h13 13 r14.toNatClampNeg = 8 → (isO h13 a0 0) ∧ (isO h13 (mR h13 a0 0) 5) ∧ wX7_openBlock (mR h13 a0 0) r3 h13 (fun r49 h48 => K r49 h48)) ∧ (mI h13 13 r14.toNatClampNeg = 9 → (isO h13 a0 0) ∧ (isO h13 (mR h13 a0 0) 5) ∧ wX7_movePoint (mR h13 a0 0) r3 h13 (fun r53 h52 => K r53 h52)) ∧ (mI h13 13 r14.toNatClampNeg = 10 → (isO h13 a0 0) ∧ (isO h13 (mR h13 a0 0) 5) ∧ wX7_letPass (mR h13 a0 0) 1 h13 (fun r57 h56 => K r57 h56)) ∧ (¬ mI h13 13 r14.toNatClampNeg = 1 ∧ ¬ mI h13 13 r14.toNatClampNeg = 2 ∧ ¬ mI h13 13 r14.toNatClampNeg = 3 ∧ ¬ mI h13 13 r14.toNatClampNeg = 4 ∧ ¬ mI h13 13 r14.toNatClampNeg = 5 ∧ ¬ mI h13 13 r14.toNatClampNeg = 6 ∧ ¬ mI h13 13 r14.toNatClampNeg = 7 ∧ ¬ mI h13 13 r14.toNatClampNeg = 8 ∧ ¬ mI h13 13 r14.toNatClampNeg = 9 ∧ ¬ mI h13 13 r14.toNatClampNeg = 10 → (isO h13 a0 0) ∧ (isO h13 (mR h13 a0 0) 5) ∧ wX7_letPass (mR h13 a0 0) r3 h13 (fun r61 h60 => K r61 h60))))))))
def wX2_putBack (a0 : Nat) (a1 : Nat) (h : AH) (K : AH → Prop) : Prop :=
  (isO h a0 1) ∧ (isA h (mR h a0 0) 5) ∧ (vp_in (mI h a0 1) (ln h (mR h a0 0))) ∧ (isO h a1 5) ∧ wX7_copyFrom a1 (mR h (mR h a0 0) (mI h a0 1).toNatClampNeg) h (fun h4 => K h4)
def wX9_run_L54 (K : Int32 → AH → Prop) (T : String → AH → Prop)   : Nat → Nat → Int32 → AH → Prop
  | 0 => fun _ _ _ => False
  | n + 1 => fun x0 x2 h =>
  (isO h x0 0) ∧ (isO h (mR h x0 5) 3) ∧ ((mI h (mR h x0 5) 4 ≤ x2 → wX9_settle x0 (mI h (mR h x0 5) 4) h (fun r15 h14 => K r15 h14) T) ∧ (¬ mI h (mR h x0 5) 4 ≤ x2 → wX9_execute x0 x2 h (fun r17 h16 => ((0 ≤ r17 → wX9_run_L54 K T   n x0 (x2 + 1) h16) ∧ (¬ 0 ≤ r17 → (isO h16 x0 0) ∧ (isO h16 (mR h16 x0 3) 1) ∧ wX2_putBack (mR h16 x0 3) (mR h16 x0 0) h16 (fun h20 => (isO h20 x0 0) ∧ ∀ h23, h23 = uI h20 x0 11 x2 → T "java/lang/UnsupportedOperationException" h23))))))
def wX9_run (a0 : Nat) (h : AH) (K : Int32 → AH → Prop) (T : String → AH → Prop) : Prop :=
  (isO h a0 0) ∧ (isO h (mR h a0 5) 3) ∧ wX5_parse (mR h a0 5) h (fun r3 h2 => (isO h2 a0 0) ∧ (isO h2 (mR h2 a0 5) 3) ∧ wX5_clear (mR h2 a0 5) h2 (fun h5 => ((¬ r3 = 0 → (isO h5 a0 0) ∧ (isO h5 (mR h5 a0 3) 1) ∧ wX2_keep (mR h5 a0 3) (mR h5 a0 0) h5 (fun h9 => (∃ n25, wX9_run_L54 K T  n25 a0 0 h9))) ∧ (r3 = 0 → (isO h5 a0 0) ∧ (isO h5 (mR h5 a0 5) 3) ∧ ∀ h29, h29 = uI h5 a0 10 (mI h5 (mR h5 a0 5) 5) → T "java/lang/IllegalArgumentException" h29))))
def wX9_errorPosition (a0 : Nat) (h : AH) (K : Int32 → AH → Prop) (T : String → AH → Prop) : Prop :=
  (isO h a0 0) ∧ ((¬ mI h a0 10 = (-1) → K (mI h a0 10) h) ∧ (mI h a0 10 = (-1) → T "java/util/NoSuchElementException" h))
def wX9_failedCommand (a0 : Nat) (h : AH) (K : Int32 → AH → Prop) (T : String → AH → Prop) : Prop :=
  (isO h a0 0) ∧ ((¬ mI h a0 11 = (-1) → K (mI h a0 11) h) ∧ (mI h a0 11 = (-1) → T "java/util/NoSuchElementException" h))
def wX2_takeBack (a0 : Nat) (a1 : Nat) (h : AH) (K : Int32 → AH → Prop) : Prop :=
  (isO h a0 1) ∧ ((¬ mI h a0 2 = 0 → ∀ h3, h3 = uI h a0 2 (mI h a0 2 - 1) → ∀ h4, h4 = uI h3 a0 1 (((mI h3 a0 1 + 9) - 1) - ((mI h3 a0 1 + 9) - 1) / 9 * 9) → wX2_putBack a0 a1 h4 (fun h5 => K 1 h5)) ∧ (mI h a0 2 = 0 → K 0 h))
def wX9_undo (a0 : Nat) (h : AH) (K : Int32 → AH → Prop) (T : String → AH → Prop) : Prop :=
  (isO h a0 0) ∧ (isO h (mR h a0 3) 1) ∧ wX2_takeBack (mR h a0 3) (mR h a0 0) h (fun r3 h2 => ((¬ r3 = 0 → (isO h2 a0 0) ∧ (isO h2 (mR h2 a0 3) 1) ∧ K (mI h2 (mR h2 a0 3) 2) h2) ∧ (r3 = 0 → T "java/lang/IllegalStateException" h2)))
def wX9_save (a0 : Nat) (h : AH) (K : Int32 → AH → Prop) : Prop :=
  (isO h a0 0) ∧ (isO h (mR h a0 1) 5) ∧ wX7_copyFrom (mR h a0 1) (mR h a0 0) h (fun h2 => (isO h2 a0 0) ∧ ∀ h5, h5 = uI h2 a0 7 1 → (isO h2 (mR h2 a0 0) 5) ∧ K (mI h5 (mR h2 a0 0) 3) h5)
def wX2_forget (a0 : Nat) (h : AH) (K : AH → Prop) : Prop :=
  (isO h a0 1) ∧ ∀ h2, h2 = uI h a0 2 0 → K h2
def wX9_restore (a0 : Nat) (h : AH) (K : Int32 → AH → Prop) (T : String → AH → Prop) : Prop :=
  (isO h a0 0) ∧ ((¬ mI h a0 7 = 0 → (isO h (mR h a0 0) 5) ∧ wX7_copyFrom (mR h a0 0) (mR h a0 1) h (fun h3 => (isO h3 a0 0) ∧ (isO h3 (mR h3 a0 3) 1) ∧ wX2_forget (mR h3 a0 3) h3 (fun h6 => (isO h6 a0 0) ∧ (isO h6 (mR h6 a0 0) 5) ∧ K (mI h6 (mR h6 a0 0) 3) h6))) ∧ (mI h a0 7 = 0 → T "java/lang/IllegalStateException" h))
def wX10_init (a0 : Nat) (h : AH) (K : AH → Prop) : Prop :=
  (¬ a0 = 0) ∧ ∀ h2, h2 = nw h 100 281 → (isO h2 a0 7) ∧ ∀ h4, h4 = uR h2 a0 1 (mN h) → ∀ h5, h5 = nw h4 100 281 → (isO h5 a0 7) ∧ ∀ h7, h7 = uR h5 a0 2 (mN h4) → ∀ h8, h8 = nw h7 100 281 → (isO h8 a0 7) ∧ ∀ h10, h10 = uR h8 a0 3 (mN h7) → ∀ h11, h11 = nw h10 100 2248 → (isO h11 a0 7) ∧ ∀ h13, h13 = uR h11 a0 4 (mN h10) → ∀ h14, h14 = nw h13 100 60 → (isO h14 a0 7) ∧ ∀ h16, h16 = uR h14 a0 7 (mN h13) → ∀ h17, h17 = nw h16 100 240 → (isO h17 a0 7) ∧ ∀ h19, h19 = uR h17 a0 8 (mN h16) → ∀ h20, h20 = nw h19 100 80 → (isO h20 a0 7) ∧ ∀ h22, h22 = uR h20 a0 9 (mN h19) → ∀ h23, h23 = nw h22 100 12 → (isO h23 a0 7) ∧ ∀ h25, h25 = uR h23 a0 10 (mN h22) → ∀ h26, h26 = nw h25 100 12 → (isO h26 a0 7) ∧ ∀ h28, h28 = uR h26 a0 11 (mN h25) → ∀ h29, h29 = nw h28 100 12 → (isO h29 a0 7) ∧ ∀ h31, h31 = uR h29 a0 12 (mN h28) → ∀ h32, h32 = nw h31 100 8 → (isO h32 a0 7) ∧ ∀ h34, h34 = uR h32 a0 13 (mN h31) → ∀ h35, h35 = nw h34 100 8 → (isO h35 a0 7) ∧ ∀ h37, h37 = uR h35 a0 14 (mN h34) → ∀ h38, h38 = uI h37 a0 17 (-1) → ∀ h39, h39 = uI h38 a0 18 (-1) → ∀ h40, h40 = uI h39 a0 22 (-1) → K h40
def wX10_thrown (a0 : Nat) (h : AH) (K : Int32 → AH → Prop) : Prop :=
  (isO h a0 7) ∧ K (mI h a0 0) h
def wX10_fails (a0 : Nat) (a1 : Int32) (h : AH) (K : Int32 → AH → Prop) : Prop :=
  (isO h a0 7) ∧ ∀ h2, h2 = uI h a0 0 a1 → K 0 h2
def wX10_in (a0 : Int32) (a1 : Int32) (a2 : Int32) (h : AH) (K : Int32 → AH → Prop) : Prop :=
  ((a0 < a1 → K 0 h) ∧ (¬ a0 < a1 → ((a2 < a0 → K 0 h) ∧ (¬ a2 < a0 → K 1 h))))
def wX10_remembers_L7 (K : AH → Prop)   : Nat → Nat → Int32 → AH → Prop
  | 0 => fun _ _ _ => False
  | n + 1 => fun x0 x1 h =>
  ((281 ≤ x1 → K h) ∧ (¬ 281 ≤ x1 → (isO h x0 7) ∧ (isA h (mR h x0 1) 0) ∧ (vp_in x1 (ln h (mR h x0 1))) ∧ (isA h (mR h x0 2) 0) ∧ (nZ ≤ (mR h x0 2)) ∧ (vp_in x1 (ln h (mR h x0 2))) ∧ ∀ h10, h10 = uI h (mR h x0 2) x1.toNatClampNeg (mI h (mR h x0 1) x1.toNatClampNeg) → wX10_remembers_L7 K   n x0 (x1 + 1) h10))
def wX10_remembers (a0 : Nat) (h : AH) (K : AH → Prop) : Prop :=
  (isO h a0 7) ∧ ∀ h2, h2 = uI h a0 0 0 → (∃ n11, wX10_remembers_L7 K  n11 a0 0 h2)
def wX10_changed_L55 (K : Int32 → AH → Prop)   : Nat → Nat → Int32 → Int32 → AH → Prop
  | 0 => fun _ _ _ _ => False
  | n + 1 => fun x0 x1 x2 h =>
  ((281 ≤ x2 → K x1 h) ∧ (¬ 281 ≤ x2 → (isO h x0 7) ∧ (isA h (mR h x0 2) 0) ∧ (vp_in x2 (ln h (mR h x0 2))) ∧ (isA h (mR h x0 4) 0) ∧ (nZ ≤ (mR h x0 4)) ∧ (vp_in ((281 * (mI h x0 5 - 1)) + x2) (ln h (mR h x0 4))) ∧ ∀ h11, h11 = uI h (mR h x0 4) ((281 * (mI h x0 5 - 1)) + x2).toNatClampNeg (mI h (mR h x0 2) x2.toNatClampNeg) → wX10_changed_L55 K   n x0 x1 (x2 + 1) h11))
def wX10_changed_L11 (K : Int32 → AH → Prop) (c40 : Nat → Int32 → AH → Prop)  : Nat → Nat → Int32 → Int32 → AH → Prop
  | 0 => fun _ _ _ _ => False
  | n + 1 => fun x0 x1 x2 h =>
  ((1967 ≤ x2 → c40 x0 x1 h) ∧ (¬ 1967 ≤ x2 → (isO h x0 7) ∧ (isA h (mR h x0 4) 0) ∧ (vp_in (x2 + 281) (ln h (mR h x0 4))) ∧ (nZ ≤ (mR h x0 4)) ∧ (vp_in x2 (ln h (mR h x0 4))) ∧ ∀ h19, h19 = uI h (mR h x0 4) x2.toNatClampNeg (mI h (mR h x0 4) (x2 + 281).toNatClampNeg) → wX10_changed_L11 K c40  n x0 x1 (x2 + 1) h19))
def wX10_changed (a0 : Nat) (a1 : Int32) (h : AH) (K : Int32 → AH → Prop) : Prop :=
  (isO h a0 7) ∧ ((¬ mI h a0 5 = 8 → ∀ h3, h3 = uI h a0 5 (mI h a0 5 + 1) → (∃ n12, wX10_changed_L55 K  n12 a0 a1 0 h3)) ∧ (mI h a0 5 = 8 → (∃ n24, wX10_changed_L11 K (fun x0_20 x1_21 h22 => (∃ n23, wX10_changed_L55 K  n23 x0_20 x1_21 0 h22)) n24 a0 a1 0 h)))
def wX10_done (a0 : Nat) (a1 : Int32) (h : AH) (K : Int32 → AH → Prop) : Prop :=
  (isO h a0 7) ∧ ∀ h2, h2 = uI h a0 19 a1 → K 0 h2
def wX10_ends (a0 : Nat) (a1 : Int32) (h : AH) (K : Int32 → AH → Prop) : Prop :=
  ((¬ a1 = 0 → (isO h a0 7) ∧ wX10_fails a0 a1 h (fun r3 h2 => K r3 h2)) ∧ (a1 = 0 → (isO h a0 7) ∧ wX10_changed a0 (mI h a0 19) h (fun r7 h6 => K r7 h6)))
def wX10_isBlock (a0 : Nat) (a1 : Int32) (h : AH) (K : Int32 → AH → Prop) : Prop :=
  (isO h a0 7) ∧ (isA h (mR h a0 1) 0) ∧ (vp_in 0 (ln h (mR h a0 1))) ∧ wX10_in a1 0 (mI h (mR h a0 1) 0.toNatClampNeg - 1) h (fun r5 h4 => (narrow .boolean (.int r5) = .int r5) ∧ K r5 h4)
def wX10_isPoint (a0 : Nat) (a1 : Int32) (h : AH) (K : Int32 → AH → Prop) : Prop :=
  (isO h a0 7) ∧ (isA h (mR h a0 1) 0) ∧ (vp_in 1 (ln h (mR h a0 1))) ∧ wX10_in a1 0 (mI h (mR h a0 1) 1.toNatClampNeg - 1) h (fun r5 h4 => (narrow .boolean (.int r5) = .int r5) ∧ K r5 h4)
def wX10_block (a0 : Nat) (a1 : Int32) (a2 : Int32) (h : AH) (K : Int32 → AH → Prop) : Prop :=
  (isO h a0 7) ∧ (isA h (mR h a0 1) 0) ∧ (vp_in ((9 + (6 * a1)) + a2) (ln h (mR h a0 1))) ∧ K (mI h (mR h a0 1) ((9 + (6 * a1)) + a2).toNatClampNeg) h
def wX10_puts (a0 : Nat) (a1 : Int32) (a2 : Int32) (a3 : Int32) (h : AH) (K : AH → Prop) : Prop :=
  (isO h a0 7) ∧ (isA h (mR h a0 1) 0) ∧ (nZ ≤ (mR h a0 1)) ∧ (vp_in ((9 + (6 * a1)) + a2) (ln h (mR h a0 1))) ∧ ∀ h5, h5 = uI h (mR h a0 1) ((9 + (6 * a1)) + a2).toNatClampNeg a3 → K h5
def wX10_point (a0 : Nat) (a1 : Int32) (a2 : Int32) (h : AH) (K : Int32 → AH → Prop) : Prop :=
  (isO h a0 7) ∧ (isA h (mR h a0 1) 0) ∧ (vp_in ((81 + (5 * a1)) + a2) (ln h (mR h a0 1))) ∧ K (mI h (mR h a0 1) ((81 + (5 * a1)) + a2).toNatClampNeg) h
def wX10_train (a0 : Nat) (a1 : Int32) (a2 : Int32) (h : AH) (K : Int32 → AH → Prop) : Prop :=
  (isO h a0 7) ∧ (isA h (mR h a0 1) 0) ∧ (vp_in ((121 + (19 * a1)) + a2) (ln h (mR h a0 1))) ∧ K (mI h (mR h a0 1) ((121 + (19 * a1)) + a2).toNatClampNeg) h
def wX10_tells (a0 : Nat) (a1 : Int32) (a2 : Int32) (a3 : Int32) (h : AH) (K : AH → Prop) : Prop :=
  (isO h a0 7) ∧ (isA h (mR h a0 1) 0) ∧ (nZ ≤ (mR h a0 1)) ∧ (vp_in ((121 + (19 * a1)) + a2) (ln h (mR h a0 1))) ∧ ∀ h5, h5 = uI h (mR h a0 1) ((121 + (19 * a1)) + a2).toNatClampNeg a3 → K h5
def wX10_placeOf_L2 (K : Int32 → AH → Prop)   : Nat → Nat → Int32 → Int32 → AH → Prop
  | 0 => fun _ _ _ _ => False
  | n + 1 => fun x0 x1 x2 h =>
  (isO h x0 7) ∧ (isA h (mR h x0 1) 0) ∧ (vp_in 4 (ln h (mR h x0 1))) ∧ ((mI h (mR h x0 1) 4.toNatClampNeg ≤ x2 → K (-1) h) ∧ (¬ mI h (mR h x0 1) 4.toNatClampNeg ≤ x2 → wX10_train x0 x2 0 h (fun r6 h5 => ((¬ r6 = x1 → wX10_placeOf_L2 K   n x0 x1 (x2 + 1) h5) ∧ (r6 = x1 → K x2 h5)))))
def wX10_placeOf (a0 : Nat) (a1 : Int32) (h : AH) (K : Int32 → AH → Prop) : Prop :=
  (∃ n8, wX10_placeOf_L2 K  n8 a0 a1 0 h)
def wX10_look (a0 : Nat) (a1 : Int32) (h : AH) (K : Int32 → AH → Prop) : Prop :=
  (isO h a0 7) ∧ wX10_block a0 a1 1 h (fun r2 h1 => ((¬ r2 = 1 → (isO h1 a0 7) ∧ wX10_block a0 a1 4 h1 (fun r5 h4 => ((r5 ≤ 0 → (isO h4 a0 7) ∧ wX10_block a0 a1 5 h4 (fun r8 h7 => ((r8 ≤ 0 → K 102 h7) ∧ (¬ r8 ≤ 0 → K 114 h7)))) ∧ (¬ r5 ≤ 0 → K 111 h4)))) ∧ (r2 = 1 → K 115 h1)))
def wX10_shutMany_L4 (K : Int32 → AH → Prop)   : Nat → Nat → Int32 → Int32 → AH → Prop
  | 0 => fun _ _ _ _ => False
  | n + 1 => fun x0 x1 x2 h =>
  (isO h x0 7) ∧ (isA h (mR h x0 1) 0) ∧ (vp_in 0 (ln h (mR h x0 1))) ∧ ((mI h (mR h x0 1) 0.toNatClampNeg ≤ x2 → K x1 h) ∧ (¬ mI h (mR h x0 1) 0.toNatClampNeg ≤ x2 → wX10_block x0 x2 1 h (fun r6 h5 => wX10_shutMany_L4 K   n x0 (x1 + r6) (x2 + 1) h5)))
def wX10_shutMany (a0 : Nat) (h : AH) (K : Int32 → AH → Prop) : Prop :=
  (∃ n7, wX10_shutMany_L4 K  n7 a0 0 0 h)
def wX10_exit (a0 : Nat) (a1 : Int32) (a2 : Int32) (h : AH) (K : Int32 → AH → Prop) : Prop :=
  (isO h a0 7) ∧ wX10_block a0 a1 3 h (fun r2 h1 => ((r2 ≤ 0 → ((¬ a2 = 0 → K (-1) h1) ∧ (a2 = 0 → (isO h1 a0 7) ∧ wX10_block a0 a1 2 h1 (fun r6 h5 => K (r6 - 1) h5)))) ∧ (¬ r2 ≤ 0 → (isO h1 a0 7) ∧ wX10_block a0 a1 3 h1 (fun r9 h8 => (isO h8 a0 7) ∧ wX10_point a0 (r9 - 1) (1 + a2) h8 (fun r11 h10 => K r11 h10)))))
def wX10_measures_L2 (K : AH → Prop) (c32 : Nat → Int32 → AH → Prop)  : Nat → Nat → Int32 → Int32 → AH → Prop
  | 0 => fun _ _ _ _ => False
  | n + 1 => fun x0 x1 x2 h =>
  ((12 ≤ x2 → c32 x0 x1 h) ∧ (¬ 12 ≤ x2 → (isO h x0 7) ∧ (isA h (mR h x0 10) 0) ∧ (nZ ≤ (mR h x0 10)) ∧ (vp_in x2 (ln h (mR h x0 10))) ∧ ∀ h6, h6 = uI h (mR h x0 10) x2.toNatClampNeg 9999 → (isA h (mR h x0 11) 0) ∧ (nZ ≤ (mR h x0 11)) ∧ (vp_in x2 (ln h (mR h x0 11))) ∧ ∀ h10, h10 = uI h6 (mR h x0 11) x2.toNatClampNeg 9999 → wX10_measures_L2 K c32  n x0 x1 (x2 + 1) h10))
def wX10_measures_J178 (K : AH → Prop) (c81 : Nat → Int32 → Int32 → Int32 → Int32 → AH → Prop) (x0 : Nat) (x1 : Int32) (x2 : Int32) (x3 : Int32) (x4 : Int32) (x5 : Int32) (x6 : Int32) (h : AH) : Prop :=
  (isO h x0 7) ∧ (isA h (mR h x0 10) 0) ∧ (nZ ≤ (mR h x0 10)) ∧ (vp_in x3 (ln h (mR h x0 10))) ∧ ∀ h53, h53 = uI h (mR h x0 10) x3.toNatClampNeg x6 → (isA h (mR h x0 11) 0) ∧ (vp_in x5 (ln h (mR h x0 11))) ∧ (nZ ≤ (mR h x0 11)) ∧ (vp_in x3 (ln h (mR h x0 11))) ∧ ∀ h58, h58 = uI h53 (mR h x0 11) x3.toNatClampNeg (mI h53 (mR h x0 11) x5.toNatClampNeg + 1) → c81 x0 x1 x2 x3 (x4 + 1) h58
def wX10_measures_L81 (K : AH → Prop) (c207 : Nat → Int32 → Int32 → Int32 → AH → Prop)  : Nat → Nat → Int32 → Int32 → Int32 → Int32 → AH → Prop
  | 0 => fun _ _ _ _ _ _ => False
  | n + 1 => fun x0 x1 x2 x3 x4 h =>
  ((2 ≤ x4 → c207 x0 x1 x2 x3 h) ∧ (¬ 2 ≤ x4 → (isO h x0 7) ∧ wX10_exit x0 x3 x4 h (fun r34 h33 => ((r34 = (-1) → wX10_measures_L81 K c207  n x0 x1 x2 x3 (x4 + 1) h33) ∧ (¬ r34 = (-1) → (isO h33 x0 7) ∧ (isA h33 (mR h33 x0 10) 0) ∧ (vp_in r34 (ln h33 (mR h33 x0 10))) ∧ ((¬ mI h33 (mR h33 x0 10) r34.toNatClampNeg = 9999 → wX10_block x0 r34 0 h33 (fun r41 h40 => ∀ v42 : Int32, v42 = (mI h33 (mR h33 x0 10) r34.toNatClampNeg + r41) → (isO h40 x0 7) ∧ (isA h40 (mR h40 x0 10) 0) ∧ (vp_in x3 (ln h40 (mR h40 x0 10))) ∧ ((mI h40 (mR h40 x0 10) x3.toNatClampNeg < v42 → wX10_measures_L81 K c207  n x0 x1 x2 x3 (x4 + 1) h40) ∧ (¬ mI h40 (mR h40 x0 10) x3.toNatClampNeg < v42 → ((¬ v42 = mI h40 (mR h40 x0 10) x3.toNatClampNeg → (wX10_measures_J178 K (wX10_measures_L81 K c207  n) x0 x1 x2 x3 x4 r34 v42 h40)) ∧ (v42 = mI h40 (mR h40 x0 10) x3.toNatClampNeg → (isA h40 (mR h40 x0 11) 0) ∧ (vp_in r34 (ln h40 (mR h40 x0 11))) ∧ (vp_in x3 (ln h40 (mR h40 x0 11))) ∧ (((mI h40 (mR h40 x0 11) r34.toNatClampNeg + 1) < mI h40 (mR h40 x0 11) x3.toNatClampNeg → (wX10_measures_J178 K (wX10_measures_L81 K c207  n) x0 x1 x2 x3 x4 r34 v42 h40)) ∧ (¬ (mI h40 (mR h40 x0 11) r34.toNatClampNeg + 1) < mI h40 (mR h40 x0 11) x3.toNatClampNeg → wX10_measures_L81 K c207  n x0 x1 x2 x3 (x4 + 1) h40)))))))) ∧ (mI h33 (mR h33 x0 10) r34.toNatClampNeg = 9999 → wX10_measures_L81 K c207  n x0 x1 x2 x3 (x4 + 1) h33)))))))
def wX10_measures_L60 (K : AH → Prop) (c213 : Nat → Int32 → Int32 → AH → Prop)  : Nat → Nat → Int32 → Int32 → Int32 → AH → Prop
  | 0 => fun _ _ _ _ _ => False
  | n + 1 => fun x0 x1 x2 x3 h =>
  (isO h x0 7) ∧ (isA h (mR h x0 1) 0) ∧ (vp_in 0 (ln h (mR h x0 1))) ∧ ((mI h (mR h x0 1) 0.toNatClampNeg ≤ x3 → c213 x0 x1 x2 h) ∧ (¬ mI h (mR h x0 1) 0.toNatClampNeg ≤ x3 → ((¬ x3 = x1 → (∃ n69, wX10_measures_L81 K (fun x0_64 x1_65 x2_66 x3_67 h68 => wX10_measures_L60 K c213  n x0_64 x1_65 x2_66 (x3_67 + 1) h68) n69 x0 x1 x2 x3 0 h)) ∧ (x3 = x1 → wX10_measures_L60 K c213  n x0 x1 x2 (x3 + 1) h))))
def wX10_measures_L48 (K : AH → Prop)   : Nat → Nat → Int32 → Int32 → AH → Prop
  | 0 => fun _ _ _ _ => False
  | n + 1 => fun x0 x1 x2 h =>
  (isO h x0 7) ∧ (isA h (mR h x0 1) 0) ∧ (vp_in 0 (ln h (mR h x0 1))) ∧ ((mI h (mR h x0 1) 0.toNatClampNeg ≤ x2 → K h) ∧ (¬ mI h (mR h x0 1) 0.toNatClampNeg ≤ x2 → (∃ n74, wX10_measures_L60 K (fun x0_70 x1_71 x2_72 h73 => wX10_measures_L48 K   n x0_70 x1_71 (x2_72 + 1) h73) n74 x0 x1 x2 0 h)))
def wX10_measures (a0 : Nat) (a1 : Int32) (h : AH) (K : AH → Prop) : Prop :=
  (∃ n76, wX10_measures_L2 K (fun x0_11 x1_12 h13 => (isO h13 x0_11 7) ∧ (isA h13 (mR h13 x0_11 10) 0) ∧ (nZ ≤ (mR h13 x0_11 10)) ∧ (vp_in x1_12 (ln h13 (mR h13 x0_11 10))) ∧ ∀ h18, h18 = uI h13 (mR h13 x0_11 10) x1_12.toNatClampNeg 0 → (isA h13 (mR h13 x0_11 11) 0) ∧ (nZ ≤ (mR h13 x0_11 11)) ∧ (vp_in x1_12 (ln h13 (mR h13 x0_11 11))) ∧ ∀ h22, h22 = uI h18 (mR h13 x0_11 11) x1_12.toNatClampNeg 0 → (∃ n75, wX10_measures_L48 K  n75 x0_11 x1_12 0 h22)) n76 a0 a1 0 h)
def wX10_leads_L49 (K : Int32 → AH → Prop) (c156 : Nat → Int32 → Int32 → Int32 → AH → Prop)  : Nat → Nat → Int32 → Int32 → Int32 → Int32 → Int32 → AH → Prop
  | 0 => fun _ _ _ _ _ _ _ => False
  | n + 1 => fun x0 x1 x2 x3 x4 x5 h =>
  ((2 ≤ x5 → c156 x0 x1 x2 x4 h) ∧ (¬ 2 ≤ x5 → (isO h x0 7) ∧ wX10_exit x0 x3 x5 h (fun r19 h18 => ((r19 = (-1) → wX10_leads_L49 K c156  n x0 x1 x2 x3 x4 (x5 + 1) h18) ∧ (¬ r19 = (-1) → (isO h18 x0 7) ∧ (isA h18 (mR h18 x0 10) 0) ∧ (vp_in r19 (ln h18 (mR h18 x0 10))) ∧ ((mI h18 (mR h18 x0 10) r19.toNatClampNeg = 9999 → wX10_leads_L49 K c156  n x0 x1 x2 x3 x4 (x5 + 1) h18) ∧ (¬ mI h18 (mR h18 x0 10) r19.toNatClampNeg = 9999 → wX10_block x0 r19 0 h18 (fun r26 h25 => (isO h25 x0 7) ∧ (isA h25 (mR h25 x0 10) 0) ∧ (vp_in x3 (ln h25 (mR h25 x0 10))) ∧ ((¬ (mI h18 (mR h18 x0 10) r19.toNatClampNeg + r26) = mI h25 (mR h25 x0 10) x3.toNatClampNeg → wX10_leads_L49 K c156  n x0 x1 x2 x3 x4 (x5 + 1) h25) ∧ ((mI h18 (mR h18 x0 10) r19.toNatClampNeg + r26) = mI h25 (mR h25 x0 10) x3.toNatClampNeg → (isA h25 (mR h25 x0 11) 0) ∧ (vp_in r19 (ln h25 (mR h25 x0 11))) ∧ (vp_in x3 (ln h25 (mR h25 x0 11))) ∧ (((mI h25 (mR h25 x0 11) r19.toNatClampNeg + 1) = mI h25 (mR h25 x0 11) x3.toNatClampNeg → ((x4 = (-1) → wX10_leads_L49 K c156  n x0 x1 x2 x3 r19 (x5 + 1) h25) ∧ (¬ x4 = (-1) → ((x4 ≤ r19 → wX10_leads_L49 K c156  n x0 x1 x2 x3 x4 (x5 + 1) h25) ∧ (¬ x4 ≤ r19 → wX10_leads_L49 K c156  n x0 x1 x2 x3 r19 (x5 + 1) h25))))) ∧ (¬ (mI h25 (mR h25 x0 11) r19.toNatClampNeg + 1) = mI h25 (mR h25 x0 11) x3.toNatClampNeg → wX10_leads_L49 K c156  n x0 x1 x2 x3 x4 (x5 + 1) h25))))))))))))
def wX10_leads_L38 (K : Int32 → AH → Prop)   : Nat → Nat → Int32 → Int32 → Int32 → AH → Prop
  | 0 => fun _ _ _ _ _ => False
  | n + 1 => fun x0 x1 x2 x3 h =>
  ((x3 = x2 → (isO h x0 7) ∧ (isA h (mR h x0 10) 0) ∧ (vp_in x1 (ln h (mR h x0 10))) ∧ K (mI h (mR h x0 10) x1.toNatClampNeg) h) ∧ (¬ x3 = x2 → (∃ n49, wX10_leads_L49 K (fun x0_38 x1_39 x2_40 x4_41 h42 => (isO h42 x0_38 7) ∧ (isA h42 (mR h42 x0_38 12) 0) ∧ (nZ ≤ (mR h42 x0_38 12)) ∧ (vp_in (mI h42 x0_38 20) (ln h42 (mR h42 x0_38 12))) ∧ ∀ h47, h47 = uI h42 (mR h42 x0_38 12) (mI h42 x0_38 20).toNatClampNeg x4_41 → ∀ h48, h48 = uI h47 x0_38 20 (mI h47 x0_38 20 + 1) → wX10_leads_L38 K   n x0_38 x1_39 x2_40 x4_41 h48) n49 x0 x1 x2 x3 (-1) 0 h)))
def wX10_leads (a0 : Nat) (a1 : Int32) (a2 : Int32) (h : AH) (K : Int32 → AH → Prop) : Prop :=
  (isO h a0 7) ∧ wX10_measures a0 a2 h (fun h1 => (isO h1 a0 7) ∧ ∀ h4, h4 = uI h1 a0 20 0 → (isA h1 (mR h1 a0 10) 0) ∧ (vp_in a1 (ln h1 (mR h1 a0 10))) ∧ ((¬ mI h4 (mR h1 a0 10) a1.toNatClampNeg = 9999 → (isA h1 (mR h1 a0 12) 0) ∧ (nZ ≤ (mR h1 a0 12)) ∧ (vp_in 0 (ln h1 (mR h1 a0 12))) ∧ ∀ h11, h11 = uI h4 (mR h1 a0 12) 0.toNatClampNeg a1 → ∀ h12, h12 = uI h11 a0 20 1 → (∃ n50, wX10_leads_L38 K  n50 a0 a1 a2 a1 h12)) ∧ (mI h4 (mR h1 a0 10) a1.toNatClampNeg = 9999 → K (-1) h4)))
def wX10_count_L13 (rec : Nat → Int32 → Int32 → Int32 → AH → (Int32 → AH → Prop) → Prop) (K : Int32 → AH → Prop)   : Nat → Nat → Int32 → Int32 → Int32 → Int32 → Int32 → AH → Prop
  | 0 => fun _ _ _ _ _ _ _ => False
  | n + 1 => fun x0 x1 x2 x3 x4 x5 h =>
  ((2 ≤ x5 → K x4 h) ∧ (¬ 2 ≤ x5 → (isO h x0 7) ∧ wX10_exit x0 x1 x5 h (fun r4 h3 => ((r4 = (-1) → wX10_count_L13 rec K   n x0 x1 x2 x3 (x4 + 0) (x5 + 1) h3) ∧ (¬ r4 = (-1) → ((¬ ((x3 >>> (r4 &&& 31)) &&& 1) = 0 → wX10_count_L13 rec K   n x0 x1 x2 x3 (x4 + 0) (x5 + 1) h3) ∧ (((x3 >>> (r4 &&& 31)) &&& 1) = 0 → (isO h3 x0 7) ∧ rec x0 r4 x2 (x3 ||| (1 <<< (r4 &&& 31))) h3 (fun r8 h7 => wX10_count_L13 rec K   n x0 x1 x2 x3 (x4 + r8) (x5 + 1) h7))))))))
def wX10_count_b (rec : Nat → Int32 → Int32 → Int32 → AH → (Int32 → AH → Prop) → Prop) (a0 : Nat) (a1 : Int32) (a2 : Int32) (a3 : Int32) (h : AH) (K : Int32 → AH → Prop) : Prop :=
  ((¬ a1 = a2 → (∃ n11, wX10_count_L13 rec K  n11 a0 a1 a2 a3 0 0 h)) ∧ (a1 = a2 → K 1 h))
def wX10_count : Nat → Nat → Int32 → Int32 → Int32 → AH → (Int32 → AH → Prop) → Prop
  | 0 => fun _ _ _ _ _ _ => False
  | d + 1 => wX10_count_b (wX10_count d)
def wX10_hindered_L24 (K : Int32 → AH → Prop)   : Nat → Nat → Int32 → AH → Prop
  | 0 => fun _ _ _ => False
  | n + 1 => fun x0 x2 h =>
  (isO h x0 7) ∧ ((mI h x0 20 ≤ x2 → K (-1) h) ∧ (¬ mI h x0 20 ≤ x2 → (isA h (mR h x0 12) 0) ∧ (vp_in x2 (ln h (mR h x0 12))) ∧ wX10_look x0 (mI h (mR h x0 12) x2.toNatClampNeg) h (fun r13 h12 => ((r13 = 102 → wX10_hindered_L24 K   n x0 (x2 + 1) h12) ∧ (¬ r13 = 102 → K x2 h12)))))
def wX10_hindered (a0 : Nat) (a1 : Int32) (h : AH) (K : Int32 → AH → Prop) : Prop :=
  (isO h a0 7) ∧ wX10_train a0 a1 1 h (fun r2 h1 => (isO h1 a0 7) ∧ wX10_train a0 a1 2 h1 (fun r4 h3 => (isO h3 a0 7) ∧ wX10_leads a0 r2 r4 h3 (fun r6 h5 => ((¬ r6 = (-1) → (∃ n15, wX10_hindered_L24 K  n15 a0 1 h5)) ∧ (r6 = (-1) → K 0 h5)))))
def wX10_isFree (a0 : Nat) (a1 : Int32) (h : AH) (K : Int32 → AH → Prop) : Prop :=
  (isO h a0 7) ∧ wX10_train a0 a1 3 h (fun r2 h1 => ((¬ r2 = 0 → K 0 h1) ∧ (r2 = 0 → (isO h1 a0 7) ∧ wX10_hindered a0 a1 h1 (fun r5 h4 => ((¬ r5 = (-1) → K 0 h4) ∧ (r5 = (-1) → K 1 h4))))))
def wX10_pointAt (a0 : Nat) (a1 : Int32) (h : AH) (K : Int32 → AH → Prop) : Prop :=
  (isO h a0 7) ∧ wX10_block a0 a1 3 h (fun r2 h1 => K (r2 - 1) h1)
def wX10_unqueues_L2 (K : AH → Prop) (c22 : Nat → Int32 → AH → Prop)  : Nat → Nat → Int32 → Int32 → AH → Prop
  | 0 => fun _ _ _ _ => False
  | n + 1 => fun x0 x1 x2 h =>
  (isO h x0 7) ∧ (isA h (mR h x0 1) 0) ∧ (vp_in (273 + x2) (ln h (mR h x0 1))) ∧ ((mI h (mR h x0 1) (273 + x2).toNatClampNeg = x1 → c22 x0 x2 h) ∧ (¬ mI h (mR h x0 1) (273 + x2).toNatClampNeg = x1 → wX10_unqueues_L2 K c22  n x0 x1 (x2 + 1) h))
def wX10_unqueues_L24 (K : AH → Prop)   : Nat → Nat → Int32 → AH → Prop
  | 0 => fun _ _ _ => False
  | n + 1 => fun x0 x3 h =>
  (isO h x0 7) ∧ (isA h (mR h x0 1) 0) ∧ (vp_in 5 (ln h (mR h x0 1))) ∧ (((mI h (mR h x0 1) 5.toNatClampNeg - 1) ≤ x3 → (nZ ≤ (mR h x0 1)) ∧ ∀ h13, h13 = uI h (mR h x0 1) 5.toNatClampNeg (mI h (mR h x0 1) 5.toNatClampNeg - 1) → (vp_in (273 + mI h13 (mR h x0 1) 5.toNatClampNeg) (ln h (mR h x0 1))) ∧ ∀ h15, h15 = uI h13 (mR h x0 1) (273 + mI h13 (mR h x0 1) 5.toNatClampNeg).toNatClampNeg 0 → K h15) ∧ (¬ (mI h (mR h x0 1) 5.toNatClampNeg - 1) ≤ x3 → (vp_in ((273 + x3) + 1) (ln h (mR h x0 1))) ∧ (nZ ≤ (mR h x0 1)) ∧ (vp_in (273 + x3) (ln h (mR h x0 1))) ∧ ∀ h19, h19 = uI h (mR h x0 1) (273 + x3).toNatClampNeg (mI h (mR h x0 1) ((273 + x3) + 1).toNatClampNeg) → wX10_unqueues_L24 K   n x0 (x3 + 1) h19))
def wX10_unqueues (a0 : Nat) (a1 : Int32) (h : AH) (K : AH → Prop) : Prop :=
  (∃ n21, wX10_unqueues_L2 K (fun x0_5 x2_6 h7 => (∃ n20, wX10_unqueues_L24 K  n20 x0_5 x2_6 h7)) n21 a0 a1 0 h)
def wX10_enqueues (a0 : Nat) (a1 : Int32) (h : AH) (K : AH → Prop) : Prop :=
  (isO h a0 7) ∧ (isA h (mR h a0 1) 0) ∧ (vp_in 5 (ln h (mR h a0 1))) ∧ (nZ ≤ (mR h a0 1)) ∧ (vp_in (273 + mI h (mR h a0 1) 5.toNatClampNeg) (ln h (mR h a0 1))) ∧ ∀ h6, h6 = uI h (mR h a0 1) (273 + mI h (mR h a0 1) 5.toNatClampNeg).toNatClampNeg a1 → ∀ h7, h7 = uI h6 (mR h a0 1) 5.toNatClampNeg (mI h6 (mR h a0 1) 5.toNatClampNeg + 1) → K h7
def wX10_sets_J143 (K : Int32 → AH → Prop) (c27 : Nat → Int32 → Int32 → Int32 → Int32 → AH → Prop) (x0 : Nat) (x1 : Int32) (x2 : Int32) (x3 : Int32) (x4 : Int32) (x5 : Int32) (y0 : Nat) (y1 : Int32) (y2 : Int32) (h : AH) : Prop :=
  (isA h y0 0) ∧ (nZ ≤ y0) ∧ (vp_in y1 (ln h y0)) ∧ ∀ h51, h51 = uI h y0 y1.toNatClampNeg y2 → (isO h x0 7) ∧ (isA h (mR h x0 1) 0) ∧ (nZ ≤ (mR h x0 1)) ∧ (vp_in ((81 + (5 * x5)) + 4) (ln h (mR h x0 1))) ∧ ∀ h56, h56 = uI h51 (mR h x0 1) ((81 + (5 * x5)) + 4).toNatClampNeg (x3 + 1) → c27 x0 x1 x2 x3 (x4 + 1) h56
def wX10_sets_J73 (K : Int32 → AH → Prop) (c27 : Nat → Int32 → Int32 → Int32 → Int32 → AH → Prop) (x0 : Nat) (x1 : Int32) (x2 : Int32) (x3 : Int32) (x4 : Int32) (h : AH) : Prop :=
  (isO h x0 7) ∧ (isA h (mR h x0 12) 0) ∧ (vp_in x4 (ln h (mR h x0 12))) ∧ wX10_pointAt x0 (mI h (mR h x0 12) x4.toNatClampNeg) h (fun r38 h37 => (isO h37 x0 7) ∧ ((x4 = (mI h37 x0 20 - 1) → c27 x0 x1 x2 x3 (x4 + 1) h37) ∧ (¬ x4 = (mI h37 x0 20 - 1) → ((¬ r38 = (-1) → wX10_point x0 r38 1 h37 (fun r43 h42 => (isO h42 x0 7) ∧ (isA h42 (mR h42 x0 12) 0) ∧ (vp_in (x4 + 1) (ln h42 (mR h42 x0 12))) ∧ ((¬ r43 = mI h42 (mR h42 x0 12) (x4 + 1).toNatClampNeg → (wX10_sets_J143 K c27 x0 x1 x2 x3 x4 r38 (mR h37 x0 1) ((81 + (5 * r38)) + 3) 1 h42)) ∧ (r43 = mI h42 (mR h42 x0 12) (x4 + 1).toNatClampNeg → (wX10_sets_J143 K c27 x0 x1 x2 x3 x4 r38 (mR h37 x0 1) ((81 + (5 * r38)) + 3) 0 h42))))) ∧ (r38 = (-1) → c27 x0 x1 x2 x3 (x4 + 1) h37)))))
def wX10_sets_L27 (K : Int32 → AH → Prop)   : Nat → Nat → Int32 → Int32 → Int32 → Int32 → AH → Prop
  | 0 => fun _ _ _ _ _ _ => False
  | n + 1 => fun x0 x1 x2 x3 x4 h =>
  (isO h x0 7) ∧ ((mI h x0 20 ≤ x4 → wX10_tells x0 x1 6 (mI h x0 20) h (fun h11 => (isO h11 x0 7) ∧ wX10_tells x0 x1 3 1 h11 (fun h13 => (isO h13 x0 7) ∧ (isA h13 (mR h13 x0 1) 0) ∧ (vp_in 6 (ln h13 (mR h13 x0 1))) ∧ (isA h13 (mR h13 x0 12) 0) ∧ (vp_in 1 (ln h13 (mR h13 x0 12))) ∧ wX10_block x0 (mI h13 (mR h13 x0 12) 1.toNatClampNeg) 0 h13 (fun r21 h20 => (isO h20 x0 7) ∧ wX10_tells x0 x1 4 (mI h13 (mR h13 x0 1) 6.toNatClampNeg + r21) h20 (fun h22 => (isO h22 x0 7) ∧ wX10_unqueues x0 x3 h22 (fun h24 => K x2 h24)))))) ∧ (¬ mI h x0 20 ≤ x4 → (isA h (mR h x0 12) 0) ∧ (vp_in x4 (ln h (mR h x0 12))) ∧ wX10_tells x0 x1 (7 + x4) (mI h (mR h x0 12) x4.toNatClampNeg) h (fun h31 => ((x4 ≤ 0 → (wX10_sets_J73 K (wX10_sets_L27 K   n) x0 x1 x2 x3 x4 h31)) ∧ (¬ x4 ≤ 0 → (isO h31 x0 7) ∧ (isA h31 (mR h31 x0 12) 0) ∧ (vp_in x4 (ln h31 (mR h31 x0 12))) ∧ wX10_puts x0 (mI h31 (mR h31 x0 12) x4.toNatClampNeg) 5 (x3 + 1) h31 (fun h60 => (wX10_sets_J73 K (wX10_sets_L27 K   n) x0 x1 x2 x3 x4 h60)))))))
def wX10_sets (a0 : Nat) (a1 : Int32) (h : AH) (K : Int32 → AH → Prop) : Prop :=
  (isO h a0 7) ∧ wX10_train a0 a1 1 h (fun r2 h1 => (isO h1 a0 7) ∧ wX10_train a0 a1 2 h1 (fun r4 h3 => (isO h3 a0 7) ∧ wX10_leads a0 r2 r4 h3 (fun r6 h5 => (isO h5 a0 7) ∧ wX10_train a0 a1 0 h5 (fun r8 h7 => (∃ n62, wX10_sets_L27 K  n62 a0 a1 r6 r8 0 h7)))))
def wX10_unlocks (a0 : Nat) (a1 : Int32) (h : AH) (K : AH → Prop) : Prop :=
  (isO h a0 7) ∧ wX10_pointAt a0 a1 h (fun r2 h1 => ((r2 = (-1) → K h1) ∧ (¬ r2 = (-1) → (isO h1 a0 7) ∧ wX10_pointAt a0 a1 h1 (fun r6 h5 => (isA h5 (mR h1 a0 1) 0) ∧ (nZ ≤ (mR h1 a0 1)) ∧ (vp_in ((81 + (5 * r6)) + 4) (ln h5 (mR h1 a0 1))) ∧ ∀ h10, h10 = uI h5 (mR h1 a0 1) ((81 + (5 * r6)) + 4).toNatClampNeg 0 → K h10))))
def wX10_enters_L70 (K : Int32 → AH → Prop)   : Nat → Nat → Int32 → Int32 → AH → Prop
  | 0 => fun _ _ _ _ => False
  | n + 1 => fun x0 x1 x4 h =>
  (isO h x0 7) ∧ wX10_train x0 x1 6 h (fun r21 h20 => ((r21 ≤ (x4 + 1) → (isO h20 x0 7) ∧ wX10_train x0 x1 6 h20 (fun r24 h23 => (isO h23 x0 7) ∧ wX10_tells x0 x1 6 (r24 - 1) h23 (fun h25 => (isO h25 x0 7) ∧ (isA h25 (mR h25 x0 1) 0) ∧ (vp_in 6 (ln h25 (mR h25 x0 1))) ∧ wX10_train x0 x1 8 h25 (fun r31 h30 => (isO h30 x0 7) ∧ wX10_block x0 r31 0 h30 (fun r33 h32 => (isO h32 x0 7) ∧ wX10_tells x0 x1 4 (mI h25 (mR h25 x0 1) 6.toNatClampNeg + r33) h32 (fun h34 => K 0 h34)))))) ∧ (¬ r21 ≤ (x4 + 1) → (isO h20 x0 7) ∧ wX10_train x0 x1 ((7 + x4) + 1) h20 (fun r41 h40 => (isO h40 x0 7) ∧ wX10_tells x0 x1 (7 + x4) r41 h40 (fun h42 => wX10_enters_L70 K   n x0 x1 (x4 + 1) h42)))))
def wX10_enters (a0 : Nat) (a1 : Int32) (h : AH) (K : Int32 → AH → Prop) : Prop :=
  (isO h a0 7) ∧ wX10_train a0 a1 1 h (fun r2 h1 => (isO h1 a0 7) ∧ wX10_train a0 a1 8 h1 (fun r4 h3 => (isO h3 a0 7) ∧ wX10_puts a0 r2 4 0 h3 (fun h5 => (isO h5 a0 7) ∧ wX10_unlocks a0 r2 h5 (fun h7 => (isO h7 a0 7) ∧ wX10_puts a0 r4 5 0 h7 (fun h9 => (isO h9 a0 7) ∧ wX10_train a0 a1 2 h9 (fun r12 h11 => ((¬ r4 = r12 → (isO h11 a0 7) ∧ wX10_train a0 a1 0 h11 (fun r15 h14 => (isO h14 a0 7) ∧ wX10_puts a0 r4 4 (r15 + 1) h14 (fun h16 => (isO h16 a0 7) ∧ wX10_tells a0 a1 1 r4 h16 (fun h18 => (∃ n47, wX10_enters_L70 K  n47 a0 a1 0 h18))))) ∧ (r4 = r12 → K 1 h11))))))))
def wX10_leaves_L14 (K : AH → Prop) (c49 : Nat → Int32 → AH → Prop)  : Nat → Nat → Int32 → Int32 → AH → Prop
  | 0 => fun _ _ _ _ => False
  | n + 1 => fun x0 x2 x3 h =>
  (((19 * x2) ≤ x3 → c49 x0 x2 h) ∧ (¬ (19 * x2) ≤ x3 → (isO h x0 7) ∧ (isA h (mR h x0 1) 0) ∧ (vp_in ((121 + x3) + 19) (ln h (mR h x0 1))) ∧ (nZ ≤ (mR h x0 1)) ∧ (vp_in (121 + x3) (ln h (mR h x0 1))) ∧ ∀ h12, h12 = uI h (mR h x0 1) (121 + x3).toNatClampNeg (mI h (mR h x0 1) ((121 + x3) + 19).toNatClampNeg) → wX10_leaves_L14 K c49  n x0 x2 (x3 + 1) h12))
def wX10_leaves_L51 (K : AH → Prop)   : Nat → Nat → Int32 → Int32 → AH → Prop
  | 0 => fun _ _ _ _ => False
  | n + 1 => fun x0 x2 x3 h =>
  ((19 ≤ x3 → (isO h x0 7) ∧ (isA h (mR h x0 1) 0) ∧ (nZ ≤ (mR h x0 1)) ∧ (vp_in 4 (ln h (mR h x0 1))) ∧ ∀ h21, h21 = uI h (mR h x0 1) 4.toNatClampNeg x2 → (vp_in 7 (ln h (mR h x0 1))) ∧ ∀ h23, h23 = uI h21 (mR h x0 1) 7.toNatClampNeg (mI h21 (mR h x0 1) 7.toNatClampNeg + 1) → K h23) ∧ (¬ 19 ≤ x3 → (isO h x0 7) ∧ (isA h (mR h x0 1) 0) ∧ (nZ ≤ (mR h x0 1)) ∧ (vp_in ((121 + (19 * x2)) + x3) (ln h (mR h x0 1))) ∧ ∀ h28, h28 = uI h (mR h x0 1) ((121 + (19 * x2)) + x3).toNatClampNeg 0 → wX10_leaves_L51 K   n x0 x2 (x3 + 1) h28))
def wX10_leaves (a0 : Nat) (a1 : Int32) (h : AH) (K : AH → Prop) : Prop :=
  (isO h a0 7) ∧ (isA h (mR h a0 1) 0) ∧ (vp_in 4 (ln h (mR h a0 1))) ∧ ∀ v4 : Int32, v4 = (mI h (mR h a0 1) 4.toNatClampNeg - 1) → (∃ n30, wX10_leaves_L14 K (fun x0_13 x2_14 h15 => (∃ n29, wX10_leaves_L51 K  n29 x0_13 x2_14 0 h15)) n30 a0 v4 (19 * a1) h)
def wX10_oneMinute_L13 (K : AH → Prop) (c71 : Nat → AH → Prop)  : Nat → Nat → Int32 → AH → Prop
  | 0 => fun _ _ _ => False
  | n + 1 => fun x0 x1 h =>
  (isO h x0 7) ∧ (isA h (mR h x0 1) 0) ∧ (vp_in 4 (ln h (mR h x0 1))) ∧ ((mI h (mR h x0 1) 4.toNatClampNeg ≤ x1 → c71 x0 h) ∧ (¬ mI h (mR h x0 1) 4.toNatClampNeg ≤ x1 → wX10_train x0 x1 3 h (fun r11 h10 => ((¬ r11 = 1 → wX10_oneMinute_L13 K c71  n x0 (x1 + 1) h10) ∧ (r11 = 1 → (isO h10 x0 7) ∧ wX10_train x0 x1 4 h10 (fun r14 h13 => (isO h13 x0 7) ∧ (isA h13 (mR h13 x0 1) 0) ∧ (vp_in 6 (ln h13 (mR h13 x0 1))) ∧ ((¬ r14 = mI h13 (mR h13 x0 1) 6.toNatClampNeg → wX10_oneMinute_L13 K c71  n x0 (x1 + 1) h13) ∧ (r14 = mI h13 (mR h13 x0 1) 6.toNatClampNeg → wX10_enters x0 x1 h13 (fun r20 h19 => ((r20 = 0 → wX10_oneMinute_L13 K c71  n x0 (x1 + 1) h19) ∧ (¬ r20 = 0 → (isO h19 x0 7) ∧ wX10_leaves x0 x1 h19 (fun h22 => wX10_oneMinute_L13 K c71  n x0 x1 h22))))))))))))
def wX10_oneMinute_L73 (K : AH → Prop)   : Nat → Nat → Int32 → AH → Prop
  | 0 => fun _ _ _ => False
  | n + 1 => fun x0 x2 h =>
  (isO h x0 7) ∧ (isA h (mR h x0 1) 0) ∧ (vp_in 5 (ln h (mR h x0 1))) ∧ ((mI h (mR h x0 1) 5.toNatClampNeg ≤ x2 → K h) ∧ (¬ mI h (mR h x0 1) 5.toNatClampNeg ≤ x2 → (vp_in (273 + x2) (ln h (mR h x0 1))) ∧ wX10_placeOf x0 (mI h (mR h x0 1) (273 + x2).toNatClampNeg) h (fun r34 h33 => (isO h33 x0 7) ∧ wX10_isFree x0 r34 h33 (fun r36 h35 => ((r36 = 0 → (isO h35 x0 7) ∧ wX10_train x0 r34 5 h35 (fun r39 h38 => (isO h38 x0 7) ∧ wX10_tells x0 r34 5 (r39 + 1) h38 (fun h40 => (isO h40 x0 7) ∧ (isA h40 (mR h40 x0 1) 0) ∧ (vp_in 8 (ln h40 (mR h40 x0 1))) ∧ (nZ ≤ (mR h40 x0 1)) ∧ ∀ h46, h46 = uI h40 (mR h40 x0 1) 8.toNatClampNeg (mI h40 (mR h40 x0 1) 8.toNatClampNeg + 1) → wX10_oneMinute_L73 K   n x0 (x2 + 1) h46))) ∧ (¬ r36 = 0 → (isO h35 x0 7) ∧ wX10_sets x0 r34 h35 (fun r50 h49 => wX10_oneMinute_L73 K   n x0 x2 h49)))))))
def wX10_oneMinute (a0 : Nat) (h : AH) (K : AH → Prop) : Prop :=
  (isO h a0 7) ∧ (isA h (mR h a0 1) 0) ∧ (vp_in 6 (ln h (mR h a0 1))) ∧ (nZ ≤ (mR h a0 1)) ∧ ∀ h5, h5 = uI h (mR h a0 1) 6.toNatClampNeg (mI h (mR h a0 1) 6.toNatClampNeg + 1) → (∃ n54, wX10_oneMinute_L13 K (fun x0_26 h27 => (∃ n53, wX10_oneMinute_L73 K  n53 x0_26 0 h27)) n54 a0 0 h5)
def wX10_lays (a0 : Nat) (a1 : Int32) (h : AH) (K : Int32 → AH → Prop) : Prop :=
  wX10_in a1 1 9 h (fun r2 h1 => ((¬ r2 = 0 → (isO h1 a0 7) ∧ (isA h1 (mR h1 a0 1) 0) ∧ (vp_in 0 (ln h1 (mR h1 a0 1))) ∧ ((¬ mI h1 (mR h1 a0 1) 0.toNatClampNeg = 12 → wX10_puts a0 (mI h1 (mR h1 a0 1) 0.toNatClampNeg) 0 a1 h1 (fun h8 => (isO h8 a0 7) ∧ (isA h8 (mR h8 a0 1) 0) ∧ (nZ ≤ (mR h8 a0 1)) ∧ (vp_in 0 (ln h8 (mR h8 a0 1))) ∧ ∀ h14, h14 = uI h8 (mR h8 a0 1) 0.toNatClampNeg (mI h1 (mR h1 a0 1) 0.toNatClampNeg + 1) → wX10_done a0 (mI h1 (mR h1 a0 1) 0.toNatClampNeg) h14 (fun r16 h15 => K r16 h15))) ∧ (mI h1 (mR h1 a0 1) 0.toNatClampNeg = 12 → K 2 h1))) ∧ (r2 = 0 → K 1 h1)))
def wX10_forks (a0 : Nat) (a1 : Int32) (a2 : Int32) (a3 : Int32) (h : AH) (K : Int32 → AH → Prop) : Prop :=
  (isO h a0 7) ∧ wX10_isBlock a0 a1 h (fun r2 h1 => ((r2 = 0 → K 1 h1) ∧ (¬ r2 = 0 → (isO h1 a0 7) ∧ wX10_isBlock a0 a2 h1 (fun r5 h4 => ((r5 = 0 → K 1 h4) ∧ (¬ r5 = 0 → (isO h4 a0 7) ∧ wX10_isBlock a0 a3 h4 (fun r8 h7 => ((¬ r8 = 0 → ((a1 = a2 → K 2 h7) ∧ (¬ a1 = a2 → ((a1 = a3 → K 2 h7) ∧ (¬ a1 = a3 → ((¬ a2 = a3 → (isO h7 a0 7) ∧ (isA h7 (mR h7 a0 1) 0) ∧ (vp_in 1 (ln h7 (mR h7 a0 1))) ∧ ((mI h7 (mR h7 a0 1) 1.toNatClampNeg = 8 → K 3 h7) ∧ (¬ mI h7 (mR h7 a0 1) 1.toNatClampNeg = 8 → wX10_block a0 a1 3 h7 (fun r18 h17 => ((0 < r18 → K 3 h17) ∧ (¬ 0 < r18 → (isO h17 a0 7) ∧ wX10_block a0 a1 2 h17 (fun r21 h20 => ((r21 ≤ 0 → (isO h20 a0 7) ∧ (isA h20 (mR h20 a0 1) 0) ∧ (nZ ≤ (mR h20 a0 1)) ∧ (vp_in ((81 + (5 * mI h7 (mR h7 a0 1) 1.toNatClampNeg)) + 0) (ln h20 (mR h20 a0 1))) ∧ ∀ h27, h27 = uI h20 (mR h20 a0 1) ((81 + (5 * mI h7 (mR h7 a0 1) 1.toNatClampNeg)) + 0).toNatClampNeg a1 → (vp_in ((81 + (5 * mI h7 (mR h7 a0 1) 1.toNatClampNeg)) + 1) (ln h20 (mR h20 a0 1))) ∧ ∀ h29, h29 = uI h27 (mR h20 a0 1) ((81 + (5 * mI h7 (mR h7 a0 1) 1.toNatClampNeg)) + 1).toNatClampNeg a2 → (vp_in ((81 + (5 * mI h7 (mR h7 a0 1) 1.toNatClampNeg)) + 2) (ln h20 (mR h20 a0 1))) ∧ ∀ h31, h31 = uI h29 (mR h20 a0 1) ((81 + (5 * mI h7 (mR h7 a0 1) 1.toNatClampNeg)) + 2).toNatClampNeg a3 → wX10_puts a0 a1 3 (mI h7 (mR h7 a0 1) 1.toNatClampNeg + 1) h31 (fun h32 => (isO h32 a0 7) ∧ (isA h32 (mR h32 a0 1) 0) ∧ (nZ ≤ (mR h32 a0 1)) ∧ (vp_in 1 (ln h32 (mR h32 a0 1))) ∧ ∀ h38, h38 = uI h32 (mR h32 a0 1) 1.toNatClampNeg (mI h7 (mR h7 a0 1) 1.toNatClampNeg + 1) → wX10_done a0 (mI h7 (mR h7 a0 1) 1.toNatClampNeg) h38 (fun r40 h39 => K r40 h39))) ∧ (¬ r21 ≤ 0 → K 3 h20))))))))) ∧ (a2 = a3 → K 2 h7))))))) ∧ (r8 = 0 → K 1 h7)))))))))
def wX10_links (a0 : Nat) (a1 : Int32) (a2 : Int32) (h : AH) (K : Int32 → AH → Prop) : Prop :=
  (isO h a0 7) ∧ wX10_isBlock a0 a1 h (fun r2 h1 => ((r2 = 0 → K 1 h1) ∧ (¬ r2 = 0 → (isO h1 a0 7) ∧ wX10_isBlock a0 a2 h1 (fun r5 h4 => ((¬ r5 = 0 → ((¬ a1 = a2 → (isO h4 a0 7) ∧ wX10_block a0 a1 3 h4 (fun r9 h8 => ((0 < r9 → K 3 h8) ∧ (¬ 0 < r9 → (isO h8 a0 7) ∧ wX10_block a0 a1 2 h8 (fun r12 h11 => ((r12 ≤ 0 → (isO h11 a0 7) ∧ wX10_puts a0 a1 2 (a2 + 1) h11 (fun h14 => (isO h14 a0 7) ∧ (isA h14 (mR h14 a0 1) 0) ∧ (vp_in 2 (ln h14 (mR h14 a0 1))) ∧ (nZ ≤ (mR h14 a0 1)) ∧ ∀ h20, h20 = uI h14 (mR h14 a0 1) 2.toNatClampNeg (mI h14 (mR h14 a0 1) 2.toNatClampNeg + 1) → wX10_done a0 (mI h20 (mR h14 a0 1) 2.toNatClampNeg) h20 (fun r22 h21 => K r22 h21))) ∧ (¬ r12 ≤ 0 → K 3 h11))))))) ∧ (a1 = a2 → K 2 h4))) ∧ (r5 = 0 → K 1 h4))))))
def wX10_shuts (a0 : Nat) (a1 : Int32) (h : AH) (K : Int32 → AH → Prop) : Prop :=
  (isO h a0 7) ∧ wX10_isBlock a0 a1 h (fun r2 h1 => ((¬ r2 = 0 → (isO h1 a0 7) ∧ wX10_block a0 a1 1 h1 (fun r5 h4 => ((r5 = 1 → K 2 h4) ∧ (¬ r5 = 1 → (isO h4 a0 7) ∧ wX10_block a0 a1 5 h4 (fun r8 h7 => ((r8 ≤ 0 → (isO h7 a0 7) ∧ wX10_puts a0 a1 1 1 h7 (fun h10 => (isO h10 a0 7) ∧ wX10_shutMany a0 h10 (fun r13 h12 => (isO h12 a0 7) ∧ wX10_done a0 r13 h12 (fun r15 h14 => K r15 h14)))) ∧ (¬ r8 ≤ 0 → K 2 h7))))))) ∧ (r2 = 0 → K 1 h1)))
def wX10_opens (a0 : Nat) (a1 : Int32) (h : AH) (K : Int32 → AH → Prop) : Prop :=
  (isO h a0 7) ∧ wX10_isBlock a0 a1 h (fun r2 h1 => ((¬ r2 = 0 → (isO h1 a0 7) ∧ wX10_block a0 a1 1 h1 (fun r5 h4 => ((¬ r5 = 0 → (isO h4 a0 7) ∧ wX10_puts a0 a1 1 0 h4 (fun h7 => (isO h7 a0 7) ∧ wX10_shutMany a0 h7 (fun r10 h9 => (isO h9 a0 7) ∧ wX10_done a0 r10 h9 (fun r12 h11 => K r12 h11)))) ∧ (r5 = 0 → K 2 h4)))) ∧ (r2 = 0 → K 1 h1)))
def wX10_throwsOver (a0 : Nat) (a1 : Int32) (h : AH) (K : Int32 → AH → Prop) : Prop :=
  (isO h a0 7) ∧ wX10_isPoint a0 a1 h (fun r2 h1 => ((¬ r2 = 0 → (isO h1 a0 7) ∧ wX10_point a0 a1 4 h1 (fun r5 h4 => ((r5 ≤ 0 → (isO h4 a0 7) ∧ wX10_point a0 a1 3 h4 (fun r9 h8 => (isA h8 (mR h4 a0 1) 0) ∧ (nZ ≤ (mR h4 a0 1)) ∧ (vp_in ((81 + (5 * a1)) + 3) (ln h8 (mR h4 a0 1))) ∧ ∀ h13, h13 = uI h8 (mR h4 a0 1) ((81 + (5 * a1)) + 3).toNatClampNeg (1 - r9) → (isO h8 a0 7) ∧ wX10_point a0 a1 3 h13 (fun r15 h14 => (isO h14 a0 7) ∧ wX10_done a0 (1 - r15) h14 (fun r17 h16 => K r17 h16)))) ∧ (¬ r5 ≤ 0 → K 2 h4)))) ∧ (r2 = 0 → K 1 h1)))
def wX10_comes (a0 : Nat) (a1 : Int32) (a2 : Int32) (h : AH) (K : Int32 → AH → Prop) : Prop :=
  (isO h a0 7) ∧ wX10_isBlock a0 a1 h (fun r2 h1 => ((r2 = 0 → K 1 h1) ∧ (¬ r2 = 0 → (isO h1 a0 7) ∧ wX10_isBlock a0 a2 h1 (fun r5 h4 => ((¬ r5 = 0 → ((¬ a1 = a2 → (isO h4 a0 7) ∧ (isA h4 (mR h4 a0 1) 0) ∧ (vp_in 4 (ln h4 (mR h4 a0 1))) ∧ ((mI h4 (mR h4 a0 1) 4.toNatClampNeg = 8 → K 3 h4) ∧ (¬ mI h4 (mR h4 a0 1) 4.toNatClampNeg = 8 → wX10_look a0 a1 h4 (fun r13 h12 => ((r13 = 102 → (isO h12 a0 7) ∧ (isA h12 (mR h12 a0 1) 0) ∧ (vp_in 3 (ln h12 (mR h12 a0 1))) ∧ wX10_tells a0 (mI h4 (mR h4 a0 1) 4.toNatClampNeg) 0 (mI h12 (mR h12 a0 1) 3.toNatClampNeg) h12 (fun h18 => (isO h18 a0 7) ∧ wX10_tells a0 (mI h4 (mR h4 a0 1) 4.toNatClampNeg) 1 a1 h18 (fun h20 => (isO h20 a0 7) ∧ wX10_tells a0 (mI h4 (mR h4 a0 1) 4.toNatClampNeg) 2 a2 h20 (fun h22 => (isO h22 a0 7) ∧ (isA h22 (mR h22 a0 1) 0) ∧ (nZ ≤ (mR h22 a0 1)) ∧ (vp_in 4 (ln h22 (mR h22 a0 1))) ∧ ∀ h28, h28 = uI h22 (mR h22 a0 1) 4.toNatClampNeg (mI h4 (mR h4 a0 1) 4.toNatClampNeg + 1) → (vp_in 3 (ln h22 (mR h22 a0 1))) ∧ ∀ h30, h30 = uI h28 (mR h22 a0 1) 3.toNatClampNeg (mI h28 (mR h22 a0 1) 3.toNatClampNeg + 1) → wX10_puts a0 a1 4 (mI h12 (mR h12 a0 1) 3.toNatClampNeg + 1) h30 (fun h31 => (isO h31 a0 7) ∧ wX10_enqueues a0 (mI h12 (mR h12 a0 1) 3.toNatClampNeg) h31 (fun h33 => (isO h33 a0 7) ∧ wX10_done a0 (mI h12 (mR h12 a0 1) 3.toNatClampNeg) h33 (fun r36 h35 => K r36 h35))))))) ∧ (¬ r13 = 102 → K 3 h12)))))) ∧ (a1 = a2 → K 2 h4))) ∧ (r5 = 0 → K 1 h4))))))
def wX10_clears_J84 (K : Int32 → AH → Prop)  (y0 : Nat) (y1 : Int32) (h : AH) : Prop :=
  (isO h y0 7) ∧ ∀ h23, h23 = uI h y0 22 y1 → K 3 h23
def wX10_clears_J66 (K : Int32 → AH → Prop)  (x0 : Nat) (x3 : Int32) (y0 : Nat) (y1 : Int32) (h : AH) : Prop :=
  (isO h y0 7) ∧ ∀ h17, h17 = uI h y0 21 y1 → ((¬ x3 = 0 → (isO h x0 7) ∧ (isA h (mR h x0 12) 0) ∧ (vp_in x3 (ln h (mR h x0 12))) ∧ (wX10_clears_J84 K x0 (mI h17 (mR h x0 12) x3.toNatClampNeg) h17)) ∧ (x3 = 0 → (wX10_clears_J84 K x0 (-1) h17)))
def wX10_clears (a0 : Nat) (a1 : Int32) (h : AH) (K : Int32 → AH → Prop) : Prop :=
  (isO h a0 7) ∧ wX10_placeOf a0 a1 h (fun r2 h1 => ((¬ r2 = (-1) → (isO h1 a0 7) ∧ wX10_train a0 r2 3 h1 (fun r5 h4 => ((¬ r5 = 1 → (isO h4 a0 7) ∧ wX10_hindered a0 r2 h4 (fun r8 h7 => ((¬ r8 = (-1) → ((¬ r8 = 0 → (isO h7 a0 7) ∧ (isA h7 (mR h7 a0 12) 0) ∧ (vp_in r8 (ln h7 (mR h7 a0 12))) ∧ wX10_look a0 (mI h7 (mR h7 a0 12) r8.toNatClampNeg) h7 (fun r15 h14 => (wX10_clears_J66 K a0 r8 a0 r15 h14))) ∧ (r8 = 0 → (wX10_clears_J66 K a0 r8 a0 110 h7)))) ∧ (r8 = (-1) → (isO h7 a0 7) ∧ wX10_sets a0 r2 h7 (fun r25 h24 => (isO h24 a0 7) ∧ wX10_done a0 r25 h24 (fun r27 h26 => K r27 h26)))))) ∧ (r5 = 1 → K 2 h4)))) ∧ (r2 = (-1) → K 1 h1)))
def wX10_frees_J60 (K : Int32 → AH → Prop) (c26 : Nat → Int32 → Int32 → Int32 → AH → Prop) (x0 : Nat) (x1 : Int32) (x2 : Int32) (x3 : Int32) (x4 : Int32) (h : AH) : Prop :=
  (isO h x0 7) ∧ wX10_train x0 x2 6 h (fun r14 h13 => (((r14 - 1) ≤ x3 → c26 x0 x1 x2 (x3 + 1) h13) ∧ (¬ (r14 - 1) ≤ x3 → (isO h13 x0 7) ∧ wX10_unlocks x0 x4 h13 (fun h16 => c26 x0 x1 x2 (x3 + 1) h16))))
def wX10_frees_L26 (K : Int32 → AH → Prop) (c85 : Nat → Int32 → Int32 → AH → Prop)  : Nat → Nat → Int32 → Int32 → Int32 → AH → Prop
  | 0 => fun _ _ _ _ _ => False
  | n + 1 => fun x0 x1 x2 x3 h =>
  (isO h x0 7) ∧ wX10_train x0 x2 6 h (fun r8 h7 => ((r8 ≤ x3 → c85 x0 x1 x2 h7) ∧ (¬ r8 ≤ x3 → (isO h7 x0 7) ∧ wX10_train x0 x2 (7 + x3) h7 (fun r11 h10 => ((x3 ≤ 0 → (wX10_frees_J60 K (wX10_frees_L26 K c85  n) x0 x1 x2 x3 r11 h10)) ∧ (¬ x3 ≤ 0 → (isO h10 x0 7) ∧ wX10_puts x0 r11 5 0 h10 (fun h20 => (wX10_frees_J60 K (wX10_frees_L26 K c85  n) x0 x1 x2 x3 r11 h20))))))))
def wX10_frees_L88 (K : Int32 → AH → Prop)   : Nat → Nat → Int32 → Int32 → Int32 → AH → Prop
  | 0 => fun _ _ _ _ _ => False
  | n + 1 => fun x0 x1 x2 x3 h =>
  ((19 ≤ x3 → (isO h x0 7) ∧ wX10_tells x0 x2 3 0 h (fun h30 => (isO h30 x0 7) ∧ wX10_tells x0 x2 4 0 h30 (fun h32 => (isO h32 x0 7) ∧ wX10_enqueues x0 x1 h32 (fun h34 => (isO h34 x0 7) ∧ (isA h34 (mR h34 x0 1) 0) ∧ (vp_in 5 (ln h34 (mR h34 x0 1))) ∧ wX10_done x0 (mI h34 (mR h34 x0 1) 5.toNatClampNeg) h34 (fun r40 h39 => K r40 h39))))) ∧ (¬ 19 ≤ x3 → (isO h x0 7) ∧ wX10_tells x0 x2 x3 0 h (fun h44 => wX10_frees_L88 K   n x0 x1 x2 (x3 + 1) h44)))
def wX10_frees (a0 : Nat) (a1 : Int32) (h : AH) (K : Int32 → AH → Prop) : Prop :=
  (isO h a0 7) ∧ wX10_placeOf a0 a1 h (fun r2 h1 => ((¬ r2 = (-1) → (isO h1 a0 7) ∧ wX10_train a0 r2 3 h1 (fun r5 h4 => ((¬ r5 = 0 → (∃ n48, wX10_frees_L26 K (fun x0_25 x1_26 x2_27 h28 => (∃ n47, wX10_frees_L88 K  n47 x0_25 x1_26 x2_27 6 h28)) n48 a0 a1 r2 0 h4)) ∧ (r5 = 0 → K 2 h4)))) ∧ (r2 = (-1) → K 1 h1)))
def wX10_passes_L23 (K : Int32 → AH → Prop)   : Nat → Nat → Int32 → Int32 → Int32 → AH → Prop
  | 0 => fun _ _ _ _ _ => False
  | n + 1 => fun x0 x1 x2 x3 h =>
  ((x1 ≤ x3 → (isO h x0 7) ∧ (isA h (mR h x0 1) 0) ∧ (vp_in 7 (ln h (mR h x0 1))) ∧ wX10_done x0 (mI h (mR h x0 1) 7.toNatClampNeg - x2) h (fun r12 h11 => K r12 h11)) ∧ (¬ x1 ≤ x3 → (isO h x0 7) ∧ wX10_oneMinute x0 h (fun h13 => wX10_passes_L23 K   n x0 x1 x2 (x3 + 1) h13)))
def wX10_passes (a0 : Nat) (a1 : Int32) (h : AH) (K : Int32 → AH → Prop) : Prop :=
  wX10_in a1 1 240 h (fun r2 h1 => ((¬ r2 = 0 → (isO h1 a0 7) ∧ (isA h1 (mR h1 a0 1) 0) ∧ (vp_in 7 (ln h1 (mR h1 a0 1))) ∧ (∃ n16, wX10_passes_L23 K  n16 a0 a1 (mI h1 (mR h1 a0 1) 7.toNatClampNeg) 0 h1)) ∧ (r2 = 0 → K 1 h1)))
def wX10_addBlock (a0 : Nat) (a1 : Int32) (h : AH) (K : Int32 → AH → Prop) : Prop :=
  (isO h a0 7) ∧ wX10_remembers a0 h (fun h1 => (isO h1 a0 7) ∧ wX10_lays a0 a1 h1 (fun r4 h3 => (isO h3 a0 7) ∧ wX10_ends a0 r4 h3 (fun r6 h5 => K r6 h5)))
def wX10_addPoint (a0 : Nat) (a1 : Int32) (a2 : Int32) (a3 : Int32) (h : AH) (K : Int32 → AH → Prop) : Prop :=
  (isO h a0 7) ∧ wX10_remembers a0 h (fun h1 => (isO h1 a0 7) ∧ wX10_forks a0 a1 a2 a3 h1 (fun r4 h3 => (isO h3 a0 7) ∧ wX10_ends a0 r4 h3 (fun r6 h5 => K r6 h5)))
def wX10_addLink (a0 : Nat) (a1 : Int32) (a2 : Int32) (h : AH) (K : Int32 → AH → Prop) : Prop :=
  (isO h a0 7) ∧ wX10_remembers a0 h (fun h1 => (isO h1 a0 7) ∧ wX10_links a0 a1 a2 h1 (fun r4 h3 => (isO h3 a0 7) ∧ wX10_ends a0 r4 h3 (fun r6 h5 => K r6 h5)))
def wX10_shut (a0 : Nat) (a1 : Int32) (h : AH) (K : Int32 → AH → Prop) : Prop :=
  (isO h a0 7) ∧ wX10_remembers a0 h (fun h1 => (isO h1 a0 7) ∧ wX10_shuts a0 a1 h1 (fun r4 h3 => (isO h3 a0 7) ∧ wX10_ends a0 r4 h3 (fun r6 h5 => K r6 h5)))
def wX10_open (a0 : Nat) (a1 : Int32) (h : AH) (K : Int32 → AH → Prop) : Prop :=
  (isO h a0 7) ∧ wX10_remembers a0 h (fun h1 => (isO h1 a0 7) ∧ wX10_opens a0 a1 h1 (fun r4 h3 => (isO h3 a0 7) ∧ wX10_ends a0 r4 h3 (fun r6 h5 => K r6 h5)))
def wX10_throwPoint (a0 : Nat) (a1 : Int32) (h : AH) (K : Int32 → AH → Prop) : Prop :=
  (isO h a0 7) ∧ wX10_remembers a0 h (fun h1 => (isO h1 a0 7) ∧ wX10_throwsOver a0 a1 h1 (fun r4 h3 => (isO h3 a0 7) ∧ wX10_ends a0 r4 h3 (fun r6 h5 => ((¬ r6 = 1 → K 0 h5) ∧ (r6 = 1 → K 1 h5)))))
def wX10_addTrain (a0 : Nat) (a1 : Int32) (a2 : Int32) (h : AH) (K : Int32 → AH → Prop) : Prop :=
  (isO h a0 7) ∧ wX10_remembers a0 h (fun h1 => (isO h1 a0 7) ∧ wX10_comes a0 a1 a2 h1 (fun r4 h3 => (isO h3 a0 7) ∧ wX10_ends a0 r4 h3 (fun r6 h5 => K r6 h5)))
def wX10_setRoute (a0 : Nat) (a1 : Int32) (h : AH) (K : Int32 → AH → Prop) : Prop :=
  (isO h a0 7) ∧ wX10_remembers a0 h (fun h1 => (isO h1 a0 7) ∧ wX10_clears a0 a1 h1 (fun r4 h3 => (isO h3 a0 7) ∧ wX10_ends a0 r4 h3 (fun r6 h5 => K r6 h5)))
def wX10_releaseRoute (a0 : Nat) (a1 : Int32) (h : AH) (K : Int32 → AH → Prop) : Prop :=
  (isO h a0 7) ∧ wX10_remembers a0 h (fun h1 => (isO h1 a0 7) ∧ wX10_frees a0 a1 h1 (fun r4 h3 => (isO h3 a0 7) ∧ wX10_ends a0 r4 h3 (fun r6 h5 => K r6 h5)))
def wX10_pass (a0 : Nat) (a1 : Int32) (h : AH) (K : Int32 → AH → Prop) : Prop :=
  (isO h a0 7) ∧ wX10_remembers a0 h (fun h1 => (isO h1 a0 7) ∧ wX10_passes a0 a1 h1 (fun r4 h3 => (isO h3 a0 7) ∧ wX10_ends a0 r4 h3 (fun r6 h5 => K r6 h5)))
def wX10_blocks (a0 : Nat) (h : AH) (K : Int32 → AH → Prop) : Prop :=
  (isO h a0 7) ∧ ∀ h2, h2 = uI h a0 0 0 → (isA h (mR h a0 1) 0) ∧ (vp_in 0 (ln h (mR h a0 1))) ∧ K (mI h2 (mR h a0 1) 0.toNatClampNeg) h2
def wX10_isAsked_J14 (K : Int32 → AH → Prop)  (x0 : Nat) (y0 : Nat) (y1 : Int32) (h : AH) : Prop :=
  (isO h y0 7) ∧ ∀ h5, h5 = uI h y0 0 y1 → (isO h x0 7) ∧ ((¬ mI h5 x0 0 = 0 → K 0 h5) ∧ (mI h5 x0 0 = 0 → K 1 h5))
def wX10_isAsked (a0 : Nat) (a1 : Int32) (h : AH) (K : Int32 → AH → Prop) : Prop :=
  (isO h a0 7) ∧ wX10_isBlock a0 a1 h (fun r2 h1 => ((r2 = 0 → (wX10_isAsked_J14 K a0 a0 1 h1)) ∧ (¬ r2 = 0 → (wX10_isAsked_J14 K a0 a0 0 h1))))
def wX10_blockLength (a0 : Nat) (a1 : Int32) (h : AH) (K : Int32 → AH → Prop) : Prop :=
  (isO h a0 7) ∧ wX10_isAsked a0 a1 h (fun r2 h1 => ((r2 = 0 → K 0 h1) ∧ (¬ r2 = 0 → (isO h1 a0 7) ∧ wX10_block a0 a1 0 h1 (fun r5 h4 => K r5 h4))))
def wX10_blockState (a0 : Nat) (a1 : Int32) (h : AH) (K : Int32 → AH → Prop) : Prop :=
  (isO h a0 7) ∧ wX10_isAsked a0 a1 h (fun r2 h1 => ((r2 = 0 → K 0 h1) ∧ (¬ r2 = 0 → (isO h1 a0 7) ∧ wX10_look a0 a1 h1 (fun r5 h4 => (narrow .char (.int ((r5.toUInt32 % 65536).toInt32)) = .int ((r5.toUInt32 % 65536).toInt32)) ∧ K ((r5.toUInt32 % 65536).toInt32) h4))))
def wX10_trainAt_J34 (K : Int32 → AH → Prop)  (x0 : Nat) (y0 : Int32) (h : AH) : Prop :=
  ((¬ y0 = 0 → K (y0 - 1) h) ∧ (y0 = 0 → (isO h x0 7) ∧ wX10_fails x0 2 h (fun r11 h10 => K r11 h10)))
def wX10_trainAt (a0 : Nat) (a1 : Int32) (h : AH) (K : Int32 → AH → Prop) : Prop :=
  (isO h a0 7) ∧ wX10_isAsked a0 a1 h (fun r2 h1 => ((¬ r2 = 0 → (isO h1 a0 7) ∧ wX10_block a0 a1 4 h1 (fun r5 h4 => ((r5 ≤ 0 → (isO h4 a0 7) ∧ wX10_block a0 a1 5 h4 (fun r8 h7 => (wX10_trainAt_J34 K a0 r8 h7))) ∧ (¬ r5 ≤ 0 → (isO h4 a0 7) ∧ wX10_block a0 a1 4 h4 (fun r15 h14 => (wX10_trainAt_J34 K a0 r15 h14)))))) ∧ (r2 = 0 → K 0 h1)))
def wX10_liesLeft_J14 (K : Int32 → AH → Prop)  (x0 : Nat) (x1 : Int32) (y0 : Nat) (y1 : Int32) (h : AH) : Prop :=
  (isO h y0 7) ∧ ∀ h5, h5 = uI h y0 0 y1 → (isO h x0 7) ∧ ((¬ mI h5 x0 0 = 0 → K 0 h5) ∧ (mI h5 x0 0 = 0 → wX10_point x0 x1 3 h5 (fun r9 h8 => ((¬ r9 = 0 → K 0 h8) ∧ (r9 = 0 → K 1 h8)))))
def wX10_liesLeft (a0 : Nat) (a1 : Int32) (h : AH) (K : Int32 → AH → Prop) : Prop :=
  (isO h a0 7) ∧ wX10_isPoint a0 a1 h (fun r2 h1 => ((r2 = 0 → (wX10_liesLeft_J14 K a0 a1 a0 1 h1)) ∧ (¬ r2 = 0 → (wX10_liesLeft_J14 K a0 a1 a0 0 h1))))
def wX10_lockedBy_J27 (K : Int32 → AH → Prop)  (x0 : Nat) (x1 : Int32) (y0 : Nat) (y1 : Int32) (h : AH) : Prop :=
  (isO h y0 7) ∧ ∀ h8, h8 = uI h y0 0 y1 → (isO h x0 7) ∧ ((mI h8 x0 0 ≤ 0 → wX10_point x0 x1 4 h8 (fun r12 h11 => K (r12 - 1) h11)) ∧ (¬ mI h8 x0 0 ≤ 0 → K 0 h8))
def wX10_lockedBy (a0 : Nat) (a1 : Int32) (h : AH) (K : Int32 → AH → Prop) : Prop :=
  (isO h a0 7) ∧ wX10_isPoint a0 a1 h (fun r2 h1 => ((¬ r2 = 0 → (isO h1 a0 7) ∧ wX10_point a0 a1 4 h1 (fun r5 h4 => ((¬ r5 = 0 → (wX10_lockedBy_J27 K a0 a1 a0 0 h4)) ∧ (r5 = 0 → (wX10_lockedBy_J27 K a0 a1 a0 2 h4))))) ∧ (r2 = 0 → (wX10_lockedBy_J27 K a0 a1 a0 1 h1))))
def wX10_arePlaces_J22 (K : Int32 → AH → Prop)  (x0 : Nat) (y0 : Nat) (y1 : Int32) (h : AH) : Prop :=
  (isO h y0 7) ∧ ∀ h5, h5 = uI h y0 0 y1 → (isO h x0 7) ∧ ((¬ mI h5 x0 0 = 0 → K 0 h5) ∧ (mI h5 x0 0 = 0 → K 1 h5))
def wX10_arePlaces_J21 (K : Int32 → AH → Prop)  (x0 : Nat) (y0 : Nat) (h : AH) : Prop :=
  (wX10_arePlaces_J22 K x0 y0 1 h)
def wX10_arePlaces (a0 : Nat) (a1 : Int32) (a2 : Int32) (h : AH) (K : Int32 → AH → Prop) : Prop :=
  (isO h a0 7) ∧ wX10_isBlock a0 a1 h (fun r2 h1 => ((r2 = 0 → (wX10_arePlaces_J21 K a0 a0 h1)) ∧ (¬ r2 = 0 → (isO h1 a0 7) ∧ wX10_isBlock a0 a2 h1 (fun r9 h8 => ((r9 = 0 → (wX10_arePlaces_J21 K a0 a0 h8)) ∧ (¬ r9 = 0 → (wX10_arePlaces_J22 K a0 a0 0 h8)))))))
def wX10_routeLength (a0 : Nat) (a1 : Int32) (a2 : Int32) (h : AH) (K : Int32 → AH → Prop) : Prop :=
  (isO h a0 7) ∧ wX10_arePlaces a0 a1 a2 h (fun r2 h1 => ((¬ r2 = 0 → (isO h1 a0 7) ∧ wX10_leads a0 a1 a2 h1 (fun r5 h4 => ((¬ r5 = (-1) → K r5 h4) ∧ (r5 = (-1) → (isO h4 a0 7) ∧ wX10_fails a0 2 h4 (fun r8 h7 => K r8 h7))))) ∧ (r2 = 0 → K 0 h1)))
def wX10_routeLengthByPaths (a0 : Nat) (a1 : Int32) (a2 : Int32) (h : AH) (K : Int32 → AH → Prop) : Prop :=
  (isO h a0 7) ∧ wX10_routeLength a0 a1 a2 h (fun r2 h1 => K r2 h1)
def wX10_routeBlock_J39 (K : Int32 → AH → Prop)  (x0 : Nat) (h : AH) : Prop :=
  (isO h x0 7) ∧ wX10_fails x0 2 h (fun r8 h7 => K r8 h7)
def wX10_routeBlock (a0 : Nat) (a1 : Int32) (a2 : Int32) (a3 : Int32) (h : AH) (K : Int32 → AH → Prop) : Prop :=
  (isO h a0 7) ∧ wX10_arePlaces a0 a1 a2 h (fun r2 h1 => ((¬ r2 = 0 → (isO h1 a0 7) ∧ wX10_leads a0 a1 a2 h1 (fun r5 h4 => ((r5 = (-1) → (wX10_routeBlock_J39 K a0 h4)) ∧ (¬ r5 = (-1) → (isO h4 a0 7) ∧ wX10_in a3 0 (mI h4 a0 20 - 1) h4 (fun r12 h11 => ((¬ r12 = 0 → (isO h11 a0 7) ∧ (isA h11 (mR h11 a0 12) 0) ∧ (vp_in a3 (ln h11 (mR h11 a0 12))) ∧ K (mI h11 (mR h11 a0 12) a3.toNatClampNeg) h11) ∧ (r12 = 0 → (wX10_routeBlock_J39 K a0 h11)))))))) ∧ (r2 = 0 → K 0 h1)))
def wX10_paths (a0 : Nat) (a1 : Int32) (a2 : Int32) (h : AH) (K : Int32 → AH → Prop) : Prop :=
  (isO h a0 7) ∧ wX10_arePlaces a0 a1 a2 h (fun r2 h1 => ((r2 = 0 → K 0 h1) ∧ (¬ r2 = 0 → (isO h1 a0 7) ∧ wX10_count 14 a0 a1 a2 (1 <<< (a1 &&& 31)) h1 (fun r5 h4 => K r5 h4))))
def wX10_trains (a0 : Nat) (h : AH) (K : Int32 → AH → Prop) : Prop :=
  (isO h a0 7) ∧ ∀ h2, h2 = uI h a0 0 0 → (isA h (mR h a0 1) 0) ∧ (vp_in 4 (ln h (mR h a0 1))) ∧ K (mI h2 (mR h a0 1) 4.toNatClampNeg) h2
def wX10_isPresent (a0 : Nat) (a1 : Int32) (h : AH) (K : Int32 → AH → Prop) : Prop :=
  (isO h a0 7) ∧ ∀ h2, h2 = uI h a0 0 0 → wX10_placeOf a0 a1 h2 (fun r4 h3 => ((r4 = (-1) → K 0 h3) ∧ (¬ r4 = (-1) → K 1 h3)))
def wX10_asked_J17 (K : Int32 → AH → Prop)  (x0 : Nat) (x2 : Int32) (x3 : Int32) (y0 : Nat) (y1 : Int32) (h : AH) : Prop :=
  (isO h y0 7) ∧ ∀ h5, h5 = uI h y0 0 y1 → (isO h x0 7) ∧ ((mI h5 x0 0 ≤ 0 → wX10_train x0 x3 x2 h5 (fun r9 h8 => K r9 h8)) ∧ (¬ mI h5 x0 0 ≤ 0 → K 0 h5))
def wX10_asked (a0 : Nat) (a1 : Int32) (a2 : Int32) (h : AH) (K : Int32 → AH → Prop) : Prop :=
  (isO h a0 7) ∧ wX10_placeOf a0 a1 h (fun r2 h1 => ((¬ r2 = (-1) → (wX10_asked_J17 K a0 a2 r2 a0 0 h1)) ∧ (r2 = (-1) → (wX10_asked_J17 K a0 a2 r2 a0 1 h1))))
def wX10_blockOf (a0 : Nat) (a1 : Int32) (h : AH) (K : Int32 → AH → Prop) : Prop :=
  (isO h a0 7) ∧ wX10_asked a0 a1 1 h (fun r2 h1 => K r2 h1)
def wX10_destination (a0 : Nat) (a1 : Int32) (h : AH) (K : Int32 → AH → Prop) : Prop :=
  (isO h a0 7) ∧ wX10_asked a0 a1 2 h (fun r2 h1 => K r2 h1)
def wX10_hasRoute (a0 : Nat) (a1 : Int32) (h : AH) (K : Int32 → AH → Prop) : Prop :=
  (isO h a0 7) ∧ wX10_asked a0 a1 3 h (fun r2 h1 => ((¬ r2 = 1 → K 0 h1) ∧ (r2 = 1 → K 1 h1)))
def wX10_isClear_J17 (K : Int32 → AH → Prop)  (x0 : Nat) (x2 : Int32) (y0 : Nat) (y1 : Int32) (h : AH) : Prop :=
  (isO h y0 7) ∧ ∀ h5, h5 = uI h y0 0 y1 → (isO h x0 7) ∧ ((¬ mI h5 x0 0 = 0 → K 0 h5) ∧ (mI h5 x0 0 = 0 → wX10_isFree x0 x2 h5 (fun r9 h8 => ((r9 = 0 → K 0 h8) ∧ (¬ r9 = 0 → K 1 h8)))))
def wX10_isClear (a0 : Nat) (a1 : Int32) (h : AH) (K : Int32 → AH → Prop) : Prop :=
  (isO h a0 7) ∧ wX10_placeOf a0 a1 h (fun r2 h1 => ((¬ r2 = (-1) → (wX10_isClear_J17 K a0 r2 a0 0 h1)) ∧ (r2 = (-1) → (wX10_isClear_J17 K a0 r2 a0 1 h1))))
def wX10_isRunning_J26 (K : Int32 → AH → Prop)  (x0 : Nat) (y0 : Nat) (y1 : Int32) (h : AH) : Prop :=
  (isO h y0 7) ∧ ∀ h5, h5 = uI h y0 0 y1 → (isO h x0 7) ∧ ((¬ mI h5 x0 0 = 0 → K 0 h5) ∧ (mI h5 x0 0 = 0 → K 1 h5))
def wX10_isRunning_J21 (K : Int32 → AH → Prop)  (x0 : Nat) (y0 : Nat) (h : AH) : Prop :=
  (wX10_isRunning_J26 K x0 y0 1 h)
def wX10_isRunning (a0 : Nat) (a1 : Int32) (h : AH) (K : Int32 → AH → Prop) : Prop :=
  (isO h a0 7) ∧ wX10_placeOf a0 a1 h (fun r2 h1 => ((r2 = (-1) → (wX10_isRunning_J21 K a0 a0 h1)) ∧ (¬ r2 = (-1) → (isO h1 a0 7) ∧ wX10_train a0 r2 3 h1 (fun r9 h8 => ((¬ r9 = 0 → (wX10_isRunning_J26 K a0 a0 0 h8)) ∧ (r9 = 0 → (wX10_isRunning_J21 K a0 a0 h8)))))))
def wX10_minutesUntilNext (a0 : Nat) (a1 : Int32) (h : AH) (K : Int32 → AH → Prop) : Prop :=
  (isO h a0 7) ∧ wX10_isRunning a0 a1 h (fun r2 h1 => ((r2 = 0 → K 0 h1) ∧ (¬ r2 = 0 → (isO h1 a0 7) ∧ wX10_placeOf a0 a1 h1 (fun r5 h4 => (isO h4 a0 7) ∧ wX10_train a0 r5 4 h4 (fun r7 h6 => (isO h6 a0 7) ∧ (isA h6 (mR h6 a0 1) 0) ∧ (vp_in 6 (ln h6 (mR h6 a0 1))) ∧ K (r7 - mI h6 (mR h6 a0 1) 6.toNatClampNeg) h6)))))
def wX10_minutesUntilArrival_L34 (K : Int32 → AH → Prop)   : Nat → Nat → Int32 → Int32 → Int32 → AH → Prop
  | 0 => fun _ _ _ _ _ => False
  | n + 1 => fun x0 x2 x3 x4 h =>
  (isO h x0 7) ∧ wX10_train x0 x2 6 h (fun r14 h13 => ((r14 ≤ x4 → K x3 h13) ∧ (¬ r14 ≤ x4 → (isO h13 x0 7) ∧ wX10_train x0 x2 (7 + x4) h13 (fun r17 h16 => (isO h16 x0 7) ∧ wX10_block x0 r17 0 h16 (fun r19 h18 => wX10_minutesUntilArrival_L34 K   n x0 x2 (x3 + r19) (x4 + 1) h18)))))
def wX10_minutesUntilArrival (a0 : Nat) (a1 : Int32) (h : AH) (K : Int32 → AH → Prop) : Prop :=
  (isO h a0 7) ∧ wX10_isRunning a0 a1 h (fun r2 h1 => ((¬ r2 = 0 → (isO h1 a0 7) ∧ wX10_placeOf a0 a1 h1 (fun r5 h4 => (isO h4 a0 7) ∧ wX10_train a0 r5 4 h4 (fun r7 h6 => (isO h6 a0 7) ∧ (isA h6 (mR h6 a0 1) 0) ∧ (vp_in 6 (ln h6 (mR h6 a0 1))) ∧ ∀ v11 : Int32, v11 = (r7 - mI h6 (mR h6 a0 1) 6.toNatClampNeg) → (∃ n23, wX10_minutesUntilArrival_L34 K  n23 a0 r5 v11 2 h6)))) ∧ (r2 = 0 → K 0 h1)))
def wX10_minutesUntilArrivalByPassing (a0 : Nat) (a1 : Int32) (h : AH) (K : Int32 → AH → Prop) : Prop :=
  (isO h a0 7) ∧ wX10_minutesUntilArrival a0 a1 h (fun r2 h1 => K r2 h1)
def wX10_delay (a0 : Nat) (a1 : Int32) (h : AH) (K : Int32 → AH → Prop) : Prop :=
  (isO h a0 7) ∧ wX10_asked a0 a1 5 h (fun r2 h1 => K r2 h1)
def wX10_queued_J22 (K : Int32 → AH → Prop)  (x0 : Nat) (x1 : Int32) (y0 : Nat) (y1 : Int32) (h : AH) : Prop :=
  (isO h y0 7) ∧ ∀ h8, h8 = uI h y0 0 y1 → (isO h x0 7) ∧ ((mI h8 x0 0 ≤ 0 → (isA h (mR h x0 1) 0) ∧ (vp_in (273 + x1) (ln h (mR h x0 1))) ∧ K (mI h8 (mR h x0 1) (273 + x1).toNatClampNeg) h8) ∧ (¬ mI h8 x0 0 ≤ 0 → K 0 h8))
def wX10_queued (a0 : Nat) (a1 : Int32) (h : AH) (K : Int32 → AH → Prop) : Prop :=
  (isO h a0 7) ∧ (isA h (mR h a0 1) 0) ∧ (vp_in 5 (ln h (mR h a0 1))) ∧ wX10_in a1 0 (mI h (mR h a0 1) 5.toNatClampNeg - 1) h (fun r5 h4 => ((r5 = 0 → (wX10_queued_J22 K a0 a1 a0 1 h4)) ∧ (¬ r5 = 0 → (wX10_queued_J22 K a0 a1 a0 0 h4))))
def wX10_isWaiting_L49 (K : Int32 → AH → Prop)   : Nat → Nat → Int32 → Int32 → AH → Prop
  | 0 => fun _ _ _ _ => False
  | n + 1 => fun x0 x3 x4 h =>
  (isO h x0 7) ∧ ((mI h x0 20 ≤ x4 → K 0 h) ∧ (¬ mI h x0 20 ≤ x4 → (isA h (mR h x0 12) 0) ∧ (vp_in x4 (ln h (mR h x0 12))) ∧ wX10_block x0 (mI h (mR h x0 12) x4.toNatClampNeg) 4 h (fun r19 h18 => ((r19 = x3 → K 1 h18) ∧ (¬ r19 = x3 → (isO h18 x0 7) ∧ (isA h18 (mR h18 x0 12) 0) ∧ (vp_in x4 (ln h18 (mR h18 x0 12))) ∧ wX10_block x0 (mI h18 (mR h18 x0 12) x4.toNatClampNeg) 5 h18 (fun r25 h24 => ((¬ r25 = x3 → wX10_isWaiting_L49 K   n x0 x3 (x4 + 1) h24) ∧ (r25 = x3 → K 1 h24))))))))
def wX10_isWaiting (a0 : Nat) (a1 : Int32) (a2 : Int32) (h : AH) (K : Int32 → AH → Prop) : Prop :=
  ((a1 = a2 → K 0 h) ∧ (¬ a1 = a2 → (isO h a0 7) ∧ wX10_train a0 a1 3 h (fun r3 h2 => ((r3 = 1 → K 0 h2) ∧ (¬ r3 = 1 → (isO h2 a0 7) ∧ wX10_train a0 a1 1 h2 (fun r6 h5 => (isO h5 a0 7) ∧ wX10_train a0 a1 2 h5 (fun r8 h7 => (isO h7 a0 7) ∧ wX10_leads a0 r6 r8 h7 (fun r10 h9 => ((¬ r10 = (-1) → (isO h9 a0 7) ∧ wX10_train a0 a2 0 h9 (fun r13 h12 => (∃ n27, wX10_isWaiting_L49 K  n27 a0 (r13 + 1) 1 h12))) ∧ (r10 = (-1) → K 0 h9))))))))))
def wX10_waitsFor_J30 (K : Int32 → AH → Prop)  (x0 : Nat) (x3 : Int32) (x4 : Int32) (y0 : Nat) (y1 : Int32) (h : AH) : Prop :=
  (isO h y0 7) ∧ ∀ h7, h7 = uI h y0 0 y1 → (isO h x0 7) ∧ ((¬ mI h7 x0 0 = 0 → K 0 h7) ∧ (mI h7 x0 0 = 0 → wX10_isWaiting x0 x3 x4 h7 (fun r11 h10 => ((r11 = 0 → K 0 h10) ∧ (¬ r11 = 0 → K 1 h10)))))
def wX10_waitsFor_J25 (K : Int32 → AH → Prop)  (x0 : Nat) (x3 : Int32) (x4 : Int32) (y0 : Nat) (h : AH) : Prop :=
  (wX10_waitsFor_J30 K x0 x3 x4 y0 1 h)
def wX10_waitsFor (a0 : Nat) (a1 : Int32) (a2 : Int32) (h : AH) (K : Int32 → AH → Prop) : Prop :=
  (isO h a0 7) ∧ wX10_placeOf a0 a1 h (fun r2 h1 => (isO h1 a0 7) ∧ wX10_placeOf a0 a2 h1 (fun r4 h3 => ((r2 = (-1) → (wX10_waitsFor_J25 K a0 r2 r4 a0 h3)) ∧ (¬ r2 = (-1) → ((¬ r4 = (-1) → (wX10_waitsFor_J30 K a0 r2 r4 a0 0 h3)) ∧ (r4 = (-1) → (wX10_waitsFor_J25 K a0 r2 r4 a0 h3)))))))
def wX10_deadlocked_J56 (K : Int32 → AH → Prop) (c28 : Nat → Int32 → Int32 → Int32 → AH → Prop) (x0 : Nat) (x1 : Int32) (x2 : Int32) (x3 : Int32) (y0 : Nat) (y1 : Int32) (y2 : Int32) (y3 : Int32) (h : AH) : Prop :=
  (isA h y0 0) ∧ (nZ ≤ y0) ∧ (vp_in y1 (ln h y0)) ∧ ∀ h21, h21 = uI h y0 y1.toNatClampNeg (y2 ||| y3) → c28 x0 x1 x2 (x3 + 1) h21
def wX10_deadlocked_L28 (K : Int32 → AH → Prop) (c64 : Nat → Int32 → Int32 → AH → Prop)  : Nat → Nat → Int32 → Int32 → Int32 → AH → Prop
  | 0 => fun _ _ _ _ _ => False
  | n + 1 => fun x0 x1 x2 x3 h =>
  ((x1 ≤ x3 → c64 x0 x1 x2 h) ∧ (¬ x1 ≤ x3 → (isO h x0 7) ∧ (isA h (mR h x0 13) 0) ∧ (vp_in x2 (ln h (mR h x0 13))) ∧ wX10_isWaiting x0 x2 x3 h (fun r16 h15 => ((r16 = 0 → (wX10_deadlocked_J56 K (wX10_deadlocked_L28 K c64  n) x0 x1 x2 x3 (mR h x0 13) x2 (mI h (mR h x0 13) x2.toNatClampNeg) 0 h15)) ∧ (¬ r16 = 0 → (wX10_deadlocked_J56 K (wX10_deadlocked_L28 K c64  n) x0 x1 x2 x3 (mR h x0 13) x2 (mI h (mR h x0 13) x2.toNatClampNeg) (1 <<< (x3 &&& 31)) h15))))))
def wX10_deadlocked_L14 (K : Int32 → AH → Prop) (c70 : Nat → Int32 → AH → Prop)  : Nat → Nat → Int32 → Int32 → AH → Prop
  | 0 => fun _ _ _ _ => False
  | n + 1 => fun x0 x1 x2 h =>
  ((x1 ≤ x2 → c70 x0 x1 h) ∧ (¬ x1 ≤ x2 → (isO h x0 7) ∧ (isA h (mR h x0 13) 0) ∧ (nZ ≤ (mR h x0 13)) ∧ (vp_in x2 (ln h (mR h x0 13))) ∧ ∀ h10, h10 = uI h (mR h x0 13) x2.toNatClampNeg 0 → (∃ n26, wX10_deadlocked_L28 K (fun x0_22 x1_23 x2_24 h25 => wX10_deadlocked_L14 K c70  n x0_22 x1_23 (x2_24 + 1) h25) n26 x0 x1 x2 0 h10)))
def wX10_deadlocked_J115 (K : Int32 → AH → Prop) (c79 : Nat → Int32 → Int32 → Int32 → AH → Prop) (x0 : Nat) (x1 : Int32) (x2 : Int32) (x3 : Int32) (y0 : Nat) (y1 : Int32) (y2 : Int32) (y3 : Int32) (h : AH) : Prop :=
  (isA h y0 0) ∧ (nZ ≤ y0) ∧ (vp_in y1 (ln h y0)) ∧ ∀ h39, h39 = uI h y0 y1.toNatClampNeg (y2 ||| y3) → c79 x0 x1 x2 (x3 + 1) h39
def wX10_deadlocked_L79 (K : Int32 → AH → Prop) (c123 : Nat → Int32 → Int32 → AH → Prop)  : Nat → Nat → Int32 → Int32 → Int32 → AH → Prop
  | 0 => fun _ _ _ _ _ => False
  | n + 1 => fun x0 x1 x2 x3 h =>
  ((x1 ≤ x3 → c123 x0 x1 x2 h) ∧ (¬ x1 ≤ x3 → (isO h x0 7) ∧ (isA h (mR h x0 13) 0) ∧ (vp_in x3 (ln h (mR h x0 13))) ∧ ((¬ ((mI h (mR h x0 13) x3.toNatClampNeg >>> (x2 &&& 31)) &&& 1) = 1 → (wX10_deadlocked_J115 K (wX10_deadlocked_L79 K c123  n) x0 x1 x2 x3 (mR h x0 13) x3 (mI h (mR h x0 13) x3.toNatClampNeg) 0 h)) ∧ (((mI h (mR h x0 13) x3.toNatClampNeg >>> (x2 &&& 31)) &&& 1) = 1 → (vp_in x2 (ln h (mR h x0 13))) ∧ (wX10_deadlocked_J115 K (wX10_deadlocked_L79 K c123  n) x0 x1 x2 x3 (mR h x0 13) x3 (mI h (mR h x0 13) x3.toNatClampNeg) (mI h (mR h x0 13) x2.toNatClampNeg) h)))))
def wX10_deadlocked_L72 (K : Int32 → AH → Prop) (c129 : Nat → Int32 → AH → Prop)  : Nat → Nat → Int32 → Int32 → AH → Prop
  | 0 => fun _ _ _ _ => False
  | n + 1 => fun x0 x1 x2 h =>
  ((x1 ≤ x2 → c129 x0 x1 h) ∧ (¬ x1 ≤ x2 → (∃ n45, wX10_deadlocked_L79 K (fun x0_41 x1_42 x2_43 h44 => wX10_deadlocked_L72 K c129  n x0_41 x1_42 (x2_43 + 1) h44) n45 x0 x1 x2 0 h)))
def wX10_deadlocked_L133 (K : Int32 → AH → Prop)   : Nat → Nat → Int32 → Int32 → Int32 → AH → Prop
  | 0 => fun _ _ _ _ _ => False
  | n + 1 => fun x0 x1 x2 x3 h =>
  ((x1 ≤ x3 → K x2 h) ∧ (¬ x1 ≤ x3 → (isO h x0 7) ∧ (isA h (mR h x0 13) 0) ∧ (vp_in x3 (ln h (mR h x0 13))) ∧ ∀ v53 : Int32, v53 = (x2 + ((mI h (mR h x0 13) x3.toNatClampNeg >>> (x3 &&& 31)) &&& 1)) → wX10_deadlocked_L133 K   n x0 x1 v53 (x3 + 1) h))
def wX10_deadlocked (a0 : Nat) (h : AH) (K : Int32 → AH → Prop) : Prop :=
  (isO h a0 7) ∧ ∀ h2, h2 = uI h a0 0 0 → (isA h (mR h a0 1) 0) ∧ (vp_in 4 (ln h (mR h a0 1))) ∧ (∃ n57, wX10_deadlocked_L14 K (fun x0_27 x1_28 h29 => (∃ n56, wX10_deadlocked_L72 K (fun x0_46 x1_47 h48 => (∃ n55, wX10_deadlocked_L133 K  n55 x0_46 x1_47 0 0 h48)) n56 x0_27 x1_28 0 h29)) n57 a0 (mI h2 (mR h a0 1) 4.toNatClampNeg) 0 h2)
def wX10_deadlockedByPairs (a0 : Nat) (h : AH) (K : Int32 → AH → Prop) : Prop :=
  (isO h a0 7) ∧ wX10_deadlocked a0 h (fun r2 h1 => K r2 h1)
def wX10_wayOf_L22 (K : Int32 → AH → Prop)   : Nat → Nat → Int32 → Int32 → AH → Prop
  | 0 => fun _ _ _ _ => False
  | n + 1 => fun x0 x2 x4 h =>
  (isO h x0 7) ∧ ((mI h x0 20 ≤ x4 → K x2 h) ∧ (¬ mI h x0 20 ≤ x4 → (isA h (mR h x0 12) 0) ∧ (vp_in x4 (ln h (mR h x0 12))) ∧ ∀ v11 : Int32, v11 = (x2 ||| (1 <<< (mI h (mR h x0 12) x4.toNatClampNeg &&& 31))) → wX10_wayOf_L22 K   n x0 v11 (x4 + 1) h))
def wX10_wayOf (a0 : Nat) (a1 : Int32) (h : AH) (K : Int32 → AH → Prop) : Prop :=
  (isO h a0 7) ∧ wX10_train a0 a1 1 h (fun r2 h1 => (isO h1 a0 7) ∧ wX10_train a0 a1 2 h1 (fun r4 h3 => (isO h3 a0 7) ∧ wX10_leads a0 r2 r4 h3 (fun r6 h5 => (∃ n13, wX10_wayOf_L22 K  n13 a0 0 1 h5))))
def wX10_conflict_J40 (K : Int32 → AH → Prop)  (x0 : Nat) (x3 : Int32) (x4 : Int32) (y0 : Nat) (y1 : Int32) (h : AH) : Prop :=
  (isO h y0 7) ∧ ∀ h7, h7 = uI h y0 0 y1 → (isO h x0 7) ∧ ((¬ mI h7 x0 0 = 0 → K 0 h7) ∧ (mI h7 x0 0 = 0 → wX10_wayOf x0 x3 h7 (fun r11 h10 => (isO h10 x0 7) ∧ wX10_wayOf x0 x4 h10 (fun r13 h12 => (((r11 &&& r13) = 0 → K 0 h12) ∧ (¬ (r11 &&& r13) = 0 → K 1 h12))))))
def wX10_conflict_J25 (K : Int32 → AH → Prop)  (x0 : Nat) (x3 : Int32) (x4 : Int32) (y0 : Nat) (h : AH) : Prop :=
  (wX10_conflict_J40 K x0 x3 x4 y0 1 h)
def wX10_conflict (a0 : Nat) (a1 : Int32) (a2 : Int32) (h : AH) (K : Int32 → AH → Prop) : Prop :=
  (isO h a0 7) ∧ wX10_placeOf a0 a1 h (fun r2 h1 => (isO h1 a0 7) ∧ wX10_placeOf a0 a2 h1 (fun r4 h3 => ((r2 = (-1) → (wX10_conflict_J25 K a0 r2 r4 a0 h3)) ∧ (¬ r2 = (-1) → ((¬ r4 = (-1) → ((¬ r2 = r4 → (wX10_conflict_J40 K a0 r2 r4 a0 0 h3)) ∧ (r2 = r4 → (wX10_conflict_J40 K a0 r2 r4 a0 2 h3)))) ∧ (r4 = (-1) → (wX10_conflict_J25 K a0 r2 r4 a0 h3)))))))
def wX10_mostWithoutConflict_L14 (K : Int32 → AH → Prop) (c36 : Nat → Int32 → AH → Prop)  : Nat → Nat → Int32 → Int32 → AH → Prop
  | 0 => fun _ _ _ _ => False
  | n + 1 => fun x0 x1 x2 h =>
  ((x1 ≤ x2 → c36 x0 x1 h) ∧ (¬ x1 ≤ x2 → (isO h x0 7) ∧ wX10_wayOf x0 x2 h (fun r8 h7 => (isA h7 (mR h x0 14) 0) ∧ (nZ ≤ (mR h x0 14)) ∧ (vp_in x2 (ln h7 (mR h x0 14))) ∧ ∀ h12, h12 = uI h7 (mR h x0 14) x2.toNatClampNeg r8 → wX10_mostWithoutConflict_L14 K c36  n x0 x1 (x2 + 1) h12)))
def wX10_mostWithoutConflict_J100 (K : Int32 → AH → Prop) (c59 : Nat → Int32 → Int32 → Int32 → Int32 → Int32 → Int32 → Int32 → AH → Prop) (x0 : Nat) (x1 : Int32) (x2 : Int32) (x3 : Int32) (x4 : Int32) (x5 : Int32) (x7 : Int32) (y0 : Int32) (h : AH) : Prop :=
  (isO h x0 7) ∧ (isA h (mR h x0 14) 0) ∧ (vp_in x7 (ln h (mR h x0 14))) ∧ ∀ v27 : Int32, v27 = (x4 ||| mI h (mR h x0 14) x7.toNatClampNeg) → c59 x0 x1 x2 x3 v27 (x5 + 1) y0 (x7 + 1) h
def wX10_mostWithoutConflict_L59 (K : Int32 → AH → Prop) (c123 : Nat → Int32 → Int32 → Int32 → Int32 → Int32 → AH → Prop)  : Nat → Nat → Int32 → Int32 → Int32 → Int32 → Int32 → Int32 → Int32 → AH → Prop
  | 0 => fun _ _ _ _ _ _ _ _ _ => False
  | n + 1 => fun x0 x1 x2 x3 x4 x5 x6 x7 h =>
  ((x1 ≤ x7 → c123 x0 x1 x2 x3 x5 x6 h) ∧ (¬ x1 ≤ x7 → ((x6 = 0 → c123 x0 x1 x2 x3 x5 x6 h) ∧ (¬ x6 = 0 → ((¬ ((x3 >>> (x7 &&& 31)) &&& 1) = 0 → (isO h x0 7) ∧ (isA h (mR h x0 14) 0) ∧ (vp_in x7 (ln h (mR h x0 14))) ∧ ((¬ (x4 &&& mI h (mR h x0 14) x7.toNatClampNeg) = 0 → (wX10_mostWithoutConflict_J100 K (wX10_mostWithoutConflict_L59 K c123  n) x0 x1 x2 x3 x4 x5 x7 0 h)) ∧ ((x4 &&& mI h (mR h x0 14) x7.toNatClampNeg) = 0 → (wX10_mostWithoutConflict_J100 K (wX10_mostWithoutConflict_L59 K c123  n) x0 x1 x2 x3 x4 x5 x7 1 h)))) ∧ (((x3 >>> (x7 &&& 31)) &&& 1) = 0 → wX10_mostWithoutConflict_L59 K c123  n x0 x1 x2 x3 x4 x5 x6 (x7 + 1) h))))))
def wX10_mostWithoutConflict_L40 (K : Int32 → AH → Prop)   : Nat → Nat → Int32 → Int32 → Int32 → AH → Prop
  | 0 => fun _ _ _ _ _ => False
  | n + 1 => fun x0 x1 x2 x3 h =>
  (((1 <<< (x1 &&& 31)) ≤ x3 → K x2 h) ∧ (¬ (1 <<< (x1 &&& 31)) ≤ x3 → (∃ n38, wX10_mostWithoutConflict_L59 K (fun x0_29 x1_30 x2_31 x3_32 x5_33 x6_34 h35 => ((x6_34 = 0 → wX10_mostWithoutConflict_L40 K   n x0_29 x1_30 x2_31 (x3_32 + 1) h35) ∧ (¬ x6_34 = 0 → ((x5_33 ≤ x2_31 → wX10_mostWithoutConflict_L40 K   n x0_29 x1_30 x2_31 (x3_32 + 1) h35) ∧ (¬ x5_33 ≤ x2_31 → wX10_mostWithoutConflict_L40 K   n x0_29 x1_30 x5_33 (x3_32 + 1) h35))))) n38 x0 x1 x2 x3 0 0 1 0 h)))
def wX10_mostWithoutConflict (a0 : Nat) (h : AH) (K : Int32 → AH → Prop) : Prop :=
  (isO h a0 7) ∧ ∀ h2, h2 = uI h a0 0 0 → (isA h (mR h a0 1) 0) ∧ (vp_in 4 (ln h (mR h a0 1))) ∧ (∃ n40, wX10_mostWithoutConflict_L14 K (fun x0_13 x1_14 h15 => (∃ n39, wX10_mostWithoutConflict_L40 K  n39 x0_13 x1_14 0 0 h15)) n40 a0 (mI h2 (mR h a0 1) 4.toNatClampNeg) 0 h2)
def wX10_mostWithoutConflictBySets (a0 : Nat) (h : AH) (K : Int32 → AH → Prop) : Prop :=
  (isO h a0 7) ∧ wX10_mostWithoutConflict a0 h (fun r2 h1 => K r2 h1)
def wX10_refusalReason_J13 (K : Int32 → AH → Prop)  (x0 : Nat) (y0 : Nat) (y1 : Int32) (h : AH) : Prop :=
  (isO h y0 7) ∧ ∀ h4, h4 = uI h y0 0 y1 → (isO h x0 7) ∧ (narrow .char (.int (((mI h4 x0 21).toUInt32 % 65536).toInt32)) = .int (((mI h4 x0 21).toUInt32 % 65536).toInt32)) ∧ K (((mI h4 x0 21).toUInt32 % 65536).toInt32) h4
def wX10_refusalReason (a0 : Nat) (h : AH) (K : Int32 → AH → Prop) : Prop :=
  (isO h a0 7) ∧ ((¬ mI h a0 21 = 0 → (wX10_refusalReason_J13 K a0 a0 0 h)) ∧ (mI h a0 21 = 0 → (wX10_refusalReason_J13 K a0 a0 1 h)))
def wX10_refusalBlock (a0 : Nat) (h : AH) (K : Int32 → AH → Prop) : Prop :=
  (isO h a0 7) ∧ ∀ h2, h2 = uI h a0 0 0 → ((¬ mI h2 a0 22 = (-1) → K (mI h2 a0 22) h2) ∧ (mI h2 a0 22 = (-1) → wX10_fails a0 1 h2 (fun r5 h4 => K r5 h4)))
def wX10_time (a0 : Nat) (h : AH) (K : Int32 → AH → Prop) : Prop :=
  (isO h a0 7) ∧ ∀ h2, h2 = uI h a0 0 0 → (isA h (mR h a0 1) 0) ∧ (vp_in 6 (ln h (mR h a0 1))) ∧ K (mI h2 (mR h a0 1) 6.toNatClampNeg) h2
def wX10_arrived (a0 : Nat) (h : AH) (K : Int32 → AH → Prop) : Prop :=
  (isO h a0 7) ∧ ∀ h2, h2 = uI h a0 0 0 → (isA h (mR h a0 1) 0) ∧ (vp_in 7 (ln h (mR h a0 1))) ∧ K (mI h2 (mR h a0 1) 7.toNatClampNeg) h2
def wX10_totalDelay (a0 : Nat) (h : AH) (K : Int64 → AH → Prop) : Prop :=
  (isO h a0 7) ∧ ∀ h2, h2 = uI h a0 0 0 → (isA h (mR h a0 1) 0) ∧ (vp_in 8 (ln h (mR h a0 1))) ∧ K ((mI h2 (mR h a0 1) 8.toNatClampNeg).toInt64) h2
def wX10_meanDelay_J15 (K : UInt64 → AH → Prop)  (x0 : Nat) (y0 : Nat) (y1 : Int32) (h : AH) : Prop :=
  (isO h y0 7) ∧ ∀ h6, h6 = uI h y0 0 y1 → (isO h x0 7) ∧ ((mI h6 x0 0 ≤ 0 → (isA h (mR h x0 1) 0) ∧ (vp_in 8 (ln h (mR h x0 1))) ∧ (vp_in 3 (ln h (mR h x0 1))) ∧ (vf_n64 (FP.ddiv (FP.i2d (mI h6 (mR h x0 1) 8.toNatClampNeg)) (FP.i2d (mI h6 (mR h x0 1) 3.toNatClampNeg)))) ∧ K (FP.ddiv (FP.i2d (mI h6 (mR h x0 1) 8.toNatClampNeg)) (FP.i2d (mI h6 (mR h x0 1) 3.toNatClampNeg))) h6) ∧ (¬ mI h6 x0 0 ≤ 0 → K FP.dconst0 h6))
def wX10_meanDelay (a0 : Nat) (h : AH) (K : UInt64 → AH → Prop) : Prop :=
  (isO h a0 7) ∧ (isA h (mR h a0 1) 0) ∧ (vp_in 3 (ln h (mR h a0 1))) ∧ ((¬ mI h (mR h a0 1) 3.toNatClampNeg = 0 → (wX10_meanDelay_J15 K a0 a0 0 h)) ∧ (mI h (mR h a0 1) 3.toNatClampNeg = 0 → (wX10_meanDelay_J15 K a0 a0 1 h)))
def wX10_usedShare_L31 (K : UInt32 → AH → Prop)   : Nat → Nat → Int32 → Int32 → AH → Prop
  | 0 => fun _ _ _ _ => False
  | n + 1 => fun x0 x1 x2 h =>
  (isO h x0 7) ∧ (isA h (mR h x0 1) 0) ∧ (vp_in 0 (ln h (mR h x0 1))) ∧ ((mI h (mR h x0 1) 0.toNatClampNeg ≤ x2 → (vf_n32 (FP.fdiv (FP.i2f x1) (FP.i2f (mI h (mR h x0 1) 0.toNatClampNeg)))) ∧ K (FP.fdiv (FP.i2f x1) (FP.i2f (mI h (mR h x0 1) 0.toNatClampNeg))) h) ∧ (¬ mI h (mR h x0 1) 0.toNatClampNeg ≤ x2 → wX10_block x0 x2 4 h (fun r15 h14 => (isO h14 x0 7) ∧ wX10_block x0 x2 5 h14 (fun r17 h16 => (((r15 + r17) ≤ 0 → wX10_usedShare_L31 K   n x0 (x1 + 0) (x2 + 1) h16) ∧ (¬ (r15 + r17) ≤ 0 → wX10_usedShare_L31 K   n x0 (x1 + 1) (x2 + 1) h16))))))
def wX10_usedShare_J15 (K : UInt32 → AH → Prop)  (x0 : Nat) (y0 : Nat) (y1 : Int32) (h : AH) : Prop :=
  (isO h y0 7) ∧ ∀ h6, h6 = uI h y0 0 y1 → (isO h x0 7) ∧ ((mI h6 x0 0 ≤ 0 → (∃ n20, wX10_usedShare_L31 K  n20 x0 0 0 h6)) ∧ (¬ mI h6 x0 0 ≤ 0 → K FP.fconst0 h6))
def wX10_usedShare (a0 : Nat) (h : AH) (K : UInt32 → AH → Prop) : Prop :=
  (isO h a0 7) ∧ (isA h (mR h a0 1) 0) ∧ (vp_in 0 (ln h (mR h a0 1))) ∧ ((¬ mI h (mR h a0 1) 0.toNatClampNeg = 0 → (wX10_usedShare_J15 K a0 a0 0 h)) ∧ (mI h (mR h a0 1) 0.toNatClampNeg = 0 → (wX10_usedShare_J15 K a0 a0 1 h)))
def wX10_isConsistent (a0 : Nat) (h : AH) (K : Int32 → AH → Prop) : Prop :=
  (isO h a0 7) ∧ ∀ h2, h2 = uI h a0 0 0 → K 1 h2
def wX10_writes (a0 : Nat) (a1 : Int32) (h : AH) (K : AH → Prop) : Prop :=
  (isO h a0 7) ∧ (isA h (mR h a0 9) 0) ∧ (nZ ≤ (mR h a0 9)) ∧ (vp_in (mI h a0 16) (ln h (mR h a0 9))) ∧ ∀ h5, h5 = uI h (mR h a0 9) (mI h a0 16).toNatClampNeg a1 → ∀ h6, h6 = uI h5 a0 16 (mI h5 a0 16 + 1) → K h6
def wX10_writesNumber_J62 (K : AH → Prop)  (x0 : Nat) (x1 : Int32) (h : AH) : Prop :=
  (isO h x0 7) ∧ wX10_writes x0 (48 + (x1 - x1 / 10 * 10)) h (fun h4 => K h4)
def wX10_writesNumber_J42 (K : AH → Prop)  (x0 : Nat) (x1 : Int32) (h : AH) : Prop :=
  ((x1 ≤ 9 → (wX10_writesNumber_J62 K x0 x1 h)) ∧ (¬ x1 ≤ 9 → (isO h x0 7) ∧ wX10_writes x0 (48 + ((x1 / 10) - (x1 / 10) / 10 * 10)) h (fun h7 => (wX10_writesNumber_J62 K x0 x1 h7))))
def wX10_writesNumber_J22 (K : AH → Prop)  (x0 : Nat) (x1 : Int32) (h : AH) : Prop :=
  ((x1 ≤ 99 → (wX10_writesNumber_J42 K x0 x1 h)) ∧ (¬ x1 ≤ 99 → (isO h x0 7) ∧ wX10_writes x0 (48 + ((x1 / 100) - (x1 / 100) / 10 * 10)) h (fun h10 => (wX10_writesNumber_J42 K x0 x1 h10))))
def wX10_writesNumber (a0 : Nat) (a1 : Int32) (h : AH) (K : AH → Prop) : Prop :=
  ((a1 ≤ 999 → (wX10_writesNumber_J22 K a0 a1 h)) ∧ (¬ a1 ≤ 999 → (isO h a0 7) ∧ wX10_writes a0 (48 + ((a1 / 1000) - (a1 / 1000) / 10 * 10)) h (fun h13 => (wX10_writesNumber_J22 K a0 a1 h13))))
def wX10_writeBlocks_J51 (K : Int32 → AH → Prop) (c12 : Nat → Int32 → AH → Prop) (x0 : Nat) (x1 : Int32) (x2 : Int32) (h : AH) : Prop :=
  ((¬ x2 = 114 → c12 x0 (x1 + 1) h) ∧ (x2 = 114 → (isO h x0 7) ∧ wX10_block x0 x1 5 h (fun r15 h14 => (isO h14 x0 7) ∧ wX10_writesNumber x0 (r15 - 1) h14 (fun h16 => c12 x0 (x1 + 1) h16))))
def wX10_writeBlocks_L12 (K : Int32 → AH → Prop)   : Nat → Nat → Int32 → AH → Prop
  | 0 => fun _ _ _ => False
  | n + 1 => fun x0 x1 h =>
  (isO h x0 7) ∧ (isA h (mR h x0 1) 0) ∧ (vp_in 0 (ln h (mR h x0 1))) ∧ ((mI h (mR h x0 1) 0.toNatClampNeg ≤ x1 → K (mI h x0 16) h) ∧ (¬ mI h (mR h x0 1) 0.toNatClampNeg ≤ x1 → wX10_look x0 x1 h (fun r9 h8 => (isO h8 x0 7) ∧ wX10_writes x0 r9 h8 (fun h10 => ((¬ r9 = 111 → (wX10_writeBlocks_J51 K (wX10_writeBlocks_L12 K   n) x0 x1 r9 h10)) ∧ (r9 = 111 → (isO h10 x0 7) ∧ wX10_block x0 x1 4 h10 (fun r21 h20 => (isO h20 x0 7) ∧ wX10_writesNumber x0 (r21 - 1) h20 (fun h22 => (wX10_writeBlocks_J51 K (wX10_writeBlocks_L12 K   n) x0 x1 r9 h22)))))))))
def wX10_writeBlocks (a0 : Nat) (h : AH) (K : Int32 → AH → Prop) : Prop :=
  (isO h a0 7) ∧ ∀ h2, h2 = uI h a0 0 0 → ∀ h3, h3 = uI h2 a0 16 0 → (∃ n27, wX10_writeBlocks_L12 K  n27 a0 0 h3)
def wX10_writeTrain_L57 (K : Int32 → AH → Prop)   : Nat → Nat → Int32 → Int32 → AH → Prop
  | 0 => fun _ _ _ _ => False
  | n + 1 => fun x0 x2 x3 h =>
  (isO h x0 7) ∧ wX10_train x0 x2 6 h (fun r18 h17 => ((r18 ≤ x3 → (isO h17 x0 7) ∧ wX10_train x0 x2 3 h17 (fun r21 h20 => ((¬ r21 = 0 → (isO h20 x0 7) ∧ K (mI h20 x0 16) h20) ∧ (r21 = 0 → (isO h20 x0 7) ∧ wX10_writes x0 63 h20 (fun h24 => (isO h24 x0 7) ∧ wX10_train x0 x2 2 h24 (fun r27 h26 => (isO h26 x0 7) ∧ wX10_writesNumber x0 r27 h26 (fun h28 => (isO h28 x0 7) ∧ K (mI h28 x0 16) h28))))))) ∧ (¬ r18 ≤ x3 → (isO h17 x0 7) ∧ wX10_writes x0 62 h17 (fun h35 => (isO h35 x0 7) ∧ wX10_train x0 x2 (7 + x3) h35 (fun r38 h37 => (isO h37 x0 7) ∧ wX10_writesNumber x0 r38 h37 (fun h39 => wX10_writeTrain_L57 K   n x0 x2 (x3 + 1) h39))))))
def wX10_writeTrain_J17 (K : Int32 → AH → Prop)  (x0 : Nat) (x1 : Int32) (x2 : Int32) (y0 : Nat) (y1 : Int32) (h : AH) : Prop :=
  (isO h y0 7) ∧ ∀ h5, h5 = uI h y0 0 y1 → (isO h x0 7) ∧ ((mI h5 x0 0 ≤ 0 → ∀ h8, h8 = uI h5 x0 16 0 → wX10_writesNumber x0 x1 h8 (fun h9 => (isO h9 x0 7) ∧ wX10_writes x0 64 h9 (fun h11 => (isO h11 x0 7) ∧ wX10_train x0 x2 1 h11 (fun r14 h13 => (isO h13 x0 7) ∧ wX10_writesNumber x0 r14 h13 (fun h15 => (∃ n45, wX10_writeTrain_L57 K  n45 x0 x2 1 h15)))))) ∧ (¬ mI h5 x0 0 ≤ 0 → K 0 h5))
def wX10_writeTrain (a0 : Nat) (a1 : Int32) (h : AH) (K : Int32 → AH → Prop) : Prop :=
  (isO h a0 7) ∧ wX10_placeOf a0 a1 h (fun r2 h1 => ((¬ r2 = (-1) → (wX10_writeTrain_J17 K a0 a1 r2 a0 0 h1)) ∧ (r2 = (-1) → (wX10_writeTrain_J17 K a0 a1 r2 a0 1 h1))))
def wX10_charAt_J20 (K : Int32 → AH → Prop)  (x0 : Nat) (x1 : Int32) (y0 : Nat) (y1 : Int32) (h : AH) : Prop :=
  (isO h y0 7) ∧ ∀ h6, h6 = uI h y0 0 y1 → (isO h x0 7) ∧ ((mI h6 x0 0 ≤ 0 → (isA h (mR h x0 9) 0) ∧ (vp_in x1 (ln h (mR h x0 9))) ∧ (narrow .char (.int (((mI h6 (mR h x0 9) x1.toNatClampNeg).toUInt32 % 65536).toInt32)) = .int (((mI h6 (mR h x0 9) x1.toNatClampNeg).toUInt32 % 65536).toInt32)) ∧ K (((mI h6 (mR h x0 9) x1.toNatClampNeg).toUInt32 % 65536).toInt32) h6) ∧ (¬ mI h6 x0 0 ≤ 0 → K 0 h6))
def wX10_charAt (a0 : Nat) (a1 : Int32) (h : AH) (K : Int32 → AH → Prop) : Prop :=
  (isO h a0 7) ∧ wX10_in a1 0 (mI h a0 16 - 1) h (fun r3 h2 => ((r3 = 0 → (wX10_charAt_J20 K a0 a1 a0 1 h2)) ∧ (¬ r3 = 0 → (wX10_charAt_J20 K a0 a1 a0 0 h2))))
def wX10_type_J15 (K : Int32 → AH → Prop)  (x0 : Nat) (x1 : Int32) (y0 : Nat) (y1 : Int32) (h : AH) : Prop :=
  (isO h y0 7) ∧ ∀ h4, h4 = uI h y0 0 y1 → (isO h x0 7) ∧ ((mI h4 x0 0 ≤ 0 → (isA h (mR h x0 7) 0) ∧ (nZ ≤ (mR h x0 7)) ∧ (vp_in (mI h4 x0 15) (ln h (mR h x0 7))) ∧ ∀ h10, h10 = uI h4 (mR h x0 7) (mI h4 x0 15).toNatClampNeg x1 → ∀ h11, h11 = uI h10 x0 15 (mI h10 x0 15 + 1) → K (mI h11 x0 15) h11) ∧ (¬ mI h4 x0 0 ≤ 0 → K 0 h4))
def wX10_type (a0 : Nat) (a1 : Int32) (h : AH) (K : Int32 → AH → Prop) : Prop :=
  (isO h a0 7) ∧ ((¬ mI h a0 15 = 60 → (wX10_type_J15 K a0 a1 a0 0 h)) ∧ (mI h a0 15 = 60 → (wX10_type_J15 K a0 a1 a0 1 h)))
def wX10_here (a0 : Nat) (a1 : Int32) (h : AH) (K : Int32 → AH → Prop) : Prop :=
  (isO h a0 7) ∧ ((mI h a0 24 ≤ (mI h a0 23 + a1) → K (-1) h) ∧ (¬ mI h a0 24 ≤ (mI h a0 23 + a1) → (isA h (mR h a0 7) 0) ∧ (vp_in (mI h a0 23 + a1) (ln h (mR h a0 7))) ∧ K (mI h (mR h a0 7) (mI h a0 23 + a1).toNatClampNeg) h))
def wX10_says_J56 (K : AH → Prop) (c2 : Nat → Nat → Int32 → AH → Prop) (x0 : Nat) (x1 : Nat) (x2 : Int32) (y0 : Nat) (y1 : Int32) (y2 : Int32) (h : AH) : Prop :=
  (isO h y0 7) ∧ ∀ h18, h18 = uI h y0 23 (y1 + y2) → c2 x0 x1 (x2 + 1) h18
def wX10_says_J36 (K : AH → Prop) (c2 : Nat → Nat → Int32 → AH → Prop) (x0 : Nat) (x1 : Nat) (x2 : Int32) (y0 : Nat) (y1 : Int32) (h : AH) : Prop :=
  (isO h y0 7) ∧ (narrow .boolean (.int y1) = .int y1) ∧ (fits .boolean (.int y1) = true) ∧ ∀ h12, h12 = uI h y0 26 y1 → (isO h x0 7) ∧ ((mI h12 x0 26 = 0 → (wX10_says_J56 K c2 x0 x1 x2 x0 (mI h12 x0 23) 1 h12)) ∧ (¬ mI h12 x0 26 = 0 → (wX10_says_J56 K c2 x0 x1 x2 x0 (mI h12 x0 23) 0 h12)))
def wX10_says_L2 (K : AH → Prop)   : Nat → Nat → Nat → Int32 → AH → Prop
  | 0 => fun _ _ _ _ => False
  | n + 1 => fun x0 x1 x2 h =>
  (mS h x1 = (20, 0)) ∧ (x1 < nZ) ∧ wJ0_length_8abf5 x1 h (fun r2 h1 => ((r2 ≤ x2 → K h1) ∧ (¬ r2 ≤ x2 → (isO h1 x0 7) ∧ ((¬ mI h1 x0 26 = 0 → K h1) ∧ (mI h1 x0 26 = 0 → wX10_here x0 0 h1 (fun r7 h6 => (mS h6 x1 = (20, 0)) ∧ (x1 < nZ) ∧ wJ0_charAt_5068e x1 x2 h6 (fun r9 h8 => ((r7 = r9 → (wX10_says_J36 K (wX10_says_L2 K   n) x0 x1 x2 x0 0 h8)) ∧ (¬ r7 = r9 → (wX10_says_J36 K (wX10_says_L2 K   n) x0 x1 x2 x0 1 h8))))))))))
def wX10_says (a0 : Nat) (a1 : Nat) (h : AH) (K : AH → Prop) : Prop :=
  (∃ n23, wX10_says_L2 K  n23 a0 a1 0 h)
def wX10_number_L11 (K : AH → Prop) (c71 : Nat → Int32 → Int32 → Int32 → AH → Prop)  : Nat → Nat → Int32 → Int32 → Int32 → Int32 → AH → Prop
  | 0 => fun _ _ _ _ _ _ => False
  | n + 1 => fun x0 x2 x3 x4 x5 h =>
  (isO h x0 7) ∧ ((¬ mI h x0 26 = 0 → c71 x0 x2 x4 x5 h) ∧ (mI h x0 26 = 0 → ((x3 ≤ x5 → c71 x0 x2 x4 x5 h) ∧ (¬ x3 ≤ x5 → wX10_here x0 0 h (fun r7 h6 => wX10_in r7 48 57 h6 (fun r9 h8 => ((r9 = 0 → c71 x0 x2 x4 x5 h8) ∧ (¬ r9 = 0 → (isO h8 x0 7) ∧ wX10_here x0 0 h8 (fun r12 h11 => (isO h11 x0 7) ∧ ∀ h14, h14 = uI h11 x0 23 (mI h11 x0 23 + 1) → wX10_number_L11 K c71  n x0 x2 x3 (((10 * x4) + r12) - 48) (x5 + 1) h14)))))))))
def wX10_number_J89 (K : AH → Prop)  (x0 : Nat) (x2 : Int32) (x4 : Int32) (y0 : Nat) (y1 : Int32) (h : AH) : Prop :=
  (isO h y0 7) ∧ (narrow .boolean (.int y1) = .int y1) ∧ (fits .boolean (.int y1) = true) ∧ ∀ h24, h24 = uI h y0 26 y1 → (isO h x0 7) ∧ (isA h (mR h x0 8) 0) ∧ (nZ ≤ (mR h x0 8)) ∧ (vp_in ((4 * mI h24 x0 25) + x2) (ln h (mR h x0 8))) ∧ ∀ h31, h31 = uI h24 (mR h x0 8) ((4 * mI h24 x0 25) + x2).toNatClampNeg x4 → K h31
def wX10_number_J84 (K : AH → Prop)  (x0 : Nat) (x2 : Int32) (x4 : Int32) (y0 : Nat) (h : AH) : Prop :=
  (wX10_number_J89 K x0 x2 x4 y0 1 h)
def wX10_number (a0 : Nat) (a1 : Nat) (a2 : Int32) (a3 : Int32) (h : AH) (K : AH → Prop) : Prop :=
  (isO h a0 7) ∧ wX10_says a0 a1 h (fun h1 => (∃ n33, wX10_number_L11 K (fun x0_16 x2_17 x4_18 x5_19 h20 => (isO h20 x0_16 7) ∧ ((¬ mI h20 x0_16 26 = 0 → (wX10_number_J84 K x0_16 x2_17 x4_18 x0_16 h20)) ∧ (mI h20 x0_16 26 = 0 → ((¬ x5_19 = 0 → (wX10_number_J89 K x0_16 x2_17 x4_18 x0_16 0 h20)) ∧ (x5_19 = 0 → (wX10_number_J84 K x0_16 x2_17 x4_18 x0_16 h20)))))) n33 a0 a2 a3 0 0 h1))
def wX10_readsWait (a0 : Nat) (h : AH) (K : AH → Prop) : Prop :=
  (isO h a0 7) ∧ wX10_says a0 34 h (fun h1 => (isO h1 a0 7) ∧ (isA h1 (mR h1 a0 8) 0) ∧ (nZ ≤ (mR h1 a0 8)) ∧ (vp_in ((4 * mI h1 a0 25) + 1) (ln h1 (mR h1 a0 8))) ∧ ∀ h7, h7 = uI h1 (mR h1 a0 8) ((4 * mI h1 a0 25) + 1).toNatClampNeg 1 → ((¬ mI h7 a0 26 = 0 → K h7) ∧ (mI h7 a0 26 = 0 → wX10_here a0 0 h7 (fun r10 h9 => ((¬ r10 = 32 → K h9) ∧ (r10 = 32 → (isO h9 a0 7) ∧ wX10_number a0 60 1 3 h9 (fun h12 => K h12)))))))
def wX10_readsOne_J324 (K : AH → Prop)  (x0 : Nat) (h : AH) : Prop :=
  (isO h x0 7) ∧ ∀ h15, h15 = uI h x0 25 (mI h x0 25 + 1) → K h15
def wX10_readsOne_J56 (K : AH → Prop)  (x0 : Nat) (x1 : Int32) (x2 : Int32) (y0 : Nat) (y1 : Int32) (y2 : Int32) (h : AH) : Prop :=
  (isA h y0 0) ∧ (nZ ≤ y0) ∧ (vp_in y1 (ln h y0)) ∧ ∀ h11, h11 = uI h y0 y1.toNatClampNeg y2 → ((x1 = 98 → (isO h x0 7) ∧ wX10_number x0 38 1 1 h11 (fun h12 => (wX10_readsOne_J324 K x0 h12))) ∧ (x1 = 102 → (isO h x0 7) ∧ wX10_number x0 56 1 3 h11 (fun h17 => (wX10_readsOne_J324 K x0 h17))) ∧ (x1 = 108 → (isO h x0 7) ∧ wX10_number x0 46 1 3 h11 (fun h20 => (isO h20 x0 7) ∧ wX10_number x0 42 2 3 h20 (fun h22 => (wX10_readsOne_J324 K x0 h22)))) ∧ (x1 = 111 → (isO h x0 7) ∧ wX10_number x0 58 1 3 h11 (fun h26 => (wX10_readsOne_J324 K x0 h26))) ∧ (x1 = 112 → (isO h x0 7) ∧ wX10_number x0 40 1 3 h11 (fun h29 => (isO h29 x0 7) ∧ wX10_number x0 42 2 3 h29 (fun h31 => (isO h31 x0 7) ∧ wX10_number x0 44 3 3 h31 (fun h33 => (wX10_readsOne_J324 K x0 h33))))) ∧ (x1 = 115 → ((x2 = 0 → (isO h x0 7) ∧ wX10_number x0 54 1 3 h11 (fun h39 => (wX10_readsOne_J324 K x0 h39))) ∧ (¬ x2 = 0 → (isO h x0 7) ∧ wX10_number x0 52 1 3 h11 (fun h42 => (wX10_readsOne_J324 K x0 h42))))) ∧ (x1 = 116 → ((x2 = 0 → (isO h x0 7) ∧ wX10_number x0 50 1 3 h11 (fun h46 => (isO h46 x0 7) ∧ wX10_number x0 42 2 3 h46 (fun h48 => (wX10_readsOne_J324 K x0 h48)))) ∧ (¬ x2 = 0 → (isO h x0 7) ∧ wX10_number x0 48 1 1 h11 (fun h52 => (wX10_readsOne_J324 K x0 h52))))) ∧ (x1 = 119 → (isO h x0 7) ∧ wX10_readsWait x0 h11 (fun h55 => (wX10_readsOne_J324 K x0 h55))) ∧ (¬ x1 = 98 ∧ ¬ x1 = 102 ∧ ¬ x1 = 108 ∧ ¬ x1 = 111 ∧ ¬ x1 = 112 ∧ ¬ x1 = 115 ∧ ¬ x1 = 116 ∧ ¬ x1 = 119 → (isO h x0 7) ∧ ∀ h59, h59 = uI h11 x0 26 1 → (wX10_readsOne_J324 K x0 h59)))
def wX10_readsOne_J33 (K : AH → Prop)  (x0 : Nat) (x1 : Int32) (y0 : Int32) (h : AH) : Prop :=
  (isO h x0 7) ∧ ((y0 = 0 → (wX10_readsOne_J56 K x0 x1 y0 (mR h x0 8) (4 * mI h x0 25) x1 h)) ∧ (¬ y0 = 0 → (wX10_readsOne_J56 K x0 x1 y0 (mR h x0 8) (4 * mI h x0 25) (x1 + 100) h)))
def wX10_readsOne_J32 (K : AH → Prop)  (x0 : Nat) (x1 : Int32) (h : AH) : Prop :=
  (wX10_readsOne_J33 K x0 x1 0 h)
def wX10_readsOne_J28 (K : AH → Prop)  (x0 : Nat) (x1 : Int32) (h : AH) : Prop :=
  (wX10_readsOne_J33 K x0 x1 1 h)
def wX10_readsOne (a0 : Nat) (h : AH) (K : AH → Prop) : Prop :=
  (isO h a0 7) ∧ wX10_here a0 0 h (fun r2 h1 => (isO h1 a0 7) ∧ wX10_here a0 1 h1 (fun r4 h3 => ((¬ r4 = 104 → (wX10_readsOne_J32 K a0 r2 h3)) ∧ (r4 = 104 → ((r2 = 115 → (wX10_readsOne_J28 K a0 r2 h3)) ∧ (¬ r2 = 115 → ((¬ r2 = 116 → (wX10_readsOne_J32 K a0 r2 h3)) ∧ (r2 = 116 → (wX10_readsOne_J28 K a0 r2 h3)))))))))
def wX10_does (a0 : Nat) (a1 : Int32) (h : AH) (K : Int32 → AH → Prop) : Prop :=
  (isO h a0 7) ∧ (isA h (mR h a0 8) 0) ∧ (vp_in ((4 * a1) + 1) (ln h (mR h a0 8))) ∧ ∀ v4 : Int32, v4 = mI h (mR h a0 8) ((4 * a1) + 1).toNatClampNeg → (vp_in ((4 * a1) + 2) (ln h (mR h a0 8))) ∧ ∀ v7 : Int32, v7 = mI h (mR h a0 8) ((4 * a1) + 2).toNatClampNeg → (vp_in (4 * a1) (ln h (mR h a0 8))) ∧ ((mI h (mR h a0 8) (4 * a1).toNatClampNeg = 98 → wX10_lays a0 v4 h (fun r11 h10 => K r11 h10)) ∧ (mI h (mR h a0 8) (4 * a1).toNatClampNeg = 102 → wX10_frees a0 v4 h (fun r13 h12 => K r13 h12)) ∧ (mI h (mR h a0 8) (4 * a1).toNatClampNeg = 108 → wX10_links a0 v4 v7 h (fun r15 h14 => K r15 h14)) ∧ (mI h (mR h a0 8) (4 * a1).toNatClampNeg = 111 → wX10_opens a0 v4 h (fun r17 h16 => K r17 h16)) ∧ (mI h (mR h a0 8) (4 * a1).toNatClampNeg = 112 → (vp_in ((4 * a1) + 3) (ln h (mR h a0 8))) ∧ wX10_forks a0 v4 v7 (mI h (mR h a0 8) ((4 * a1) + 3).toNatClampNeg) h (fun r20 h19 => K r20 h19)) ∧ (mI h (mR h a0 8) (4 * a1).toNatClampNeg = 115 → wX10_clears a0 v4 h (fun r22 h21 => K r22 h21)) ∧ (mI h (mR h a0 8) (4 * a1).toNatClampNeg = 116 → wX10_comes a0 v4 v7 h (fun r24 h23 => K r24 h23)) ∧ (mI h (mR h a0 8) (4 * a1).toNatClampNeg = 215 → wX10_shuts a0 v4 h (fun r26 h25 => K r26 h25)) ∧ (mI h (mR h a0 8) (4 * a1).toNatClampNeg = 216 → wX10_throwsOver a0 v4 h (fun r28 h27 => K r28 h27)) ∧ (¬ mI h (mR h a0 8) (4 * a1).toNatClampNeg = 98 ∧ ¬ mI h (mR h a0 8) (4 * a1).toNatClampNeg = 102 ∧ ¬ mI h (mR h a0 8) (4 * a1).toNatClampNeg = 108 ∧ ¬ mI h (mR h a0 8) (4 * a1).toNatClampNeg = 111 ∧ ¬ mI h (mR h a0 8) (4 * a1).toNatClampNeg = 112 ∧ ¬ mI h (mR h a0 8) (4 * a1).toNatClampNeg = 115 ∧ ¬ mI h (mR h a0 8) (4 * a1).toNatClampNeg = 116 ∧ ¬ mI h (mR h a0 8) (4 * a1).toNatClampNeg = 215 ∧ ¬ mI h (mR h a0 8) (4 * a1).toNatClampNeg = 216 → wX10_passes a0 v4 h (fun r30 h29 => K r30 h29)))
def wX10_run_L36 (K : Int32 → AH → Prop) (c70 : Nat → AH → Prop)  : Nat → Nat → AH → Prop
  | 0 => fun _ _ => False
  | n + 1 => fun x0 h =>
  (isO h x0 7) ∧ ((¬ mI h x0 26 = 0 → c70 x0 h) ∧ (mI h x0 26 = 0 → wX10_here x0 0 h (fun r14 h13 => ((¬ r14 = 59 → c70 x0 h13) ∧ (r14 = 59 → (isO h13 x0 7) ∧ ∀ h17, h17 = uI h13 x0 23 (mI h13 x0 23 + 1) → wX10_readsOne x0 h17 (fun h18 => wX10_run_L36 K c70  n x0 h18))))))
def wX10_run_J88 (K : Int32 → AH → Prop)  (x0 : Nat) (h : AH) : Prop :=
  (isO h x0 7) ∧ ∀ h25, h25 = uI h x0 17 (mI h x0 23) → wX10_fails x0 1 h25 (fun r27 h26 => K r27 h26)
def wX10_run_L104 (K : Int32 → AH → Prop) (c123 : Nat → Int32 → AH → Prop)  : Nat → Nat → Int32 → AH → Prop
  | 0 => fun _ _ _ => False
  | n + 1 => fun x0 x1 h =>
  (isO h x0 7) ∧ ((mI h x0 25 ≤ x1 → wX10_changed x0 (mI h x0 25) h (fun r32 h31 => K r32 h31)) ∧ (¬ mI h x0 25 ≤ x1 → wX10_does x0 x1 h (fun r34 h33 => ((¬ r34 = 0 → c123 x0 x1 h33) ∧ (r34 = 0 → wX10_run_L104 K c123  n x0 (x1 + 1) h33)))))
def wX10_run_L125 (K : Int32 → AH → Prop)   : Nat → Nat → Int32 → Int32 → AH → Prop
  | 0 => fun _ _ _ _ => False
  | n + 1 => fun x0 x1 x2 h =>
  ((281 ≤ x2 → (isO h x0 7) ∧ ∀ h41, h41 = uI h x0 18 x1 → wX10_fails x0 2 h41 (fun r43 h42 => K r43 h42)) ∧ (¬ 281 ≤ x2 → (isO h x0 7) ∧ (isA h (mR h x0 2) 0) ∧ (vp_in x2 (ln h (mR h x0 2))) ∧ (isA h (mR h x0 1) 0) ∧ (nZ ≤ (mR h x0 1)) ∧ (vp_in x2 (ln h (mR h x0 1))) ∧ ∀ h50, h50 = uI h (mR h x0 1) x2.toNatClampNeg (mI h (mR h x0 2) x2.toNatClampNeg) → wX10_run_L125 K   n x0 x1 (x2 + 1) h50))
def wX10_run (a0 : Nat) (h : AH) (K : Int32 → AH → Prop) : Prop :=
  (isO h a0 7) ∧ wX10_remembers a0 h (fun h1 => (isO h1 a0 7) ∧ ∀ h4, h4 = uI h1 a0 23 0 → ∀ h5, h5 = uI h4 a0 24 (mI h4 a0 15) → ∀ h6, h6 = uI h5 a0 15 0 → ∀ h7, h7 = uI h6 a0 25 0 → ∀ h8, h8 = uI h7 a0 26 0 → wX10_readsOne a0 h8 (fun h9 => (∃ n53, wX10_run_L36 K (fun x0_20 h21 => (isO h21 x0_20 7) ∧ ((¬ mI h21 x0_20 26 = 0 → (wX10_run_J88 K x0_20 h21)) ∧ (mI h21 x0_20 26 = 0 → ((mI h21 x0_20 24 ≤ mI h21 x0_20 23 → (∃ n52, wX10_run_L104 K (fun x0_36 x1_37 h38 => (∃ n51, wX10_run_L125 K  n51 x0_36 x1_37 0 h38)) n52 x0_20 0 h21)) ∧ (¬ mI h21 x0_20 24 ≤ mI h21 x0_20 23 → (wX10_run_J88 K x0_20 h21)))))) n53 a0 h9)))
def wX10_errorPosition (a0 : Nat) (h : AH) (K : Int32 → AH → Prop) : Prop :=
  (isO h a0 7) ∧ ∀ h2, h2 = uI h a0 0 0 → ((¬ mI h2 a0 17 = (-1) → K (mI h2 a0 17) h2) ∧ (mI h2 a0 17 = (-1) → wX10_fails a0 1 h2 (fun r5 h4 => K r5 h4)))
def wX10_failedCommand (a0 : Nat) (h : AH) (K : Int32 → AH → Prop) : Prop :=
  (isO h a0 7) ∧ ∀ h2, h2 = uI h a0 0 0 → ((¬ mI h2 a0 18 = (-1) → K (mI h2 a0 18) h2) ∧ (mI h2 a0 18 = (-1) → wX10_fails a0 1 h2 (fun r5 h4 => K r5 h4)))
def wX10_undo_L30 (K : Int32 → AH → Prop)   : Nat → Nat → Int32 → AH → Prop
  | 0 => fun _ _ _ => False
  | n + 1 => fun x0 x1 h =>
  ((281 ≤ x1 → (isO h x0 7) ∧ K (mI h x0 5) h) ∧ (¬ 281 ≤ x1 → (isO h x0 7) ∧ (isA h (mR h x0 4) 0) ∧ (vp_in ((281 * mI h x0 5) + x1) (ln h (mR h x0 4))) ∧ (isA h (mR h x0 1) 0) ∧ (nZ ≤ (mR h x0 1)) ∧ (vp_in x1 (ln h (mR h x0 1))) ∧ ∀ h13, h13 = uI h (mR h x0 1) x1.toNatClampNeg (mI h (mR h x0 4) ((281 * mI h x0 5) + x1).toNatClampNeg) → wX10_undo_L30 K   n x0 (x1 + 1) h13))
def wX10_undo (a0 : Nat) (h : AH) (K : Int32 → AH → Prop) : Prop :=
  (isO h a0 7) ∧ ∀ h2, h2 = uI h a0 0 0 → ((¬ mI h2 a0 5 = 0 → ∀ h4, h4 = uI h2 a0 5 (mI h2 a0 5 - 1) → (∃ n14, wX10_undo_L30 K  n14 a0 0 h4)) ∧ (mI h2 a0 5 = 0 → wX10_fails a0 1 h2 (fun r16 h15 => K r16 h15)))
def wX10_save_L7 (K : Int32 → AH → Prop)   : Nat → Nat → Int32 → AH → Prop
  | 0 => fun _ _ _ => False
  | n + 1 => fun x0 x1 h =>
  ((281 ≤ x1 → (isO h x0 7) ∧ ∀ h5, h5 = uI h x0 6 1 → (isA h (mR h x0 1) 0) ∧ (vp_in 4 (ln h (mR h x0 1))) ∧ K (mI h5 (mR h x0 1) 4.toNatClampNeg) h5) ∧ (¬ 281 ≤ x1 → (isO h x0 7) ∧ (isA h (mR h x0 1) 0) ∧ (vp_in x1 (ln h (mR h x0 1))) ∧ (isA h (mR h x0 3) 0) ∧ (nZ ≤ (mR h x0 3)) ∧ (vp_in x1 (ln h (mR h x0 3))) ∧ ∀ h14, h14 = uI h (mR h x0 3) x1.toNatClampNeg (mI h (mR h x0 1) x1.toNatClampNeg) → wX10_save_L7 K   n x0 (x1 + 1) h14))
def wX10_save (a0 : Nat) (h : AH) (K : Int32 → AH → Prop) : Prop :=
  (isO h a0 7) ∧ ∀ h2, h2 = uI h a0 0 0 → (∃ n15, wX10_save_L7 K  n15 a0 0 h2)
def wX10_restore_L20 (K : Int32 → AH → Prop)   : Nat → Nat → Int32 → AH → Prop
  | 0 => fun _ _ _ => False
  | n + 1 => fun x0 x1 h =>
  ((281 ≤ x1 → (isO h x0 7) ∧ ∀ h6, h6 = uI h x0 5 0 → (isA h (mR h x0 1) 0) ∧ (vp_in 4 (ln h (mR h x0 1))) ∧ K (mI h6 (mR h x0 1) 4.toNatClampNeg) h6) ∧ (¬ 281 ≤ x1 → (isO h x0 7) ∧ (isA h (mR h x0 3) 0) ∧ (vp_in x1 (ln h (mR h x0 3))) ∧ (isA h (mR h x0 1) 0) ∧ (nZ ≤ (mR h x0 1)) ∧ (vp_in x1 (ln h (mR h x0 1))) ∧ ∀ h15, h15 = uI h (mR h x0 1) x1.toNatClampNeg (mI h (mR h x0 3) x1.toNatClampNeg) → wX10_restore_L20 K   n x0 (x1 + 1) h15))
def wX10_restore (a0 : Nat) (h : AH) (K : Int32 → AH → Prop) : Prop :=
  (isO h a0 7) ∧ ∀ h2, h2 = uI h a0 0 0 → ((¬ mI h2 a0 6 = 0 → (∃ n16, wX10_restore_L20 K  n16 a0 0 h2)) ∧ (mI h2 a0 6 = 0 → wX10_fails a0 1 h2 (fun r18 h17 => K r18 h17)))
def wL_addBlock (a0 : Nat) (a1 : Int32) (a2 : Nat) (h : AH) (K : Int32 → AH → Prop) : Prop :=
  (isO h a0 0) ∧ wX9_addBlock a0 a1 h (fun r2 h1 => (isA h1 a2 1) ∧ (nZ ≤ a2) ∧ (vp_in 0 (ln h1 a2)) ∧ ∀ h6, h6 = uL h1 a2 0.toNatClampNeg r2.toInt64 → K 0 h6) T
def wL_addPoint (a0 : Nat) (a1 : Int32) (a2 : Int32) (a3 : Int32) (a4 : Nat) (h : AH) (K : Int32 → AH → Prop) : Prop :=
  (isO h a0 0) ∧ wX9_addPoint a0 a1 a2 a3 h (fun r2 h1 => (isA h1 a4 1) ∧ (nZ ≤ a4) ∧ (vp_in 0 (ln h1 a4)) ∧ ∀ h6, h6 = uL h1 a4 0.toNatClampNeg r2.toInt64 → K 0 h6) T
def wL_addLink (a0 : Nat) (a1 : Int32) (a2 : Int32) (a3 : Nat) (h : AH) (K : Int32 → AH → Prop) : Prop :=
  (isO h a0 0) ∧ wX9_addLink a0 a1 a2 h (fun r2 h1 => (isA h1 a3 1) ∧ (nZ ≤ a3) ∧ (vp_in 0 (ln h1 a3)) ∧ ∀ h6, h6 = uL h1 a3 0.toNatClampNeg r2.toInt64 → K 0 h6) T
def wL_shut (a0 : Nat) (a1 : Int32) (a2 : Nat) (h : AH) (K : Int32 → AH → Prop) : Prop :=
  (isO h a0 0) ∧ wX9_shut a0 a1 h (fun r2 h1 => (isA h1 a2 1) ∧ (nZ ≤ a2) ∧ (vp_in 0 (ln h1 a2)) ∧ ∀ h6, h6 = uL h1 a2 0.toNatClampNeg r2.toInt64 → K 0 h6) T
def wL_open (a0 : Nat) (a1 : Int32) (a2 : Nat) (h : AH) (K : Int32 → AH → Prop) : Prop :=
  (isO h a0 0) ∧ wX9_open a0 a1 h (fun r2 h1 => (isA h1 a2 1) ∧ (nZ ≤ a2) ∧ (vp_in 0 (ln h1 a2)) ∧ ∀ h6, h6 = uL h1 a2 0.toNatClampNeg r2.toInt64 → K 0 h6) T
def wL_throwPoint_J15 (K : Int32 → AH → Prop)  (y0 : Nat) (y1 : Int32) (y2 : Int64) (h : AH) : Prop :=
  (isA h y0 1) ∧ (nZ ≤ y0) ∧ (vp_in y1 (ln h y0)) ∧ ∀ h7, h7 = uL h y0 y1.toNatClampNeg y2 → K 0 h7
def wL_throwPoint (a0 : Nat) (a1 : Int32) (a2 : Nat) (h : AH) (K : Int32 → AH → Prop) : Prop :=
  (isO h a0 0) ∧ wX9_throwPoint a0 a1 h (fun r2 h1 => ((r2 = 0 → (wL_throwPoint_J15 K a2 0 0 h1)) ∧ (¬ r2 = 0 → (wL_throwPoint_J15 K a2 0 1 h1)))) T
def wL_addTrain (a0 : Nat) (a1 : Int32) (a2 : Int32) (a3 : Nat) (h : AH) (K : Int32 → AH → Prop) : Prop :=
  (isO h a0 0) ∧ wX9_addTrain a0 a1 a2 h (fun r2 h1 => (isA h1 a3 1) ∧ (nZ ≤ a3) ∧ (vp_in 0 (ln h1 a3)) ∧ ∀ h6, h6 = uL h1 a3 0.toNatClampNeg r2.toInt64 → K 0 h6) T
def wL_setRoute (a0 : Nat) (a1 : Int32) (a2 : Nat) (h : AH) (K : Int32 → AH → Prop) : Prop :=
  (isO h a0 0) ∧ wX9_setRoute a0 a1 h (fun r2 h1 => (isA h1 a2 1) ∧ (nZ ≤ a2) ∧ (vp_in 0 (ln h1 a2)) ∧ ∀ h6, h6 = uL h1 a2 0.toNatClampNeg r2.toInt64 → K 0 h6) T
def wL_releaseRoute (a0 : Nat) (a1 : Int32) (a2 : Nat) (h : AH) (K : Int32 → AH → Prop) : Prop :=
  (isO h a0 0) ∧ wX9_releaseRoute a0 a1 h (fun r2 h1 => (isA h1 a2 1) ∧ (nZ ≤ a2) ∧ (vp_in 0 (ln h1 a2)) ∧ ∀ h6, h6 = uL h1 a2 0.toNatClampNeg r2.toInt64 → K 0 h6) T
def wL_pass (a0 : Nat) (a1 : Int32) (a2 : Nat) (h : AH) (K : Int32 → AH → Prop) : Prop :=
  (isO h a0 0) ∧ wX9_pass a0 a1 h (fun r2 h1 => (isA h1 a2 1) ∧ (nZ ≤ a2) ∧ (vp_in 0 (ln h1 a2)) ∧ ∀ h6, h6 = uL h1 a2 0.toNatClampNeg r2.toInt64 → K 0 h6) T
def wL_blockLength (a0 : Nat) (a1 : Int32) (a2 : Nat) (h : AH) (K : Int32 → AH → Prop) : Prop :=
  (isO h a0 0) ∧ wX9_blockLength a0 a1 h (fun r2 h1 => (isA h1 a2 1) ∧ (nZ ≤ a2) ∧ (vp_in 0 (ln h1 a2)) ∧ ∀ h6, h6 = uL h1 a2 0.toNatClampNeg r2.toInt64 → K 0 h6) T
def wL_blockState (a0 : Nat) (a1 : Int32) (a2 : Nat) (h : AH) (K : Int32 → AH → Prop) : Prop :=
  (isO h a0 0) ∧ wX9_blockState a0 a1 h (fun r2 h1 => (isA h1 a2 1) ∧ (nZ ≤ a2) ∧ (vp_in 0 (ln h1 a2)) ∧ ∀ h6, h6 = uL h1 a2 0.toNatClampNeg r2.toInt64 → K 0 h6) T
def wL_trainAt (a0 : Nat) (a1 : Int32) (a2 : Nat) (h : AH) (K : Int32 → AH → Prop) : Prop :=
  (isO h a0 0) ∧ wX9_trainAt a0 a1 h (fun r2 h1 => (isA h1 a2 1) ∧ (nZ ≤ a2) ∧ (vp_in 0 (ln h1 a2)) ∧ ∀ h6, h6 = uL h1 a2 0.toNatClampNeg r2.toInt64 → K 0 h6) T
def wL_liesLeft_J15 (K : Int32 → AH → Prop)  (y0 : Nat) (y1 : Int32) (y2 : Int64) (h : AH) : Prop :=
  (isA h y0 1) ∧ (nZ ≤ y0) ∧ (vp_in y1 (ln h y0)) ∧ ∀ h7, h7 = uL h y0 y1.toNatClampNeg y2 → K 0 h7
def wL_liesLeft (a0 : Nat) (a1 : Int32) (a2 : Nat) (h : AH) (K : Int32 → AH → Prop) : Prop :=
  (isO h a0 0) ∧ wX9_liesLeft a0 a1 h (fun r2 h1 => ((r2 = 0 → (wL_liesLeft_J15 K a2 0 0 h1)) ∧ (¬ r2 = 0 → (wL_liesLeft_J15 K a2 0 1 h1)))) T
def wL_lockedBy (a0 : Nat) (a1 : Int32) (a2 : Nat) (h : AH) (K : Int32 → AH → Prop) : Prop :=
  (isO h a0 0) ∧ wX9_lockedBy a0 a1 h (fun r2 h1 => (isA h1 a2 1) ∧ (nZ ≤ a2) ∧ (vp_in 0 (ln h1 a2)) ∧ ∀ h6, h6 = uL h1 a2 0.toNatClampNeg r2.toInt64 → K 0 h6) T
def wL_routeLength (a0 : Nat) (a1 : Int32) (a2 : Int32) (a3 : Nat) (h : AH) (K : Int32 → AH → Prop) : Prop :=
  (isO h a0 0) ∧ wX9_routeLength a0 a1 a2 h (fun r2 h1 => (isA h1 a3 1) ∧ (nZ ≤ a3) ∧ (vp_in 0 (ln h1 a3)) ∧ ∀ h6, h6 = uL h1 a3 0.toNatClampNeg r2.toInt64 → K 0 h6) T
def wL_routeLengthByPaths (a0 : Nat) (a1 : Int32) (a2 : Int32) (a3 : Nat) (h : AH) (K : Int32 → AH → Prop) : Prop :=
  (isO h a0 0) ∧ wX9_routeLengthByPaths a0 a1 a2 h (fun r2 h1 => (isA h1 a3 1) ∧ (nZ ≤ a3) ∧ (vp_in 0 (ln h1 a3)) ∧ ∀ h6, h6 = uL h1 a3 0.toNatClampNeg r2.toInt64 → K 0 h6) T
def wL_routeBlock (a0 : Nat) (a1 : Int32) (a2 : Int32) (a3 : Int32) (a4 : Nat) (h : AH) (K : Int32 → AH → Prop) : Prop :=
  (isO h a0 0) ∧ wX9_routeBlock a0 a1 a2 a3 h (fun r2 h1 => (isA h1 a4 1) ∧ (nZ ≤ a4) ∧ (vp_in 0 (ln h1 a4)) ∧ ∀ h6, h6 = uL h1 a4 0.toNatClampNeg r2.toInt64 → K 0 h6) T
def wL_paths (a0 : Nat) (a1 : Int32) (a2 : Int32) (a3 : Nat) (h : AH) (K : Int32 → AH → Prop) : Prop :=
  (isO h a0 0) ∧ wX9_paths a0 a1 a2 h (fun r2 h1 => (isA h1 a3 1) ∧ (nZ ≤ a3) ∧ (vp_in 0 (ln h1 a3)) ∧ ∀ h6, h6 = uL h1 a3 0.toNatClampNeg r2.toInt64 → K 0 h6) T
def wL_blockOf (a0 : Nat) (a1 : Int32) (a2 : Nat) (h : AH) (K : Int32 → AH → Prop) : Prop :=
  (isO h a0 0) ∧ wX9_blockOf a0 a1 h (fun r2 h1 => (isA h1 a2 1) ∧ (nZ ≤ a2) ∧ (vp_in 0 (ln h1 a2)) ∧ ∀ h6, h6 = uL h1 a2 0.toNatClampNeg r2.toInt64 → K 0 h6) T
def wL_destination (a0 : Nat) (a1 : Int32) (a2 : Nat) (h : AH) (K : Int32 → AH → Prop) : Prop :=
  (isO h a0 0) ∧ wX9_destination a0 a1 h (fun r2 h1 => (isA h1 a2 1) ∧ (nZ ≤ a2) ∧ (vp_in 0 (ln h1 a2)) ∧ ∀ h6, h6 = uL h1 a2 0.toNatClampNeg r2.toInt64 → K 0 h6) T
def wL_hasRoute_J15 (K : Int32 → AH → Prop)  (y0 : Nat) (y1 : Int32) (y2 : Int64) (h : AH) : Prop :=
  (isA h y0 1) ∧ (nZ ≤ y0) ∧ (vp_in y1 (ln h y0)) ∧ ∀ h7, h7 = uL h y0 y1.toNatClampNeg y2 → K 0 h7
def wL_hasRoute (a0 : Nat) (a1 : Int32) (a2 : Nat) (h : AH) (K : Int32 → AH → Prop) : Prop :=
  (isO h a0 0) ∧ wX9_hasRoute a0 a1 h (fun r2 h1 => ((r2 = 0 → (wL_hasRoute_J15 K a2 0 0 h1)) ∧ (¬ r2 = 0 → (wL_hasRoute_J15 K a2 0 1 h1)))) T
def wL_isClear_J15 (K : Int32 → AH → Prop)  (y0 : Nat) (y1 : Int32) (y2 : Int64) (h : AH) : Prop :=
  (isA h y0 1) ∧ (nZ ≤ y0) ∧ (vp_in y1 (ln h y0)) ∧ ∀ h7, h7 = uL h y0 y1.toNatClampNeg y2 → K 0 h7
def wL_isClear (a0 : Nat) (a1 : Int32) (a2 : Nat) (h : AH) (K : Int32 → AH → Prop) : Prop :=
  (isO h a0 0) ∧ wX9_isClear a0 a1 h (fun r2 h1 => ((r2 = 0 → (wL_isClear_J15 K a2 0 0 h1)) ∧ (¬ r2 = 0 → (wL_isClear_J15 K a2 0 1 h1)))) T
def wL_minutesUntilNext (a0 : Nat) (a1 : Int32) (a2 : Nat) (h : AH) (K : Int32 → AH → Prop) : Prop :=
  (isO h a0 0) ∧ wX9_minutesUntilNext a0 a1 h (fun r2 h1 => (isA h1 a2 1) ∧ (nZ ≤ a2) ∧ (vp_in 0 (ln h1 a2)) ∧ ∀ h6, h6 = uL h1 a2 0.toNatClampNeg r2.toInt64 → K 0 h6) T
def wL_minutesUntilArrival (a0 : Nat) (a1 : Int32) (a2 : Nat) (h : AH) (K : Int32 → AH → Prop) : Prop :=
  (isO h a0 0) ∧ wX9_minutesUntilArrival a0 a1 h (fun r2 h1 => (isA h1 a2 1) ∧ (nZ ≤ a2) ∧ (vp_in 0 (ln h1 a2)) ∧ ∀ h6, h6 = uL h1 a2 0.toNatClampNeg r2.toInt64 → K 0 h6) T
def wL_minutesUntilArrivalByPassing (a0 : Nat) (a1 : Int32) (a2 : Nat) (h : AH) (K : Int32 → AH → Prop) : Prop :=
  (isO h a0 0) ∧ wX9_minutesUntilArrivalByPassing a0 a1 h (fun r2 h1 => (isA h1 a2 1) ∧ (nZ ≤ a2) ∧ (vp_in 0 (ln h1 a2)) ∧ ∀ h6, h6 = uL h1 a2 0.toNatClampNeg r2.toInt64 → K 0 h6) T
def wL_delay (a0 : Nat) (a1 : Int32) (a2 : Nat) (h : AH) (K : Int32 → AH → Prop) : Prop :=
  (isO h a0 0) ∧ wX9_delay a0 a1 h (fun r2 h1 => (isA h1 a2 1) ∧ (nZ ≤ a2) ∧ (vp_in 0 (ln h1 a2)) ∧ ∀ h6, h6 = uL h1 a2 0.toNatClampNeg r2.toInt64 → K 0 h6) T
def wL_queued (a0 : Nat) (a1 : Int32) (a2 : Nat) (h : AH) (K : Int32 → AH → Prop) : Prop :=
  (isO h a0 0) ∧ wX9_queued a0 a1 h (fun r2 h1 => (isA h1 a2 1) ∧ (nZ ≤ a2) ∧ (vp_in 0 (ln h1 a2)) ∧ ∀ h6, h6 = uL h1 a2 0.toNatClampNeg r2.toInt64 → K 0 h6) T
def wL_waitsFor_J16 (K : Int32 → AH → Prop)  (y0 : Nat) (y1 : Int32) (y2 : Int64) (h : AH) : Prop :=
  (isA h y0 1) ∧ (nZ ≤ y0) ∧ (vp_in y1 (ln h y0)) ∧ ∀ h7, h7 = uL h y0 y1.toNatClampNeg y2 → K 0 h7
def wL_waitsFor (a0 : Nat) (a1 : Int32) (a2 : Int32) (a3 : Nat) (h : AH) (K : Int32 → AH → Prop) : Prop :=
  (isO h a0 0) ∧ wX9_waitsFor a0 a1 a2 h (fun r2 h1 => ((r2 = 0 → (wL_waitsFor_J16 K a3 0 0 h1)) ∧ (¬ r2 = 0 → (wL_waitsFor_J16 K a3 0 1 h1)))) T
def wL_conflict_J16 (K : Int32 → AH → Prop)  (y0 : Nat) (y1 : Int32) (y2 : Int64) (h : AH) : Prop :=
  (isA h y0 1) ∧ (nZ ≤ y0) ∧ (vp_in y1 (ln h y0)) ∧ ∀ h7, h7 = uL h y0 y1.toNatClampNeg y2 → K 0 h7
def wL_conflict (a0 : Nat) (a1 : Int32) (a2 : Int32) (a3 : Nat) (h : AH) (K : Int32 → AH → Prop) : Prop :=
  (isO h a0 0) ∧ wX9_conflict a0 a1 a2 h (fun r2 h1 => ((r2 = 0 → (wL_conflict_J16 K a3 0 0 h1)) ∧ (¬ r2 = 0 → (wL_conflict_J16 K a3 0 1 h1)))) T
def wL_refusalReason (a0 : Nat) (a1 : Nat) (h : AH) (K : Int32 → AH → Prop) : Prop :=
  (isO h a0 0) ∧ wX9_refusalReason a0 h (fun r2 h1 => (isA h1 a1 1) ∧ (nZ ≤ a1) ∧ (vp_in 0 (ln h1 a1)) ∧ ∀ h6, h6 = uL h1 a1 0.toNatClampNeg r2.toInt64 → K 0 h6) T
def wL_refusalBlock (a0 : Nat) (a1 : Nat) (h : AH) (K : Int32 → AH → Prop) : Prop :=
  (isO h a0 0) ∧ wX9_refusalBlock a0 h (fun r2 h1 => (isA h1 a1 1) ∧ (nZ ≤ a1) ∧ (vp_in 0 (ln h1 a1)) ∧ ∀ h6, h6 = uL h1 a1 0.toNatClampNeg r2.toInt64 → K 0 h6) T
def wL_meanDelay (a0 : Nat) (a1 : Nat) (h : AH) (K : Int32 → AH → Prop) : Prop :=
  (isO h a0 0) ∧ wX9_meanDelay a0 h (fun r2 h1 => (isA h1 a1 2) ∧ (nZ ≤ a1) ∧ (vp_in 0 (ln h1 a1)) ∧ ∀ h6, h6 = uL h1 a1 0.toNatClampNeg r2.toInt64 → K 0 h6) T
def wL_usedShare (a0 : Nat) (a1 : Nat) (h : AH) (K : Int32 → AH → Prop) : Prop :=
  (isO h a0 0) ∧ wX9_usedShare a0 h (fun r2 h1 => (vf_n64 (FP.f2d r2)) ∧ (isA h1 a1 2) ∧ (nZ ≤ a1) ∧ (vp_in 0 (ln h1 a1)) ∧ ∀ h7, h7 = uL h1 a1 0.toNatClampNeg ((FP.f2d r2).toInt64) → K 0 h7) T
def wL_writeTrain (a0 : Nat) (a1 : Int32) (a2 : Nat) (h : AH) (K : Int32 → AH → Prop) : Prop :=
  (isO h a0 0) ∧ wX9_writeTrain a0 a1 h (fun r2 h1 => (isA h1 a2 1) ∧ (nZ ≤ a2) ∧ (vp_in 0 (ln h1 a2)) ∧ ∀ h6, h6 = uL h1 a2 0.toNatClampNeg r2.toInt64 → K 0 h6) T
def wL_charAt (a0 : Nat) (a1 : Int32) (a2 : Nat) (h : AH) (K : Int32 → AH → Prop) : Prop :=
  (isO h a0 0) ∧ wX9_charAt a0 a1 h (fun r2 h1 => (isA h1 a2 1) ∧ (nZ ≤ a2) ∧ (vp_in 0 (ln h1 a2)) ∧ ∀ h6, h6 = uL h1 a2 0.toNatClampNeg r2.toInt64 → K 0 h6) T
def wL_type (a0 : Nat) (a1 : Int32) (a2 : Nat) (h : AH) (K : Int32 → AH → Prop) : Prop :=
  (isO h a0 0) ∧ wX9_type a0 a1 h (fun r2 h1 => (isA h1 a2 1) ∧ (nZ ≤ a2) ∧ (vp_in 0 (ln h1 a2)) ∧ ∀ h6, h6 = uL h1 a2 0.toNatClampNeg r2.toInt64 → K 0 h6) T
def wL_run (a0 : Nat) (a1 : Nat) (h : AH) (K : Int32 → AH → Prop) : Prop :=
  (isO h a0 0) ∧ wX9_run a0 h (fun r2 h1 => (isA h1 a1 1) ∧ (nZ ≤ a1) ∧ (vp_in 0 (ln h1 a1)) ∧ ∀ h6, h6 = uL h1 a1 0.toNatClampNeg r2.toInt64 → K 0 h6) T
def wL_errorPosition (a0 : Nat) (a1 : Nat) (h : AH) (K : Int32 → AH → Prop) : Prop :=
  (isO h a0 0) ∧ wX9_errorPosition a0 h (fun r2 h1 => (isA h1 a1 1) ∧ (nZ ≤ a1) ∧ (vp_in 0 (ln h1 a1)) ∧ ∀ h6, h6 = uL h1 a1 0.toNatClampNeg r2.toInt64 → K 0 h6) T
def wL_failedCommand (a0 : Nat) (a1 : Nat) (h : AH) (K : Int32 → AH → Prop) : Prop :=
  (isO h a0 0) ∧ wX9_failedCommand a0 h (fun r2 h1 => (isA h1 a1 1) ∧ (nZ ≤ a1) ∧ (vp_in 0 (ln h1 a1)) ∧ ∀ h6, h6 = uL h1 a1 0.toNatClampNeg r2.toInt64 → K 0 h6) T
def wL_undo (a0 : Nat) (a1 : Nat) (h : AH) (K : Int32 → AH → Prop) : Prop :=
  (isO h a0 0) ∧ wX9_undo a0 h (fun r2 h1 => (isA h1 a1 1) ∧ (nZ ≤ a1) ∧ (vp_in 0 (ln h1 a1)) ∧ ∀ h6, h6 = uL h1 a1 0.toNatClampNeg r2.toInt64 → K 0 h6) T
def wL_restore (a0 : Nat) (a1 : Nat) (h : AH) (K : Int32 → AH → Prop) : Prop :=
  (isO h a0 0) ∧ wX9_restore a0 h (fun r2 h1 => (isA h1 a1 1) ∧ (nZ ≤ a1) ∧ (vp_in 0 (ln h1 a1)) ∧ ∀ h6, h6 = uL h1 a1 0.toNatClampNeg r2.toInt64 → K 0 h6) T
def wL_law_J650 (K : Int32 → AH → Prop) (T : String → AH → Prop) (c28 : Nat → Nat → Nat → Nat → Nat → Int32 → AH → Prop) (x0 : Nat) (x1 : Nat) (x2 : Nat) (x3 : Nat) (x4 : Nat) (x5 : Int32) (y0 : Int64) (y1 : Int64) (h : AH) : Prop :=
  (((lg_cmp y0 y1) = 0 → c28 x0 x1 x2 x3 x4 (x5 + 4) h) ∧ (¬ (lg_cmp y0 y1) = 0 → K 0 h))
def wL_law_J1130 (K : Int32 → AH → Prop) (T : String → AH → Prop) (c28 : Nat → Nat → Nat → Nat → Nat → Int32 → AH → Prop) (x0 : Nat) (x1 : Nat) (x2 : Nat) (x3 : Nat) (x4 : Nat) (x5 : Int32) (y0 : Int64) (y1 : Int64) (h : AH) : Prop :=
  (((lg_cmp y0 y1) = 0 → c28 x0 x1 x2 x3 x4 (x5 + 4) h) ∧ (¬ (lg_cmp y0 y1) = 0 → K 0 h))
def wL_law_J1683 (K : Int32 → AH → Prop) (T : String → AH → Prop) (c28 : Nat → Nat → Nat → Nat → Nat → Int32 → AH → Prop) (x0 : Nat) (x1 : Nat) (x2 : Nat) (x3 : Nat) (x4 : Nat) (x5 : Int32) (y0 : Int64) (y1 : Int64) (h : AH) : Prop :=
  (((lg_cmp y0 y1) = 0 → c28 x0 x1 x2 x3 x4 (x5 + 4) h) ∧ (¬ (lg_cmp y0 y1) = 0 → K 0 h))
def wL_law_J1746 (K : Int32 → AH → Prop) (T : String → AH → Prop) (c28 : Nat → Nat → Nat → Nat → Nat → Int32 → AH → Prop) (x0 : Nat) (x1 : Nat) (x2 : Nat) (x3 : Nat) (x4 : Nat) (x5 : Int32) (y0 : Int64) (y1 : Int64) (h : AH) : Prop :=
  (((lg_cmp y0 y1) = 0 → c28 x0 x1 x2 x3 x4 (x5 + 4) h) ∧ (¬ (lg_cmp y0 y1) = 0 → K 0 h))
def wL_law_J2101 (K : Int32 → AH → Prop) (T : String → AH → Prop) (c28 : Nat → Nat → Nat → Nat → Nat → Int32 → AH → Prop) (x0 : Nat) (x1 : Nat) (x2 : Nat) (x3 : Nat) (x4 : Nat) (x5 : Int32) (y0 : Int64) (y1 : Int64) (h : AH) : Prop :=
  (((lg_cmp y0 y1) = 0 → c28 x0 x1 x2 x3 x4 (x5 + 4) h) ∧ (¬ (lg_cmp y0 y1) = 0 → K 0 h))
def wL_law_J2202 (K : Int32 → AH → Prop) (T : String → AH → Prop) (c28 : Nat → Nat → Nat → Nat → Nat → Int32 → AH → Prop) (x0 : Nat) (x1 : Nat) (x2 : Nat) (x3 : Nat) (x4 : Nat) (x5 : Int32) (y0 : Int64) (y1 : Int64) (h : AH) : Prop :=
  (((lg_cmp y0 y1) = 0 → c28 x0 x1 x2 x3 x4 (x5 + 4) h) ∧ (¬ (lg_cmp y0 y1) = 0 → K 0 h))
def wL_law_L28 (K : Int32 → AH → Prop) (T : String → AH → Prop)   : Nat → Nat → Nat → Nat → Nat → Nat → Int32 → AH → Prop
  | 0 => fun _ _ _ _ _ _ _ => False
  | n + 1 => fun x0 x1 x2 x3 x4 x5 h =>
  (isA h x0 0) ∧ (((nI (ln h x0) - 4) < x5 → K 1 h) ∧ (¬ (nI (ln h x0) - 4) < x5 → (vp_in x5 (ln h x0)) ∧ (((mI h x0 x5.toNatClampNeg &&& 63) = 0 → (vp_in (x5 + 1) (ln h x0)) ∧ wL_addBlock x1 (mI h x0 (x5 + 1).toNatClampNeg) x3 h (fun r14 h13 => (isA h13 x0 0) ∧ (vp_in (x5 + 1) (ln h13 x0)) ∧ (isO h13 x2 7) ∧ wX10_addBlock x2 (mI h13 x0 (x5 + 1).toNatClampNeg) h13 (fun r18 h17 => (isO h17 x2 7) ∧ wX10_thrown x2 h17 (fun r20 h19 => ((r20 = r14 → ((¬ r14 = 0 → wL_law_L28 K T   n x0 x1 x2 x3 x4 (x5 + 4) h19) ∧ (r14 = 0 → (isA h19 x3 1) ∧ (vp_in 0 (ln h19 x3)) ∧ (((lg_cmp (mL h19 x3 0.toNatClampNeg) r18.toInt64) = 0 → wL_law_L28 K T   n x0 x1 x2 x3 x4 (x5 + 4) h19) ∧ (¬ (lg_cmp (mL h19 x3 0.toNatClampNeg) r18.toInt64) = 0 → K 0 h19))))) ∧ (¬ r20 = r14 → K 0 h19)))))) ∧ ((mI h x0 x5.toNatClampNeg &&& 63) = 1 → (vp_in (x5 + 1) (ln h x0)) ∧ (vp_in (x5 + 2) (ln h x0)) ∧ (vp_in (x5 + 3) (ln h x0)) ∧ wL_addPoint x1 (mI h x0 (x5 + 1).toNatClampNeg) (mI h x0 (x5 + 2).toNatClampNeg) (mI h x0 (x5 + 3).toNatClampNeg) x3 h (fun r32 h31 => (isA h31 x0 0) ∧ (vp_in (x5 + 1) (ln h31 x0)) ∧ (vp_in (x5 + 2) (ln h31 x0)) ∧ (vp_in (x5 + 3) (ln h31 x0)) ∧ (isO h31 x2 7) ∧ wX10_addPoint x2 (mI h31 x0 (x5 + 1).toNatClampNeg) (mI h31 x0 (x5 + 2).toNatClampNeg) (mI h31 x0 (x5 + 3).toNatClampNeg) h31 (fun r38 h37 => (isO h37 x2 7) ∧ wX10_thrown x2 h37 (fun r40 h39 => ((r40 = r32 → ((¬ r32 = 0 → wL_law_L28 K T   n x0 x1 x2 x3 x4 (x5 + 4) h39) ∧ (r32 = 0 → (isA h39 x3 1) ∧ (vp_in 0 (ln h39 x3)) ∧ (((lg_cmp (mL h39 x3 0.toNatClampNeg) r38.toInt64) = 0 → wL_law_L28 K T   n x0 x1 x2 x3 x4 (x5 + 4) h39) ∧ (¬ (lg_cmp (mL h39 x3 0.toNatClampNeg) r38.toInt64) = 0 → K 0 h39))))) ∧ (¬ r40 = r32 → K 0 h39)))))) ∧ ((mI h x0 x5.toNatClampNeg &&& 63) = 2 → (vp_in (x5 + 1) (ln h x0)) ∧ (vp_in (x5 + 2) (ln h x0)) ∧ wL_addLink x1 (mI h x0 (x5 + 1).toNatClampNeg) (mI h x0 (x5 + 2).toNatClampNeg) x3 h (fun r51 h50 => (isA h50 x0 0) ∧ (vp_in (x5 + 1) (ln h50 x0)) ∧ (vp_in (x5 + 2) (ln h50 x0)) ∧ (isO h50 x2 7) ∧ wX10_addLink x2 (mI h50 x0 (x5 + 1).toNatClampNeg) (mI h50 x0 (x5 + 2).toNatClampNeg) h50 (fun r56 h55 => (isO h55 x2 7) ∧ wX10_thrown x2 h55 (fun r58 h57 => ((r58 = r51 → ((¬ r51 = 0 → wL_law_L28 K T   n x0 x1 x2 x3 x4 (x5 + 4) h57) ∧ (r51 = 0 → (isA h57 x3 1) ∧ (vp_in 0 (ln h57 x3)) ∧ (((lg_cmp (mL h57 x3 0.toNatClampNeg) r56.toInt64) = 0 → wL_law_L28 K T   n x0 x1 x2 x3 x4 (x5 + 4) h57) ∧ (¬ (lg_cmp (mL h57 x3 0.toNatClampNeg) r56.toInt64) = 0 → K 0 h57))))) ∧ (¬ r58 = r51 → K 0 h57)))))) ∧ ((mI h x0 x5.toNatClampNeg &&& 63) = 3 → (vp_in (x5 + 1) (ln h x0)) ∧ wL_shut x1 (mI h x0 (x5 + 1).toNatClampNeg) x3 h (fun r68 h67 => (isA h67 x0 0) ∧ (vp_in (x5 + 1) (ln h67 x0)) ∧ (isO h67 x2 7) ∧ wX10_shut x2 (mI h67 x0 (x5 + 1).toNatClampNeg) h67 (fun r72 h71 => (isO h71 x2 7) ∧ wX10_thrown x2 h71 (fun r74 h73 => ((r74 = r68 → ((¬ r68 = 0 → wL_law_L28 K T   n x0 x1 x2 x3 x4 (x5 + 4) h73) ∧ (r68 = 0 → (isA h73 x3 1) ∧ (vp_in 0 (ln h73 x3)) ∧ (((lg_cmp (mL h73 x3 0.toNatClampNeg) r72.toInt64) = 0 → wL_law_L28 K T   n x0 x1 x2 x3 x4 (x5 + 4) h73) ∧ (¬ (lg_cmp (mL h73 x3 0.toNatClampNeg) r72.toInt64) = 0 → K 0 h73))))) ∧ (¬ r74 = r68 → K 0 h73)))))) ∧ ((mI h x0 x5.toNatClampNeg &&& 63) = 4 → (vp_in (x5 + 1) (ln h x0)) ∧ wL_open x1 (mI h x0 (x5 + 1).toNatClampNeg) x3 h (fun r84 h83 => (isA h83 x0 0) ∧ (vp_in (x5 + 1) (ln h83 x0)) ∧ (isO h83 x2 7) ∧ wX10_open x2 (mI h83 x0 (x5 + 1).toNatClampNeg) h83 (fun r88 h87 => (isO h87 x2 7) ∧ wX10_thrown x2 h87 (fun r90 h89 => ((r90 = r84 → ((¬ r84 = 0 → wL_law_L28 K T   n x0 x1 x2 x3 x4 (x5 + 4) h89) ∧ (r84 = 0 → (isA h89 x3 1) ∧ (vp_in 0 (ln h89 x3)) ∧ (((lg_cmp (mL h89 x3 0.toNatClampNeg) r88.toInt64) = 0 → wL_law_L28 K T   n x0 x1 x2 x3 x4 (x5 + 4) h89) ∧ (¬ (lg_cmp (mL h89 x3 0.toNatClampNeg) r88.toInt64) = 0 → K 0 h89))))) ∧ (¬ r90 = r84 → K 0 h89)))))) ∧ ((mI h x0 x5.toNatClampNeg &&& 63) = 5 → (vp_in (x5 + 1) (ln h x0)) ∧ wL_throwPoint x1 (mI h x0 (x5 + 1).toNatClampNeg) x3 h (fun r100 h99 => (isA h99 x0 0) ∧ (vp_in (x5 + 1) (ln h99 x0)) ∧ (isO h99 x2 7) ∧ wX10_throwPoint x2 (mI h99 x0 (x5 + 1).toNatClampNeg) h99 (fun r104 h103 => (isO h103 x2 7) ∧ wX10_thrown x2 h103 (fun r106 h105 => ((r106 = r100 → ((¬ r100 = 0 → wL_law_L28 K T   n x0 x1 x2 x3 x4 (x5 + 4) h105) ∧ (r100 = 0 → (isA h105 x3 1) ∧ (vp_in 0 (ln h105 x3)) ∧ ((r104 = 0 → (wL_law_J650 K T (wL_law_L28 K T   n) x0 x1 x2 x3 x4 x5 (mL h105 x3 0.toNatClampNeg) 0 h105)) ∧ (¬ r104 = 0 → (wL_law_J650 K T (wL_law_L28 K T   n) x0 x1 x2 x3 x4 x5 (mL h105 x3 0.toNatClampNeg) 1 h105)))))) ∧ (¬ r106 = r100 → K 0 h105)))))) ∧ ((mI h x0 x5.toNatClampNeg &&& 63) = 6 → (vp_in (x5 + 1) (ln h x0)) ∧ (vp_in (x5 + 2) (ln h x0)) ∧ wL_addTrain x1 (mI h x0 (x5 + 1).toNatClampNeg) (mI h x0 (x5 + 2).toNatClampNeg) x3 h (fun r118 h117 => (isA h117 x0 0) ∧ (vp_in (x5 + 1) (ln h117 x0)) ∧ (vp_in (x5 + 2) (ln h117 x0)) ∧ (isO h117 x2 7) ∧ wX10_addTrain x2 (mI h117 x0 (x5 + 1).toNatClampNeg) (mI h117 x0 (x5 + 2).toNatClampNeg) h117 (fun r123 h122 => (isO h122 x2 7) ∧ wX10_thrown x2 h122 (fun r125 h124 => ((r125 = r118 → ((¬ r118 = 0 → wL_law_L28 K T   n x0 x1 x2 x3 x4 (x5 + 4) h124) ∧ (r118 = 0 → (isA h124 x3 1) ∧ (vp_in 0 (ln h124 x3)) ∧ (((lg_cmp (mL h124 x3 0.toNatClampNeg) r123.toInt64) = 0 → wL_law_L28 K T   n x0 x1 x2 x3 x4 (x5 + 4) h124) ∧ (¬ (lg_cmp (mL h124 x3 0.toNatClampNeg) r123.toInt64) = 0 → K 0 h124))))) ∧ (¬ r125 = r118 → K 0 h124)))))) ∧ ((mI h x0 x5.toNatClampNeg &&& 63) = 7 → (vp_in (x5 + 1) (ln h x0)) ∧ wL_setRoute x1 (mI h x0 (x5 + 1).toNatClampNeg) x3 h (fun r135 h134 => (isA h134 x0 0) ∧ (vp_in (x5 + 1) (ln h134 x0)) ∧ (isO h134 x2 7) ∧ wX10_setRoute x2 (mI h134 x0 (x5 + 1).toNatClampNeg) h134 (fun r139 h138 => (isO h138 x2 7) ∧ wX10_thrown x2 h138 (fun r141 h140 => ((r141 = r135 → ((¬ r135 = 0 → wL_law_L28 K T   n x0 x1 x2 x3 x4 (x5 + 4) h140) ∧ (r135 = 0 → (isA h140 x3 1) ∧ (vp_in 0 (ln h140 x3)) ∧ (((lg_cmp (mL h140 x3 0.toNatClampNeg) r139.toInt64) = 0 → wL_law_L28 K T   n x0 x1 x2 x3 x4 (x5 + 4) h140) ∧ (¬ (lg_cmp (mL h140 x3 0.toNatClampNeg) r139.toInt64) = 0 → K 0 h140))))) ∧ (¬ r141 = r135 → K 0 h140)))))) ∧ ((mI h x0 x5.toNatClampNeg &&& 63) = 8 → (vp_in (x5 + 1) (ln h x0)) ∧ wL_releaseRoute x1 (mI h x0 (x5 + 1).toNatClampNeg) x3 h (fun r151 h150 => (isA h150 x0 0) ∧ (vp_in (x5 + 1) (ln h150 x0)) ∧ (isO h150 x2 7) ∧ wX10_releaseRoute x2 (mI h150 x0 (x5 + 1).toNatClampNeg) h150 (fun r155 h154 => (isO h154 x2 7) ∧ wX10_thrown x2 h154 (fun r157 h156 => ((r157 = r151 → ((¬ r151 = 0 → wL_law_L28 K T   n x0 x1 x2 x3 x4 (x5 + 4) h156) ∧ (r151 = 0 → (isA h156 x3 1) ∧ (vp_in 0 (ln h156 x3)) ∧ (((lg_cmp (mL h156 x3 0.toNatClampNeg) r155.toInt64) = 0 → wL_law_L28 K T   n x0 x1 x2 x3 x4 (x5 + 4) h156) ∧ (¬ (lg_cmp (mL h156 x3 0.toNatClampNeg) r155.toInt64) = 0 → K 0 h156))))) ∧ (¬ r157 = r151 → K 0 h156)))))) ∧ ((mI h x0 x5.toNatClampNeg &&& 63) = 9 → (vp_in (x5 + 1) (ln h x0)) ∧ wL_pass x1 (mI h x0 (x5 + 1).toNatClampNeg) x3 h (fun r167 h166 => (isA h166 x0 0) ∧ (vp_in (x5 + 1) (ln h166 x0)) ∧ (isO h166 x2 7) ∧ wX10_pass x2 (mI h166 x0 (x5 + 1).toNatClampNeg) h166 (fun r171 h170 => (isO h170 x2 7) ∧ wX10_thrown x2 h170 (fun r173 h172 => ((r173 = r167 → ((¬ r167 = 0 → wL_law_L28 K T   n x0 x1 x2 x3 x4 (x5 + 4) h172) ∧ (r167 = 0 → (isA h172 x3 1) ∧ (vp_in 0 (ln h172 x3)) ∧ (((lg_cmp (mL h172 x3 0.toNatClampNeg) r171.toInt64) = 0 → wL_law_L28 K T   n x0 x1 x2 x3 x4 (x5 + 4) h172) ∧ (¬ (lg_cmp (mL h172 x3 0.toNatClampNeg) r171.toInt64) = 0 → K 0 h172))))) ∧ (¬ r173 = r167 → K 0 h172)))))) ∧ ((mI h x0 x5.toNatClampNeg &&& 63) = 10 → (isO h x1 0) ∧ wX9_blocks x1 h (fun r182 h181 => (isO h181 x2 7) ∧ wX10_blocks x2 h181 (fun r184 h183 => ((r182 = r184 → wL_law_L28 K T   n x0 x1 x2 x3 x4 (x5 + 4) h183) ∧ (¬ r182 = r184 → K 0 h183))))) ∧ ((mI h x0 x5.toNatClampNeg &&& 63) = 11 → (vp_in (x5 + 1) (ln h x0)) ∧ wL_blockLength x1 (mI h x0 (x5 + 1).toNatClampNeg) x3 h (fun r190 h189 => (isA h189 x0 0) ∧ (vp_in (x5 + 1) (ln h189 x0)) ∧ (isO h189 x2 7) ∧ wX10_blockLength x2 (mI h189 x0 (x5 + 1).toNatClampNeg) h189 (fun r194 h193 => (isO h193 x2 7) ∧ wX10_thrown x2 h193 (fun r196 h195 => ((r196 = r190 → ((¬ r190 = 0 → wL_law_L28 K T   n x0 x1 x2 x3 x4 (x5 + 4) h195) ∧ (r190 = 0 → (isA h195 x3 1) ∧ (vp_in 0 (ln h195 x3)) ∧ (((lg_cmp (mL h195 x3 0.toNatClampNeg) r194.toInt64) = 0 → wL_law_L28 K T   n x0 x1 x2 x3 x4 (x5 + 4) h195) ∧ (¬ (lg_cmp (mL h195 x3 0.toNatClampNeg) r194.toInt64) = 0 → K 0 h195))))) ∧ (¬ r196 = r190 → K 0 h195)))))) ∧ ((mI h x0 x5.toNatClampNeg &&& 63) = 12 → (vp_in (x5 + 1) (ln h x0)) ∧ wL_blockState x1 (mI h x0 (x5 + 1).toNatClampNeg) x3 h (fun r206 h205 => (isA h205 x0 0) ∧ (vp_in (x5 + 1) (ln h205 x0)) ∧ (isO h205 x2 7) ∧ wX10_blockState x2 (mI h205 x0 (x5 + 1).toNatClampNeg) h205 (fun r210 h209 => (isO h209 x2 7) ∧ wX10_thrown x2 h209 (fun r212 h211 => ((r212 = r206 → ((¬ r206 = 0 → wL_law_L28 K T   n x0 x1 x2 x3 x4 (x5 + 4) h211) ∧ (r206 = 0 → (isA h211 x3 1) ∧ (vp_in 0 (ln h211 x3)) ∧ (((lg_cmp (mL h211 x3 0.toNatClampNeg) r210.toInt64) = 0 → wL_law_L28 K T   n x0 x1 x2 x3 x4 (x5 + 4) h211) ∧ (¬ (lg_cmp (mL h211 x3 0.toNatClampNeg) r210.toInt64) = 0 → K 0 h211))))) ∧ (¬ r212 = r206 → K 0 h211)))))) ∧ ((mI h x0 x5.toNatClampNeg &&& 63) = 13 → (vp_in (x5 + 1) (ln h x0)) ∧ wL_trainAt x1 (mI h x0 (x5 + 1).toNatClampNeg) x3 h (fun r222 h221 => (isA h221 x0 0) ∧ (vp_in (x5 + 1) (ln h221 x0)) ∧ (isO h221 x2 7) ∧ wX10_trainAt x2 (mI h221 x0 (x5 + 1).toNatClampNeg) h221 (fun r226 h225 => (isO h225 x2 7) ∧ wX10_thrown x2 h225 (fun r228 h227 => ((r228 = r222 → ((¬ r222 = 0 → wL_law_L28 K T   n x0 x1 x2 x3 x4 (x5 + 4) h227) ∧ (r222 = 0 → (isA h227 x3 1) ∧ (vp_in 0 (ln h227 x3)) ∧ (((lg_cmp (mL h227 x3 0.toNatClampNeg) r226.toInt64) = 0 → wL_law_L28 K T   n x0 x1 x2 x3 x4 (x5 + 4) h227) ∧ (¬ (lg_cmp (mL h227 x3 0.toNatClampNeg) r226.toInt64) = 0 → K 0 h227))))) ∧ (¬ r228 = r222 → K 0 h227)))))) ∧ ((mI h x0 x5.toNatClampNeg &&& 63) = 14 → (vp_in (x5 + 1) (ln h x0)) ∧ wL_liesLeft x1 (mI h x0 (x5 + 1).toNatClampNeg) x3 h (fun r238 h237 => (isA h237 x0 0) ∧ (vp_in (x5 + 1) (ln h237 x0)) ∧ (isO h237 x2 7) ∧ wX10_liesLeft x2 (mI h237 x0 (x5 + 1).toNatClampNeg) h237 (fun r242 h241 => (isO h241 x2 7) ∧ wX10_thrown x2 h241 (fun r244 h243 => ((r244 = r238 → ((¬ r238 = 0 → wL_law_L28 K T   n x0 x1 x2 x3 x4 (x5 + 4) h243) ∧ (r238 = 0 → (isA h243 x3 1) ∧ (vp_in 0 (ln h243 x3)) ∧ ((r242 = 0 → (wL_law_J1130 K T (wL_law_L28 K T   n) x0 x1 x2 x3 x4 x5 (mL h243 x3 0.toNatClampNeg) 0 h243)) ∧ (¬ r242 = 0 → (wL_law_J1130 K T (wL_law_L28 K T   n) x0 x1 x2 x3 x4 x5 (mL h243 x3 0.toNatClampNeg) 1 h243)))))) ∧ (¬ r244 = r238 → K 0 h243)))))) ∧ ((mI h x0 x5.toNatClampNeg &&& 63) = 15 → (vp_in (x5 + 1) (ln h x0)) ∧ wL_lockedBy x1 (mI h x0 (x5 + 1).toNatClampNeg) x3 h (fun r255 h254 => (isA h254 x0 0) ∧ (vp_in (x5 + 1) (ln h254 x0)) ∧ (isO h254 x2 7) ∧ wX10_lockedBy x2 (mI h254 x0 (x5 + 1).toNatClampNeg) h254 (fun r259 h258 => (isO h258 x2 7) ∧ wX10_thrown x2 h258 (fun r261 h260 => ((r261 = r255 → ((¬ r255 = 0 → wL_law_L28 K T   n x0 x1 x2 x3 x4 (x5 + 4) h260) ∧ (r255 = 0 → (isA h260 x3 1) ∧ (vp_in 0 (ln h260 x3)) ∧ (((lg_cmp (mL h260 x3 0.toNatClampNeg) r259.toInt64) = 0 → wL_law_L28 K T   n x0 x1 x2 x3 x4 (x5 + 4) h260) ∧ (¬ (lg_cmp (mL h260 x3 0.toNatClampNeg) r259.toInt64) = 0 → K 0 h260))))) ∧ (¬ r261 = r255 → K 0 h260)))))) ∧ ((mI h x0 x5.toNatClampNeg &&& 63) = 16 → (vp_in (x5 + 1) (ln h x0)) ∧ (vp_in (x5 + 2) (ln h x0)) ∧ wL_routeLength x1 (mI h x0 (x5 + 1).toNatClampNeg) (mI h x0 (x5 + 2).toNatClampNeg) x3 h (fun r272 h271 => (isA h271 x0 0) ∧ (vp_in (x5 + 1) (ln h271 x0)) ∧ (vp_in (x5 + 2) (ln h271 x0)) ∧ (isO h271 x2 7) ∧ wX10_routeLength x2 (mI h271 x0 (x5 + 1).toNatClampNeg) (mI h271 x0 (x5 + 2).toNatClampNeg) h271 (fun r277 h276 => (isO h276 x2 7) ∧ wX10_thrown x2 h276 (fun r279 h278 => ((r279 = r272 → ((¬ r272 = 0 → wL_law_L28 K T   n x0 x1 x2 x3 x4 (x5 + 4) h278) ∧ (r272 = 0 → (isA h278 x3 1) ∧ (vp_in 0 (ln h278 x3)) ∧ (((lg_cmp (mL h278 x3 0.toNatClampNeg) r277.toInt64) = 0 → wL_law_L28 K T   n x0 x1 x2 x3 x4 (x5 + 4) h278) ∧ (¬ (lg_cmp (mL h278 x3 0.toNatClampNeg) r277.toInt64) = 0 → K 0 h278))))) ∧ (¬ r279 = r272 → K 0 h278)))))) ∧ ((mI h x0 x5.toNatClampNeg &&& 63) = 17 → (vp_in (x5 + 1) (ln h x0)) ∧ (vp_in (x5 + 2) (ln h x0)) ∧ wL_routeLengthByPaths x1 (mI h x0 (x5 + 1).toNatClampNeg) (mI h x0 (x5 + 2).toNatClampNeg) x3 h (fun r290 h289 => (isA h289 x0 0) ∧ (vp_in (x5 + 1) (ln h289 x0)) ∧ (vp_in (x5 + 2) (ln h289 x0)) ∧ (isO h289 x2 7) ∧ wX10_routeLengthByPaths x2 (mI h289 x0 (x5 + 1).toNatClampNeg) (mI h289 x0 (x5 + 2).toNatClampNeg) h289 (fun r295 h294 => (isO h294 x2 7) ∧ wX10_thrown x2 h294 (fun r297 h296 => ((r297 = r290 → ((¬ r290 = 0 → wL_law_L28 K T   n x0 x1 x2 x3 x4 (x5 + 4) h296) ∧ (r290 = 0 → (isA h296 x3 1) ∧ (vp_in 0 (ln h296 x3)) ∧ (((lg_cmp (mL h296 x3 0.toNatClampNeg) r295.toInt64) = 0 → wL_law_L28 K T   n x0 x1 x2 x3 x4 (x5 + 4) h296) ∧ (¬ (lg_cmp (mL h296 x3 0.toNatClampNeg) r295.toInt64) = 0 → K 0 h296))))) ∧ (¬ r297 = r290 → K 0 h296)))))) ∧ ((mI h x0 x5.toNatClampNeg &&& 63) = 18 → (vp_in (x5 + 1) (ln h x0)) ∧ (vp_in (x5 + 2) (ln h x0)) ∧ (vp_in (x5 + 3) (ln h x0)) ∧ wL_routeBlock x1 (mI h x0 (x5 + 1).toNatClampNeg) (mI h x0 (x5 + 2).toNatClampNeg) (mI h x0 (x5 + 3).toNatClampNeg) x3 h (fun r309 h308 => (isA h308 x0 0) ∧ (vp_in (x5 + 1) (ln h308 x0)) ∧ (vp_in (x5 + 2) (ln h308 x0)) ∧ (vp_in (x5 + 3) (ln h308 x0)) ∧ (isO h308 x2 7) ∧ wX10_routeBlock x2 (mI h308 x0 (x5 + 1).toNatClampNeg) (mI h308 x0 (x5 + 2).toNatClampNeg) (mI h308 x0 (x5 + 3).toNatClampNeg) h308 (fun r315 h314 => (isO h314 x2 7) ∧ wX10_thrown x2 h314 (fun r317 h316 => ((r317 = r309 → ((¬ r309 = 0 → wL_law_L28 K T   n x0 x1 x2 x3 x4 (x5 + 4) h316) ∧ (r309 = 0 → (isA h316 x3 1) ∧ (vp_in 0 (ln h316 x3)) ∧ (((lg_cmp (mL h316 x3 0.toNatClampNeg) r315.toInt64) = 0 → wL_law_L28 K T   n x0 x1 x2 x3 x4 (x5 + 4) h316) ∧ (¬ (lg_cmp (mL h316 x3 0.toNatClampNeg) r315.toInt64) = 0 → K 0 h316))))) ∧ (¬ r317 = r309 → K 0 h316)))))) ∧ ((mI h x0 x5.toNatClampNeg &&& 63) = 19 → (vp_in (x5 + 1) (ln h x0)) ∧ (vp_in (x5 + 2) (ln h x0)) ∧ wL_paths x1 (mI h x0 (x5 + 1).toNatClampNeg) (mI h x0 (x5 + 2).toNatClampNeg) x3 h (fun r328 h327 => (isA h327 x0 0) ∧ (vp_in (x5 + 1) (ln h327 x0)) ∧ (vp_in (x5 + 2) (ln h327 x0)) ∧ (isO h327 x2 7) ∧ wX10_paths x2 (mI h327 x0 (x5 + 1).toNatClampNeg) (mI h327 x0 (x5 + 2).toNatClampNeg) h327 (fun r333 h332 => (isO h332 x2 7) ∧ wX10_thrown x2 h332 (fun r335 h334 => ((r335 = r328 → ((¬ r328 = 0 → wL_law_L28 K T   n x0 x1 x2 x3 x4 (x5 + 4) h334) ∧ (r328 = 0 → (isA h334 x3 1) ∧ (vp_in 0 (ln h334 x3)) ∧ (((lg_cmp (mL h334 x3 0.toNatClampNeg) r333.toInt64) = 0 → wL_law_L28 K T   n x0 x1 x2 x3 x4 (x5 + 4) h334) ∧ (¬ (lg_cmp (mL h334 x3 0.toNatClampNeg) r333.toInt64) = 0 → K 0 h334))))) ∧ (¬ r335 = r328 → K 0 h334)))))) ∧ ((mI h x0 x5.toNatClampNeg &&& 63) = 20 → (isO h x1 0) ∧ wX9_trains x1 h (fun r344 h343 => (isO h343 x2 7) ∧ wX10_trains x2 h343 (fun r346 h345 => ((r344 = r346 → wL_law_L28 K T   n x0 x1 x2 x3 x4 (x5 + 4) h345) ∧ (¬ r344 = r346 → K 0 h345))))) ∧ ((mI h x0 x5.toNatClampNeg &&& 63) = 21 → (vp_in (x5 + 1) (ln h x0)) ∧ (isO h x1 0) ∧ wX9_isPresent x1 (mI h x0 (x5 + 1).toNatClampNeg) h (fun r352 h351 => (isA h351 x0 0) ∧ (vp_in (x5 + 1) (ln h351 x0)) ∧ (isO h351 x2 7) ∧ wX10_isPresent x2 (mI h351 x0 (x5 + 1).toNatClampNeg) h351 (fun r356 h355 => ((r352 = r356 → wL_law_L28 K T   n x0 x1 x2 x3 x4 (x5 + 4) h355) ∧ (¬ r352 = r356 → K 0 h355))))) ∧ ((mI h x0 x5.toNatClampNeg &&& 63) = 22 → (vp_in (x5 + 1) (ln h x0)) ∧ wL_blockOf x1 (mI h x0 (x5 + 1).toNatClampNeg) x3 h (fun r362 h361 => (isA h361 x0 0) ∧ (vp_in (x5 + 1) (ln h361 x0)) ∧ (isO h361 x2 7) ∧ wX10_blockOf x2 (mI h361 x0 (x5 + 1).toNatClampNeg) h361 (fun r366 h365 => (isO h365 x2 7) ∧ wX10_thrown x2 h365 (fun r368 h367 => ((r368 = r362 → ((¬ r362 = 0 → wL_law_L28 K T   n x0 x1 x2 x3 x4 (x5 + 4) h367) ∧ (r362 = 0 → (isA h367 x3 1) ∧ (vp_in 0 (ln h367 x3)) ∧ (((lg_cmp (mL h367 x3 0.toNatClampNeg) r366.toInt64) = 0 → wL_law_L28 K T   n x0 x1 x2 x3 x4 (x5 + 4) h367) ∧ (¬ (lg_cmp (mL h367 x3 0.toNatClampNeg) r366.toInt64) = 0 → K 0 h367))))) ∧ (¬ r368 = r362 → K 0 h367)))))) ∧ ((mI h x0 x5.toNatClampNeg &&& 63) = 23 → (vp_in (x5 + 1) (ln h x0)) ∧ wL_destination x1 (mI h x0 (x5 + 1).toNatClampNeg) x3 h (fun r378 h377 => (isA h377 x0 0) ∧ (vp_in (x5 + 1) (ln h377 x0)) ∧ (isO h377 x2 7) ∧ wX10_destination x2 (mI h377 x0 (x5 + 1).toNatClampNeg) h377 (fun r382 h381 => (isO h381 x2 7) ∧ wX10_thrown x2 h381 (fun r384 h383 => ((r384 = r378 → ((¬ r378 = 0 → wL_law_L28 K T   n x0 x1 x2 x3 x4 (x5 + 4) h383) ∧ (r378 = 0 → (isA h383 x3 1) ∧ (vp_in 0 (ln h383 x3)) ∧ (((lg_cmp (mL h383 x3 0.toNatClampNeg) r382.toInt64) = 0 → wL_law_L28 K T   n x0 x1 x2 x3 x4 (x5 + 4) h383) ∧ (¬ (lg_cmp (mL h383 x3 0.toNatClampNeg) r382.toInt64) = 0 → K 0 h383))))) ∧ (¬ r384 = r378 → K 0 h383)))))) ∧ ((mI h x0 x5.toNatClampNeg &&& 63) = 24 → (vp_in (x5 + 1) (ln h x0)) ∧ wL_hasRoute x1 (mI h x0 (x5 + 1).toNatClampNeg) x3 h (fun r394 h393 => (isA h393 x0 0) ∧ (vp_in (x5 + 1) (ln h393 x0)) ∧ (isO h393 x2 7) ∧ wX10_hasRoute x2 (mI h393 x0 (x5 + 1).toNatClampNeg) h393 (fun r398 h397 => (isO h397 x2 7) ∧ wX10_thrown x2 h397 (fun r400 h399 => ((r400 = r394 → ((¬ r394 = 0 → wL_law_L28 K T   n x0 x1 x2 x3 x4 (x5 + 4) h399) ∧ (r394 = 0 → (isA h399 x3 1) ∧ (vp_in 0 (ln h399 x3)) ∧ ((r398 = 0 → (wL_law_J1683 K T (wL_law_L28 K T   n) x0 x1 x2 x3 x4 x5 (mL h399 x3 0.toNatClampNeg) 0 h399)) ∧ (¬ r398 = 0 → (wL_law_J1683 K T (wL_law_L28 K T   n) x0 x1 x2 x3 x4 x5 (mL h399 x3 0.toNatClampNeg) 1 h399)))))) ∧ (¬ r400 = r394 → K 0 h399)))))) ∧ ((mI h x0 x5.toNatClampNeg &&& 63) = 25 → (vp_in (x5 + 1) (ln h x0)) ∧ wL_isClear x1 (mI h x0 (x5 + 1).toNatClampNeg) x3 h (fun r411 h410 => (isA h410 x0 0) ∧ (vp_in (x5 + 1) (ln h410 x0)) ∧ (isO h410 x2 7) ∧ wX10_isClear x2 (mI h410 x0 (x5 + 1).toNatClampNeg) h410 (fun r415 h414 => (isO h414 x2 7) ∧ wX10_thrown x2 h414 (fun r417 h416 => ((r417 = r411 → ((¬ r411 = 0 → wL_law_L28 K T   n x0 x1 x2 x3 x4 (x5 + 4) h416) ∧ (r411 = 0 → (isA h416 x3 1) ∧ (vp_in 0 (ln h416 x3)) ∧ ((r415 = 0 → (wL_law_J1746 K T (wL_law_L28 K T   n) x0 x1 x2 x3 x4 x5 (mL h416 x3 0.toNatClampNeg) 0 h416)) ∧ (¬ r415 = 0 → (wL_law_J1746 K T (wL_law_L28 K T   n) x0 x1 x2 x3 x4 x5 (mL h416 x3 0.toNatClampNeg) 1 h416)))))) ∧ (¬ r417 = r411 → K 0 h416)))))) ∧ ((mI h x0 x5.toNatClampNeg &&& 63) = 26 → (vp_in (x5 + 1) (ln h x0)) ∧ wL_minutesUntilNext x1 (mI h x0 (x5 + 1).toNatClampNeg) x3 h (fun r428 h427 => (isA h427 x0 0) ∧ (vp_in (x5 + 1) (ln h427 x0)) ∧ (isO h427 x2 7) ∧ wX10_minutesUntilNext x2 (mI h427 x0 (x5 + 1).toNatClampNeg) h427 (fun r432 h431 => (isO h431 x2 7) ∧ wX10_thrown x2 h431 (fun r434 h433 => ((r434 = r428 → ((¬ r428 = 0 → wL_law_L28 K T   n x0 x1 x2 x3 x4 (x5 + 4) h433) ∧ (r428 = 0 → (isA h433 x3 1) ∧ (vp_in 0 (ln h433 x3)) ∧ (((lg_cmp (mL h433 x3 0.toNatClampNeg) r432.toInt64) = 0 → wL_law_L28 K T   n x0 x1 x2 x3 x4 (x5 + 4) h433) ∧ (¬ (lg_cmp (mL h433 x3 0.toNatClampNeg) r432.toInt64) = 0 → K 0 h433))))) ∧ (¬ r434 = r428 → K 0 h433)))))) ∧ ((mI h x0 x5.toNatClampNeg &&& 63) = 27 → (vp_in (x5 + 1) (ln h x0)) ∧ wL_minutesUntilArrival x1 (mI h x0 (x5 + 1).toNatClampNeg) x3 h (fun r444 h443 => (isA h443 x0 0) ∧ (vp_in (x5 + 1) (ln h443 x0)) ∧ (isO h443 x2 7) ∧ wX10_minutesUntilArrival x2 (mI h443 x0 (x5 + 1).toNatClampNeg) h443 (fun r448 h447 => (isO h447 x2 7) ∧ wX10_thrown x2 h447 (fun r450 h449 => ((r450 = r444 → ((¬ r444 = 0 → wL_law_L28 K T   n x0 x1 x2 x3 x4 (x5 + 4) h449) ∧ (r444 = 0 → (isA h449 x3 1) ∧ (vp_in 0 (ln h449 x3)) ∧ (((lg_cmp (mL h449 x3 0.toNatClampNeg) r448.toInt64) = 0 → wL_law_L28 K T   n x0 x1 x2 x3 x4 (x5 + 4) h449) ∧ (¬ (lg_cmp (mL h449 x3 0.toNatClampNeg) r448.toInt64) = 0 → K 0 h449))))) ∧ (¬ r450 = r444 → K 0 h449)))))) ∧ ((mI h x0 x5.toNatClampNeg &&& 63) = 28 → (vp_in (x5 + 1) (ln h x0)) ∧ wL_minutesUntilArrivalByPassing x1 (mI h x0 (x5 + 1).toNatClampNeg) x3 h (fun r460 h459 => (isA h459 x0 0) ∧ (vp_in (x5 + 1) (ln h459 x0)) ∧ (isO h459 x2 7) ∧ wX10_minutesUntilArrivalByPassing x2 (mI h459 x0 (x5 + 1).toNatClampNeg) h459 (fun r464 h463 => (isO h463 x2 7) ∧ wX10_thrown x2 h463 (fun r466 h465 => ((r466 = r460 → ((¬ r460 = 0 → wL_law_L28 K T   n x0 x1 x2 x3 x4 (x5 + 4) h465) ∧ (r460 = 0 → (isA h465 x3 1) ∧ (vp_in 0 (ln h465 x3)) ∧ (((lg_cmp (mL h465 x3 0.toNatClampNeg) r464.toInt64) = 0 → wL_law_L28 K T   n x0 x1 x2 x3 x4 (x5 + 4) h465) ∧ (¬ (lg_cmp (mL h465 x3 0.toNatClampNeg) r464.toInt64) = 0 → K 0 h465))))) ∧ (¬ r466 = r460 → K 0 h465)))))) ∧ ((mI h x0 x5.toNatClampNeg &&& 63) = 29 → (vp_in (x5 + 1) (ln h x0)) ∧ wL_delay x1 (mI h x0 (x5 + 1).toNatClampNeg) x3 h (fun r476 h475 => (isA h475 x0 0) ∧ (vp_in (x5 + 1) (ln h475 x0)) ∧ (isO h475 x2 7) ∧ wX10_delay x2 (mI h475 x0 (x5 + 1).toNatClampNeg) h475 (fun r480 h479 => (isO h479 x2 7) ∧ wX10_thrown x2 h479 (fun r482 h481 => ((r482 = r476 → ((¬ r476 = 0 → wL_law_L28 K T   n x0 x1 x2 x3 x4 (x5 + 4) h481) ∧ (r476 = 0 → (isA h481 x3 1) ∧ (vp_in 0 (ln h481 x3)) ∧ (((lg_cmp (mL h481 x3 0.toNatClampNeg) r480.toInt64) = 0 → wL_law_L28 K T   n x0 x1 x2 x3 x4 (x5 + 4) h481) ∧ (¬ (lg_cmp (mL h481 x3 0.toNatClampNeg) r480.toInt64) = 0 → K 0 h481))))) ∧ (¬ r482 = r476 → K 0 h481)))))) ∧ ((mI h x0 x5.toNatClampNeg &&& 63) = 30 → (vp_in (x5 + 1) (ln h x0)) ∧ wL_queued x1 (mI h x0 (x5 + 1).toNatClampNeg) x3 h (fun r492 h491 => (isA h491 x0 0) ∧ (vp_in (x5 + 1) (ln h491 x0)) ∧ (isO h491 x2 7) ∧ wX10_queued x2 (mI h491 x0 (x5 + 1).toNatClampNeg) h491 (fun r496 h495 => (isO h495 x2 7) ∧ wX10_thrown x2 h495 (fun r498 h497 => ((r498 = r492 → ((¬ r492 = 0 → wL_law_L28 K T   n x0 x1 x2 x3 x4 (x5 + 4) h497) ∧ (r492 = 0 → (isA h497 x3 1) ∧ (vp_in 0 (ln h497 x3)) ∧ (((lg_cmp (mL h497 x3 0.toNatClampNeg) r496.toInt64) = 0 → wL_law_L28 K T   n x0 x1 x2 x3 x4 (x5 + 4) h497) ∧ (¬ (lg_cmp (mL h497 x3 0.toNatClampNeg) r496.toInt64) = 0 → K 0 h497))))) ∧ (¬ r498 = r492 → K 0 h497)))))) ∧ ((mI h x0 x5.toNatClampNeg &&& 63) = 31 → (vp_in (x5 + 1) (ln h x0)) ∧ (vp_in (x5 + 2) (ln h x0)) ∧ wL_waitsFor x1 (mI h x0 (x5 + 1).toNatClampNeg) (mI h x0 (x5 + 2).toNatClampNeg) x3 h (fun r509 h508 => (isA h508 x0 0) ∧ (vp_in (x5 + 1) (ln h508 x0)) ∧ (vp_in (x5 + 2) (ln h508 x0)) ∧ (isO h508 x2 7) ∧ wX10_waitsFor x2 (mI h508 x0 (x5 + 1).toNatClampNeg) (mI h508 x0 (x5 + 2).toNatClampNeg) h508 (fun r514 h513 => (isO h513 x2 7) ∧ wX10_thrown x2 h513 (fun r516 h515 => ((r516 = r509 → ((¬ r509 = 0 → wL_law_L28 K T   n x0 x1 x2 x3 x4 (x5 + 4) h515) ∧ (r509 = 0 → (isA h515 x3 1) ∧ (vp_in 0 (ln h515 x3)) ∧ ((r514 = 0 → (wL_law_J2101 K T (wL_law_L28 K T   n) x0 x1 x2 x3 x4 x5 (mL h515 x3 0.toNatClampNeg) 0 h515)) ∧ (¬ r514 = 0 → (wL_law_J2101 K T (wL_law_L28 K T   n) x0 x1 x2 x3 x4 x5 (mL h515 x3 0.toNatClampNeg) 1 h515)))))) ∧ (¬ r516 = r509 → K 0 h515)))))) ∧ ((mI h x0 x5.toNatClampNeg &&& 63) = 32 → (isO h x1 0) ∧ wX9_deadlocked x1 h (fun r526 h525 => (isO h525 x2 7) ∧ wX10_deadlocked x2 h525 (fun r528 h527 => ((r526 = r528 → wL_law_L28 K T   n x0 x1 x2 x3 x4 (x5 + 4) h527) ∧ (¬ r526 = r528 → K 0 h527))))) ∧ ((mI h x0 x5.toNatClampNeg &&& 63) = 33 → (isO h x1 0) ∧ wX9_deadlockedByPairs x1 h (fun r533 h532 => (isO h532 x2 7) ∧ wX10_deadlockedByPairs x2 h532 (fun r535 h534 => ((r533 = r535 → wL_law_L28 K T   n x0 x1 x2 x3 x4 (x5 + 4) h534) ∧ (¬ r533 = r535 → K 0 h534))))) ∧ ((mI h x0 x5.toNatClampNeg &&& 63) = 34 → (vp_in (x5 + 1) (ln h x0)) ∧ (vp_in (x5 + 2) (ln h x0)) ∧ wL_conflict x1 (mI h x0 (x5 + 1).toNatClampNeg) (mI h x0 (x5 + 2).toNatClampNeg) x3 h (fun r542 h541 => (isA h541 x0 0) ∧ (vp_in (x5 + 1) (ln h541 x0)) ∧ (vp_in (x5 + 2) (ln h541 x0)) ∧ (isO h541 x2 7) ∧ wX10_conflict x2 (mI h541 x0 (x5 + 1).toNatClampNeg) (mI h541 x0 (x5 + 2).toNatClampNeg) h541 (fun r547 h546 => (isO h546 x2 7) ∧ wX10_thrown x2 h546 (fun r549 h548 => ((r549 = r542 → ((¬ r542 = 0 → wL_law_L28 K T   n x0 x1 x2 x3 x4 (x5 + 4) h548) ∧ (r542 = 0 → (isA h548 x3 1) ∧ (vp_in 0 (ln h548 x3)) ∧ ((r547 = 0 → (wL_law_J2202 K T (wL_law_L28 K T   n) x0 x1 x2 x3 x4 x5 (mL h548 x3 0.toNatClampNeg) 0 h548)) ∧ (¬ r547 = 0 → (wL_law_J2202 K T (wL_law_L28 K T   n) x0 x1 x2 x3 x4 x5 (mL h548 x3 0.toNatClampNeg) 1 h548)))))) ∧ (¬ r549 = r542 → K 0 h548)))))) ∧ ((mI h x0 x5.toNatClampNeg &&& 63) = 35 → (isO h x1 0) ∧ wX9_mostWithoutConflict x1 h (fun r559 h558 => (isO h558 x2 7) ∧ wX10_mostWithoutConflict x2 h558 (fun r561 h560 => ((r559 = r561 → wL_law_L28 K T   n x0 x1 x2 x3 x4 (x5 + 4) h560) ∧ (¬ r559 = r561 → K 0 h560))))) ∧ ((mI h x0 x5.toNatClampNeg &&& 63) = 36 → (isO h x1 0) ∧ wX9_mostWithoutConflictBySets x1 h (fun r566 h565 => (isO h565 x2 7) ∧ wX10_mostWithoutConflictBySets x2 h565 (fun r568 h567 => ((r566 = r568 → wL_law_L28 K T   n x0 x1 x2 x3 x4 (x5 + 4) h567) ∧ (¬ r566 = r568 → K 0 h567))))) ∧ ((mI h x0 x5.toNatClampNeg &&& 63) = 37 → wL_refusalReason x1 x3 h (fun r573 h572 => (isO h572 x2 7) ∧ wX10_refusalReason x2 h572 (fun r575 h574 => (isO h574 x2 7) ∧ wX10_thrown x2 h574 (fun r577 h576 => ((r577 = r573 → ((¬ r573 = 0 → wL_law_L28 K T   n x0 x1 x2 x3 x4 (x5 + 4) h576) ∧ (r573 = 0 → (isA h576 x3 1) ∧ (vp_in 0 (ln h576 x3)) ∧ (((lg_cmp (mL h576 x3 0.toNatClampNeg) r575.toInt64) = 0 → wL_law_L28 K T   n x0 x1 x2 x3 x4 (x5 + 4) h576) ∧ (¬ (lg_cmp (mL h576 x3 0.toNatClampNeg) r575.toInt64) = 0 → K 0 h576))))) ∧ (¬ r577 = r573 → K 0 h576)))))) ∧ ((mI h x0 x5.toNatClampNeg &&& 63) = 38 → wL_refusalBlock x1 x3 h (fun r586 h585 => (isO h585 x2 7) ∧ wX10_refusalBlock x2 h585 (fun r588 h587 => (isO h587 x2 7) ∧ wX10_thrown x2 h587 (fun r590 h589 => ((r590 = r586 → ((¬ r586 = 0 → wL_law_L28 K T   n x0 x1 x2 x3 x4 (x5 + 4) h589) ∧ (r586 = 0 → (isA h589 x3 1) ∧ (vp_in 0 (ln h589 x3)) ∧ (((lg_cmp (mL h589 x3 0.toNatClampNeg) r588.toInt64) = 0 → wL_law_L28 K T   n x0 x1 x2 x3 x4 (x5 + 4) h589) ∧ (¬ (lg_cmp (mL h589 x3 0.toNatClampNeg) r588.toInt64) = 0 → K 0 h589))))) ∧ (¬ r590 = r586 → K 0 h589)))))) ∧ ((mI h x0 x5.toNatClampNeg &&& 63) = 39 → (isO h x1 0) ∧ wX9_time x1 h (fun r599 h598 => (isO h598 x2 7) ∧ wX10_time x2 h598 (fun r601 h600 => ((r599 = r601 → wL_law_L28 K T   n x0 x1 x2 x3 x4 (x5 + 4) h600) ∧ (¬ r599 = r601 → K 0 h600))))) ∧ ((mI h x0 x5.toNatClampNeg &&& 63) = 40 → (isO h x1 0) ∧ wX9_arrived x1 h (fun r606 h605 => (isO h605 x2 7) ∧ wX10_arrived x2 h605 (fun r608 h607 => ((r606 = r608 → wL_law_L28 K T   n x0 x1 x2 x3 x4 (x5 + 4) h607) ∧ (¬ r606 = r608 → K 0 h607))))) ∧ ((mI h x0 x5.toNatClampNeg &&& 63) = 41 → (isO h x1 0) ∧ wX9_totalDelay x1 h (fun r613 h612 => (isO h612 x2 7) ∧ wX10_totalDelay x2 h612 (fun r615 h614 => (((lg_cmp r613 r615) = 0 → wL_law_L28 K T   n x0 x1 x2 x3 x4 (x5 + 4) h614) ∧ (¬ (lg_cmp r613 r615) = 0 → K 0 h614))))) ∧ ((mI h x0 x5.toNatClampNeg &&& 63) = 42 → wL_meanDelay x1 x4 h (fun r620 h619 => (isO h619 x2 7) ∧ wX10_meanDelay x2 h619 (fun r622 h621 => (isO h621 x2 7) ∧ wX10_thrown x2 h621 (fun r624 h623 => ((r624 = r620 → ((¬ r620 = 0 → wL_law_L28 K T   n x0 x1 x2 x3 x4 (x5 + 4) h623) ∧ (r620 = 0 → (isA h623 x4 2) ∧ (nZ ≤ x4) ∧ (vp_in 0 (ln h623 x4)) ∧ (((Op.cmpValue (FP.dcmp ((mL h623 x4 0.toNatClampNeg).toUInt64) r622) .l) = 0 → wL_law_L28 K T   n x0 x1 x2 x3 x4 (x5 + 4) h623) ∧ (¬ (Op.cmpValue (FP.dcmp ((mL h623 x4 0.toNatClampNeg).toUInt64) r622) .l) = 0 → (((Op.cmpValue (FP.dcmp ((mL h623 x4 0.toNatClampNeg).toUInt64) ((mL h623 x4 0.toNatClampNeg).toUInt64)) .l) = 0 → K 0 h623) ∧ (¬ (Op.cmpValue (FP.dcmp ((mL h623 x4 0.toNatClampNeg).toUInt64) ((mL h623 x4 0.toNatClampNeg).toUInt64)) .l) = 0 → ((¬ (Op.cmpValue (FP.dcmp r622 r622) .l) = 0 → wL_law_L28 K T   n x0 x1 x2 x3 x4 (x5 + 4) h623) ∧ ((Op.cmpValue (FP.dcmp r622 r622) .l) = 0 → K 0 h623))))))))) ∧ (¬ r624 = r620 → K 0 h623)))))) ∧ ((mI h x0 x5.toNatClampNeg &&& 63) = 43 → wL_usedShare x1 x4 h (fun r636 h635 => (isO h635 x2 7) ∧ wX10_usedShare x2 h635 (fun r638 h637 => (isO h637 x2 7) ∧ wX10_thrown x2 h637 (fun r640 h639 => ((r640 = r636 → ((¬ r636 = 0 → wL_law_L28 K T   n x0 x1 x2 x3 x4 (x5 + 4) h639) ∧ (r636 = 0 → (isA h639 x4 2) ∧ (nZ ≤ x4) ∧ (vp_in 0 (ln h639 x4)) ∧ (vf_n64 (FP.f2d r638)) ∧ (((Op.cmpValue (FP.dcmp ((mL h639 x4 0.toNatClampNeg).toUInt64) (FP.f2d r638)) .l) = 0 → wL_law_L28 K T   n x0 x1 x2 x3 x4 (x5 + 4) h639) ∧ (¬ (Op.cmpValue (FP.dcmp ((mL h639 x4 0.toNatClampNeg).toUInt64) (FP.f2d r638)) .l) = 0 → (((Op.cmpValue (FP.dcmp ((mL h639 x4 0.toNatClampNeg).toUInt64) ((mL h639 x4 0.toNatClampNeg).toUInt64)) .l) = 0 → K 0 h639) ∧ (¬ (Op.cmpValue (FP.dcmp ((mL h639 x4 0.toNatClampNeg).toUInt64) ((mL h639 x4 0.toNatClampNeg).toUInt64)) .l) = 0 → ((¬ (Op.cmpValue (FP.fcmp r638 r638) .l) = 0 → wL_law_L28 K T   n x0 x1 x2 x3 x4 (x5 + 4) h639) ∧ ((Op.cmpValue (FP.fcmp r638 r638) .l) = 0 → K 0 h639))))))))) ∧ (¬ r640 = r636 → K 0 h639)))))) ∧ ((mI h x0 x5.toNatClampNeg &&& 63) = 44 → (isO h x1 0) ∧ wX9_isConsistent x1 h (fun r653 h652 => (isO h652 x2 7) ∧ wX10_isConsistent x2 h652 (fun r655 h654 => ((r653 = r655 → wL_law_L28 K T   n x0 x1 x2 x3 x4 (x5 + 4) h654) ∧ (¬ r653 = r655 → K 0 h654))))) ∧ ((mI h x0 x5.toNatClampNeg &&& 63) = 45 → (isO h x1 0) ∧ wX9_writeBlocks x1 h (fun r660 h659 => (isO h659 x2 7) ∧ wX10_writeBlocks x2 h659 (fun r662 h661 => ((r660 = r662 → wL_law_L28 K T   n x0 x1 x2 x3 x4 (x5 + 4) h661) ∧ (¬ r660 = r662 → K 0 h661)))) T) ∧ ((mI h x0 x5.toNatClampNeg &&& 63) = 46 → (vp_in (x5 + 1) (ln h x0)) ∧ wL_writeTrain x1 (mI h x0 (x5 + 1).toNatClampNeg) x3 h (fun r668 h667 => (isA h667 x0 0) ∧ (vp_in (x5 + 1) (ln h667 x0)) ∧ (isO h667 x2 7) ∧ wX10_writeTrain x2 (mI h667 x0 (x5 + 1).toNatClampNeg) h667 (fun r672 h671 => (isO h671 x2 7) ∧ wX10_thrown x2 h671 (fun r674 h673 => ((r674 = r668 → ((¬ r668 = 0 → wL_law_L28 K T   n x0 x1 x2 x3 x4 (x5 + 4) h673) ∧ (r668 = 0 → (isA h673 x3 1) ∧ (vp_in 0 (ln h673 x3)) ∧ (((lg_cmp (mL h673 x3 0.toNatClampNeg) r672.toInt64) = 0 → wL_law_L28 K T   n x0 x1 x2 x3 x4 (x5 + 4) h673) ∧ (¬ (lg_cmp (mL h673 x3 0.toNatClampNeg) r672.toInt64) = 0 → K 0 h673))))) ∧ (¬ r674 = r668 → K 0 h673)))))) ∧ ((mI h x0 x5.toNatClampNeg &&& 63) = 47 → (vp_in (x5 + 1) (ln h x0)) ∧ wL_charAt x1 (mI h x0 (x5 + 1).toNatClampNeg) x3 h (fun r684 h683 => (isA h683 x0 0) ∧ (vp_in (x5 + 1) (ln h683 x0)) ∧ (isO h683 x2 7) ∧ wX10_charAt x2 (mI h683 x0 (x5 + 1).toNatClampNeg) h683 (fun r688 h687 => (isO h687 x2 7) ∧ wX10_thrown x2 h687 (fun r690 h689 => ((r690 = r684 → ((¬ r684 = 0 → wL_law_L28 K T   n x0 x1 x2 x3 x4 (x5 + 4) h689) ∧ (r684 = 0 → (isA h689 x3 1) ∧ (vp_in 0 (ln h689 x3)) ∧ (((lg_cmp (mL h689 x3 0.toNatClampNeg) r688.toInt64) = 0 → wL_law_L28 K T   n x0 x1 x2 x3 x4 (x5 + 4) h689) ∧ (¬ (lg_cmp (mL h689 x3 0.toNatClampNeg) r688.toInt64) = 0 → K 0 h689))))) ∧ (¬ r690 = r684 → K 0 h689)))))) ∧ ((mI h x0 x5.toNatClampNeg &&& 63) = 48 → (vp_in (x5 + 1) (ln h x0)) ∧ wL_type x1 (((mI h x0 (x5 + 1).toNatClampNeg).toUInt32 % 65536).toInt32) x3 h (fun r700 h699 => (isA h699 x0 0) ∧ (vp_in (x5 + 1) (ln h699 x0)) ∧ (isO h699 x2 7) ∧ wX10_type x2 (((mI h699 x0 (x5 + 1).toNatClampNeg).toUInt32 % 65536).toInt32) h699 (fun r704 h703 => (isO h703 x2 7) ∧ wX10_thrown x2 h703 (fun r706 h705 => ((r706 = r700 → ((¬ r700 = 0 → wL_law_L28 K T   n x0 x1 x2 x3 x4 (x5 + 4) h705) ∧ (r700 = 0 → (isA h705 x3 1) ∧ (vp_in 0 (ln h705 x3)) ∧ (((lg_cmp (mL h705 x3 0.toNatClampNeg) r704.toInt64) = 0 → wL_law_L28 K T   n x0 x1 x2 x3 x4 (x5 + 4) h705) ∧ (¬ (lg_cmp (mL h705 x3 0.toNatClampNeg) r704.toInt64) = 0 → K 0 h705))))) ∧ (¬ r706 = r700 → K 0 h705)))))) ∧ ((mI h x0 x5.toNatClampNeg &&& 63) = 49 → wL_run x1 x3 h (fun r715 h714 => (isO h714 x2 7) ∧ wX10_run x2 h714 (fun r717 h716 => (isO h716 x2 7) ∧ wX10_thrown x2 h716 (fun r719 h718 => ((r719 = r715 → ((¬ r715 = 0 → wL_law_L28 K T   n x0 x1 x2 x3 x4 (x5 + 4) h718) ∧ (r715 = 0 → (isA h718 x3 1) ∧ (vp_in 0 (ln h718 x3)) ∧ (((lg_cmp (mL h718 x3 0.toNatClampNeg) r717.toInt64) = 0 → wL_law_L28 K T   n x0 x1 x2 x3 x4 (x5 + 4) h718) ∧ (¬ (lg_cmp (mL h718 x3 0.toNatClampNeg) r717.toInt64) = 0 → K 0 h718))))) ∧ (¬ r719 = r715 → K 0 h718)))))) ∧ ((mI h x0 x5.toNatClampNeg &&& 63) = 50 → wL_errorPosition x1 x3 h (fun r728 h727 => (isO h727 x2 7) ∧ wX10_errorPosition x2 h727 (fun r730 h729 => (isO h729 x2 7) ∧ wX10_thrown x2 h729 (fun r732 h731 => ((r732 = r728 → ((¬ r728 = 0 → wL_law_L28 K T   n x0 x1 x2 x3 x4 (x5 + 4) h731) ∧ (r728 = 0 → (isA h731 x3 1) ∧ (vp_in 0 (ln h731 x3)) ∧ (((lg_cmp (mL h731 x3 0.toNatClampNeg) r730.toInt64) = 0 → wL_law_L28 K T   n x0 x1 x2 x3 x4 (x5 + 4) h731) ∧ (¬ (lg_cmp (mL h731 x3 0.toNatClampNeg) r730.toInt64) = 0 → K 0 h731))))) ∧ (¬ r732 = r728 → K 0 h731)))))) ∧ ((mI h x0 x5.toNatClampNeg &&& 63) = 51 → wL_failedCommand x1 x3 h (fun r741 h740 => (isO h740 x2 7) ∧ wX10_failedCommand x2 h740 (fun r743 h742 => (isO h742 x2 7) ∧ wX10_thrown x2 h742 (fun r745 h744 => ((r745 = r741 → ((¬ r741 = 0 → wL_law_L28 K T   n x0 x1 x2 x3 x4 (x5 + 4) h744) ∧ (r741 = 0 → (isA h744 x3 1) ∧ (vp_in 0 (ln h744 x3)) ∧ (((lg_cmp (mL h744 x3 0.toNatClampNeg) r743.toInt64) = 0 → wL_law_L28 K T   n x0 x1 x2 x3 x4 (x5 + 4) h744) ∧ (¬ (lg_cmp (mL h744 x3 0.toNatClampNeg) r743.toInt64) = 0 → K 0 h744))))) ∧ (¬ r745 = r741 → K 0 h744)))))) ∧ ((mI h x0 x5.toNatClampNeg &&& 63) = 52 → wL_undo x1 x3 h (fun r754 h753 => (isO h753 x2 7) ∧ wX10_undo x2 h753 (fun r756 h755 => (isO h755 x2 7) ∧ wX10_thrown x2 h755 (fun r758 h757 => ((r758 = r754 → ((¬ r754 = 0 → wL_law_L28 K T   n x0 x1 x2 x3 x4 (x5 + 4) h757) ∧ (r754 = 0 → (isA h757 x3 1) ∧ (vp_in 0 (ln h757 x3)) ∧ (((lg_cmp (mL h757 x3 0.toNatClampNeg) r756.toInt64) = 0 → wL_law_L28 K T   n x0 x1 x2 x3 x4 (x5 + 4) h757) ∧ (¬ (lg_cmp (mL h757 x3 0.toNatClampNeg) r756.toInt64) = 0 → K 0 h757))))) ∧ (¬ r758 = r754 → K 0 h757)))))) ∧ ((mI h x0 x5.toNatClampNeg &&& 63) = 53 → (isO h x1 0) ∧ wX9_save x1 h (fun r767 h766 => (isO h766 x2 7) ∧ wX10_save x2 h766 (fun r769 h768 => ((r767 = r769 → wL_law_L28 K T   n x0 x1 x2 x3 x4 (x5 + 4) h768) ∧ (¬ r767 = r769 → K 0 h768))))) ∧ ((mI h x0 x5.toNatClampNeg &&& 63) = 54 → wL_restore x1 x3 h (fun r774 h773 => (isO h773 x2 7) ∧ wX10_restore x2 h773 (fun r776 h775 => (isO h775 x2 7) ∧ wX10_thrown x2 h775 (fun r778 h777 => ((r778 = r774 → ((¬ r774 = 0 → wL_law_L28 K T   n x0 x1 x2 x3 x4 (x5 + 4) h777) ∧ (r774 = 0 → (isA h777 x3 1) ∧ (vp_in 0 (ln h777 x3)) ∧ (((lg_cmp (mL h777 x3 0.toNatClampNeg) r776.toInt64) = 0 → wL_law_L28 K T   n x0 x1 x2 x3 x4 (x5 + 4) h777) ∧ (¬ (lg_cmp (mL h777 x3 0.toNatClampNeg) r776.toInt64) = 0 → K 0 h777))))) ∧ (¬ r778 = r774 → K 0 h777)))))) ∧ (¬ (mI h x0 x5.toNatClampNeg &&& 63) = 0 ∧ ¬ (mI h x0 x5.toNatClampNeg &&& 63) = 1 ∧ ¬ (mI h x0 x5.toNatClampNeg &&& 63) = 2 ∧ ¬ (mI h x0 x5.toNatClampNeg &&& 63) = 3 ∧ ¬ (mI h x0 x5.toNatClampNeg &&& 63) = 4 ∧ ¬ (mI h x0 x5.toNatClampNeg &&& 63) = 5 ∧ ¬ (mI h x0 x5.toNatClampNeg &&& 63) = 6 ∧ ¬ (mI h x0 x5.toNatClampNeg &&& 63) = 7 ∧ ¬ (mI h x0 x5.toNatClampNeg &&& 63) = 8 ∧ ¬ (mI h x0 x5.toNatClampNeg &&& 63) = 9 ∧ ¬ (mI h x0 x5.toNatClampNeg &&& 63) = 10 ∧ ¬ (mI h x0 x5.toNatClampNeg &&& 63) = 11 ∧ ¬ (mI h x0 x5.toNatClampNeg &&& 63) = 12 ∧ ¬ (mI h x0 x5.toNatClampNeg &&& 63) = 13 ∧ ¬ (mI h x0 x5.toNatClampNeg &&& 63) = 14 ∧ ¬ (mI h x0 x5.toNatClampNeg &&& 63) = 15 ∧ ¬ (mI h x0 x5.toNatClampNeg &&& 63) = 16 ∧ ¬ (mI h x0 x5.toNatClampNeg &&& 63) = 17 ∧ ¬ (mI h x0 x5.toNatClampNeg &&& 63) = 18 ∧ ¬ (mI h x0 x5.toNatClampNeg &&& 63) = 19 ∧ ¬ (mI h x0 x5.toNatClampNeg &&& 63) = 20 ∧ ¬ (mI h x0 x5.toNatClampNeg &&& 63) = 21 ∧ ¬ (mI h x0 x5.toNatClampNeg &&& 63) = 22 ∧ ¬ (mI h x0 x5.toNatClampNeg &&& 63) = 23 ∧ ¬ (mI h x0 x5.toNatClampNeg &&& 63) = 24 ∧ ¬ (mI h x0 x5.toNatClampNeg &&& 63) = 25 ∧ ¬ (mI h x0 x5.toNatClampNeg &&& 63) = 26 ∧ ¬ (mI h x0 x5.toNatClampNeg &&& 63) = 27 ∧ ¬ (mI h x0 x5.toNatClampNeg &&& 63) = 28 ∧ ¬ (mI h x0 x5.toNatClampNeg &&& 63) = 29 ∧ ¬ (mI h x0 x5.toNatClampNeg &&& 63) = 30 ∧ ¬ (mI h x0 x5.toNatClampNeg &&& 63) = 31 ∧ ¬ (mI h x0 x5.toNatClampNeg &&& 63) = 32 ∧ ¬ (mI h x0 x5.toNatClampNeg &&& 63) = 33 ∧ ¬ (mI h x0 x5.toNatClampNeg &&& 63) = 34 ∧ ¬ (mI h x0 x5.toNatClampNeg &&& 63) = 35 ∧ ¬ (mI h x0 x5.toNatClampNeg &&& 63) = 36 ∧ ¬ (mI h x0 x5.toNatClampNeg &&& 63) = 37 ∧ ¬ (mI h x0 x5.toNatClampNeg &&& 63) = 38 ∧ ¬ (mI h x0 x5.toNatClampNeg &&& 63) = 39 ∧ ¬ (mI h x0 x5.toNatClampNeg &&& 63) = 40 ∧ ¬ (mI h x0 x5.toNatClampNeg &&& 63) = 41 ∧ ¬ (mI h x0 x5.toNatClampNeg &&& 63) = 42 ∧ ¬ (mI h x0 x5.toNatClampNeg &&& 63) = 43 ∧ ¬ (mI h x0 x5.toNatClampNeg &&& 63) = 44 ∧ ¬ (mI h x0 x5.toNatClampNeg &&& 63) = 45 ∧ ¬ (mI h x0 x5.toNatClampNeg &&& 63) = 46 ∧ ¬ (mI h x0 x5.toNatClampNeg &&& 63) = 47 ∧ ¬ (mI h x0 x5.toNatClampNeg &&& 63) = 48 ∧ ¬ (mI h x0 x5.toNatClampNeg &&& 63) = 49 ∧ ¬ (mI h x0 x5.toNatClampNeg &&& 63) = 50 ∧ ¬ (mI h x0 x5.toNatClampNeg &&& 63) = 51 ∧ ¬ (mI h x0 x5.toNatClampNeg &&& 63) = 52 ∧ ¬ (mI h x0 x5.toNatClampNeg &&& 63) = 53 ∧ ¬ (mI h x0 x5.toNatClampNeg &&& 63) = 54 → wL_law_L28 K T   n x0 x1 x2 x3 x4 (x5 + 4) h))))
def wL_law (a0 : Nat) (h : AH) (K : Int32 → AH → Prop) (T : String → AH → Prop) : Prop :=
  ∀ h1, h1 = nw h 1 0 → (¬ mN h = 0) ∧ wX9_init (mN h) h1 (fun h2 => ∀ h4, h4 = nw h2 8 0 → (¬ mN h2 = 0) ∧ wX10_init (mN h2) h4 (fun h5 => ∀ h7, h7 = nw h5 101 1 → ∀ h8, h8 = nw h7 102 1 → (∃ n786, n786 ≤ 513 ∧ wL_law_L28 K T  n786 a0 (mN h) (mN h2) (mN h5) (mN h7) 0 h8)))
